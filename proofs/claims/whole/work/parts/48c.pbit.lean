/-! ===== the pure claim: bits ===== -/
variable {d : Option Int32} {m : lc_St} {g : Nat → Nat → Nat}
theorem l_bankrupt2 (hr : RM 8 d m g) (hi : Iv g) : ∀ k c a n1 n2, a < 256 → c + k = g 0 0 → k < n1 → k < n2 → ∃ s, s < 256 ∧ P_X0_bankruptCells_4 n1 (nI a) (nI c) (nB g) = some (nI s) ∧ P_X4_bankrupts_4 n2 (nI a) (nI c) m = some (nI s) := by
  have h8 := hi.1
  intro k
  induction k with
  | zero =>
    intro c a n1 n2 ha hc h1 h2
    obtain ⟨n1, rfl⟩ : ∃ q, n1 = q + 1 := ⟨n1 - 1, by omega⟩; obtain ⟨n2, rfl⟩ : ∃ q, n2 = q + 1 := ⟨n2 - 1, by omega⟩
    have hle : g 0 0 ≤ c := by omega
    rw [P_X0_bankruptCells_4, P_X4_bankrupts_4]
    simp (disch := omega) only [nB_at, q_0, q_1, q_2, q_3, q_4, q_5, q_6, q_7, q_8, q_10, q_12, q_14, q_20, q_47, q_50, q_99, q_100, q_107, q_120, q_792, nI_ltI, nI_leI, nI_eq, q_okn, nI_clamp, nI_add, pk_mul, pk_sub, pk_div, q_nlt9, q_neg0, q_ne9, q_9ne, q_nle9, lc_let, q_ift, q_ifT, q_iff, q_bd, q_bd2, q_bd3, q_nbd, q_nbd2, ↓reduceIte, and_true, true_and, Nat.one_ne_zero, Nat.reduceEqDiff, Nat.reduceLeDiff, Nat.reduceLT, rm_nc hr, hle]
    exact ⟨a, ha, rfl, rfl⟩
  | succ k ih =>
    intro c a n1 n2 ha hc h1 h2
    obtain ⟨n1, rfl⟩ : ∃ q, n1 = q + 1 := ⟨n1 - 1, by omega⟩; obtain ⟨n2, rfl⟩ : ∃ q, n2 = q + 1 := ⟨n2 - 1, by omega⟩
    have hlt : c < g 0 0 := by omega
    rw [P_X0_bankruptCells_4, P_X4_bankrupts_4]
    simp (disch := omega) only [nB_at, q_0, q_1, q_2, q_3, q_4, q_5, q_6, q_7, q_8, q_10, q_12, q_14, q_20, q_47, q_50, q_99, q_100, q_107, q_120, q_792, nI_ltI, nI_leI, nI_eq, q_okn, nI_clamp, nI_add, pk_mul, pk_sub, pk_div, q_nlt9, q_neg0, q_ne9, q_9ne, q_nle9, lc_let, q_ift, q_ifT, q_iff, q_bd, q_bd2, q_bd3, q_nbd, q_nbd2, ↓reduceIte, and_true, true_and, Nat.one_ne_zero, Nat.reduceEqDiff, Nat.reduceLeDiff, Nat.reduceLT, rm_nc hr, x0_bank hi hlt, x4_sound hr hi hlt, Nat.not_le.mpr hlt, P_X0_bankruptCells_26, P_X4_bankrupts_30]
    by_cases hb : g 4 c < 3
    · simp (disch := omega) only [hb, nB_at, q_0, q_1, q_2, q_3, q_4, q_5, q_6, q_7, q_8, q_10, q_12, q_14, q_20, q_47, q_50, q_99, q_100, q_107, q_120, q_792, nI_ltI, nI_leI, nI_eq, q_okn, nI_clamp, nI_add, pk_mul, pk_sub, pk_div, q_nlt9, q_neg0, q_ne9, q_9ne, q_nle9, lc_let, q_ift, q_ifT, q_iff, q_bd, q_bd2, q_bd3, q_nbd, q_nbd2, ↓reduceIte, and_true, true_and, Nat.one_ne_zero, Nat.reduceEqDiff, Nat.reduceLeDiff, Nat.reduceLT]
      have := ih (c + 1) a n1 n2 ha (by omega) (by omega) (by omega)
      first | exact this | (have e : nI a ||| nI 0 = nI a := Int32.or_zero; rw [e]; exact this)
    · simp (disch := omega) only [hb, nB_at, q_0, q_1, q_2, q_3, q_4, q_5, q_6, q_7, q_8, q_10, q_12, q_14, q_20, q_47, q_50, q_99, q_100, q_107, q_120, q_792, nI_ltI, nI_leI, nI_eq, q_okn, nI_clamp, nI_add, pk_mul, pk_sub, pk_div, q_nlt9, q_neg0, q_ne9, q_9ne, q_nle9, lc_let, q_ift, q_ifT, q_iff, q_bd, q_bd2, q_bd3, q_nbd, q_nbd2, ↓reduceIte, and_true, true_and, Nat.one_ne_zero, Nat.reduceEqDiff, Nat.reduceLeDiff, Nat.reduceLT]
      obtain ⟨e1, e2⟩ := nI_or8 a ha c (by omega)
      have e3 : nI a ||| nI 1 <<< (nI c &&& 31) = nI (a ||| 2 ^ c) := e1
      have := ih (c + 1) (a ||| 2 ^ c) n1 n2 e2 (by omega) (by omega) (by omega)
      rw [← e3] at this
      exact this
theorem q_bankrupt2 (hr : RM 8 d m g) (hi : Iv g) : ∃ s, s < 256 ∧ P_X0_bankruptCells (nB g) = some (nI s) ∧ P_X4_bankrupts m = some (nI s) := by
  have h8 := hi.1
  exact l_bankrupt2 hr hi (g 0 0) 0 0 _ _ (by omega) (by omega) (q_FUn (by omega)) (q_FUn (by omega))
