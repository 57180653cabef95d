/-! ===== the pure claim: what a battery answers ===== -/
variable {e : Nat} {d : Option Int32} {m : lc_St} {g : Nat → Nat → Nat}
theorem l_allCharge (hr : RM 8 d m g) (hi : Iv g) : ∀ k c acc n1 n2, c + k = g 0 0 → k < n1 → k < n2 → ∃ r, P_X0_allCharge_4 n1 acc (nI c) (nB g) = some r ∧ P_X4_allCharge_4 n2 acc (nI c) m = some r := by
  have h8 := hi.1
  intro k
  induction k with
  | zero =>
    intro c acc n1 n2 hc h1 h2
    obtain ⟨n1, rfl⟩ : ∃ q, n1 = q + 1 := ⟨n1 - 1, by omega⟩; obtain ⟨n2, rfl⟩ : ∃ q, n2 = q + 1 := ⟨n2 - 1, by omega⟩
    have hle : g 0 0 ≤ c := by omega
    rw [P_X0_allCharge_4, P_X4_allCharge_4]
    simp (disch := omega) only [nB_at, q_0, q_1, q_2, q_3, q_4, q_5, q_6, q_7, q_8, q_10, q_12, q_14, q_20, q_47, q_50, q_99, q_100, q_107, q_120, q_792, nI_ltI, nI_leI, nI_eq, q_okn, nI_clamp, nI_add, pk_mul, pk_sub, pk_div, q_nlt9, q_neg0, q_ne9, q_9ne, q_nle9, lc_let, q_ift, q_ifT, q_iff, q_bd, q_bd2, q_bd3, q_nbd, q_nbd2, ↓reduceIte, and_true, true_and, Nat.one_ne_zero, Nat.reduceEqDiff, Nat.reduceLeDiff, Nat.reduceLT, rm_nc hr, hle]
    exact ⟨acc, rfl, rfl⟩
  | succ k ih =>
    intro c acc n1 n2 hc h1 h2
    obtain ⟨n1, rfl⟩ : ∃ q, n1 = q + 1 := ⟨n1 - 1, by omega⟩; obtain ⟨n2, rfl⟩ : ∃ q, n2 = q + 1 := ⟨n2 - 1, by omega⟩
    have hlt : c < g 0 0 := by omega
    rw [P_X0_allCharge_4, P_X4_allCharge_4]
    simp (disch := omega) only [nB_at, q_0, q_1, q_2, q_3, q_4, q_5, q_6, q_7, q_8, q_10, q_12, q_14, q_20, q_47, q_50, q_99, q_100, q_107, q_120, q_792, nI_ltI, nI_leI, nI_eq, q_okn, nI_clamp, nI_add, pk_mul, pk_sub, pk_div, q_nlt9, q_neg0, q_ne9, q_9ne, q_nle9, lc_let, q_ift, q_ifT, q_iff, q_bd, q_bd2, q_bd3, q_nbd, q_nbd2, ↓reduceIte, and_true, true_and, Nat.one_ne_zero, Nat.reduceEqDiff, Nat.reduceLeDiff, Nat.reduceLT, rm_nc hr, x4_of1 hr hi hlt, Nat.not_le.mpr hlt]
    exact ih (c + 1) _ n1 n2 (by omega) (by omega) (by omega)
theorem q_allCharge (hr : RM 8 d m g) (hi : Iv g) : ∃ r, P_X0_allCharge (nB g) = some r ∧ P_X4_allCharge m = some r := by
  have h8 := hi.1
  exact l_allCharge hr hi (g 0 0) 0 _ _ _ (by omega) (q_FUn (by omega)) (q_FUn (by omega))
theorem l_allOwed (hr : RM 8 d m g) (hi : Iv g) : ∀ k c acc n1 n2, c + k = g 0 1 → k < n1 → k < n2 → ∃ r, P_X0_allOwed_4 n1 acc (nI c) (nB g) = some r ∧ P_X4_allOwed_4 n2 acc (nI c) m = some r := by
  have h8 := hi.2.1
  intro k
  induction k with
  | zero =>
    intro c acc n1 n2 hc h1 h2
    obtain ⟨n1, rfl⟩ : ∃ q, n1 = q + 1 := ⟨n1 - 1, by omega⟩; obtain ⟨n2, rfl⟩ : ∃ q, n2 = q + 1 := ⟨n2 - 1, by omega⟩
    have hle : g 0 1 ≤ c := by omega
    rw [P_X0_allOwed_4, P_X4_allOwed_4]
    simp (disch := omega) only [nB_at, q_0, q_1, q_2, q_3, q_4, q_5, q_6, q_7, q_8, q_10, q_12, q_14, q_20, q_47, q_50, q_99, q_100, q_107, q_120, q_792, nI_ltI, nI_leI, nI_eq, q_okn, nI_clamp, nI_add, pk_mul, pk_sub, pk_div, q_nlt9, q_neg0, q_ne9, q_9ne, q_nle9, lc_let, q_ift, q_ifT, q_iff, q_bd, q_bd2, q_bd3, q_nbd, q_nbd2, ↓reduceIte, and_true, true_and, Nat.one_ne_zero, Nat.reduceEqDiff, Nat.reduceLeDiff, Nat.reduceLT, rm_nl hr, hle]
    exact ⟨acc, rfl, rfl⟩
  | succ k ih =>
    intro c acc n1 n2 hc h1 h2
    obtain ⟨n1, rfl⟩ : ∃ q, n1 = q + 1 := ⟨n1 - 1, by omega⟩; obtain ⟨n2, rfl⟩ : ∃ q, n2 = q + 1 := ⟨n2 - 1, by omega⟩
    have hlt : c < g 0 1 := by omega
    rw [P_X0_allOwed_4, P_X4_allOwed_4]
    simp (disch := omega) only [nB_at, q_0, q_1, q_2, q_3, q_4, q_5, q_6, q_7, q_8, q_10, q_12, q_14, q_20, q_47, q_50, q_99, q_100, q_107, q_120, q_792, nI_ltI, nI_leI, nI_eq, q_okn, nI_clamp, nI_add, pk_mul, pk_sub, pk_div, q_nlt9, q_neg0, q_ne9, q_9ne, q_nle9, lc_let, q_ift, q_ifT, q_iff, q_bd, q_bd2, q_bd3, q_nbd, q_nbd2, ↓reduceIte, and_true, true_and, Nat.one_ne_zero, Nat.reduceEqDiff, Nat.reduceLeDiff, Nat.reduceLT, rm_nl hr, x4_ol2 hr hi hlt, Nat.not_le.mpr hlt]
    exact ih (c + 1) _ n1 n2 (by omega) (by omega) (by omega)
theorem q_allOwed (hr : RM 8 d m g) (hi : Iv g) : ∃ r, P_X0_allOwed (nB g) = some r ∧ P_X4_allOwed m = some r := by
  have h8 := hi.2.1
  exact l_allOwed hr hi (g 0 1) 0 _ _ _ (by omega) (q_FUn (by omega)) (q_FUn (by omega))
theorem l_bankrupt (hr : RM 8 d m g) (hi : Iv g) : ∀ k c acc n1 n2, c + k = g 0 0 → k < n1 → k < n2 → ∃ r, P_X0_bankruptCells_4 n1 acc (nI c) (nB g) = some r ∧ P_X4_bankrupts_4 n2 acc (nI c) m = some r := by
  have h8 := hi.1
  intro k
  induction k with
  | zero =>
    intro c acc n1 n2 hc h1 h2
    obtain ⟨n1, rfl⟩ : ∃ q, n1 = q + 1 := ⟨n1 - 1, by omega⟩; obtain ⟨n2, rfl⟩ : ∃ q, n2 = q + 1 := ⟨n2 - 1, by omega⟩
    have hle : g 0 0 ≤ c := by omega
    rw [P_X0_bankruptCells_4, P_X4_bankrupts_4]
    simp (disch := omega) only [nB_at, q_0, q_1, q_2, q_3, q_4, q_5, q_6, q_7, q_8, q_10, q_12, q_14, q_20, q_47, q_50, q_99, q_100, q_107, q_120, q_792, nI_ltI, nI_leI, nI_eq, q_okn, nI_clamp, nI_add, pk_mul, pk_sub, pk_div, q_nlt9, q_neg0, q_ne9, q_9ne, q_nle9, lc_let, q_ift, q_ifT, q_iff, q_bd, q_bd2, q_bd3, q_nbd, q_nbd2, ↓reduceIte, and_true, true_and, Nat.one_ne_zero, Nat.reduceEqDiff, Nat.reduceLeDiff, Nat.reduceLT, rm_nc hr, hle]
    exact ⟨acc, rfl, rfl⟩
  | succ k ih =>
    intro c acc n1 n2 hc h1 h2
    obtain ⟨n1, rfl⟩ : ∃ q, n1 = q + 1 := ⟨n1 - 1, by omega⟩; obtain ⟨n2, rfl⟩ : ∃ q, n2 = q + 1 := ⟨n2 - 1, by omega⟩
    have hlt : c < g 0 0 := by omega
    rw [P_X0_bankruptCells_4, P_X4_bankrupts_4]
    simp (disch := omega) only [nB_at, q_0, q_1, q_2, q_3, q_4, q_5, q_6, q_7, q_8, q_10, q_12, q_14, q_20, q_47, q_50, q_99, q_100, q_107, q_120, q_792, nI_ltI, nI_leI, nI_eq, q_okn, nI_clamp, nI_add, pk_mul, pk_sub, pk_div, q_nlt9, q_neg0, q_ne9, q_9ne, q_nle9, lc_let, q_ift, q_ifT, q_iff, q_bd, q_bd2, q_bd3, q_nbd, q_nbd2, ↓reduceIte, and_true, true_and, Nat.one_ne_zero, Nat.reduceEqDiff, Nat.reduceLeDiff, Nat.reduceLT, rm_nc hr, x0_bank hi hlt, x4_sound hr hi hlt, Nat.not_le.mpr hlt, P_X0_bankruptCells_26, P_X4_bankrupts_30]
    by_cases hb : g 4 c < 3
    · simp (disch := omega) only [hb, nB_at, q_0, q_1, q_2, q_3, q_4, q_5, q_6, q_7, q_8, q_10, q_12, q_14, q_20, q_47, q_50, q_99, q_100, q_107, q_120, q_792, nI_ltI, nI_leI, nI_eq, q_okn, nI_clamp, nI_add, pk_mul, pk_sub, pk_div, q_nlt9, q_neg0, q_ne9, q_9ne, q_nle9, lc_let, q_ift, q_ifT, q_iff, q_bd, q_bd2, q_bd3, q_nbd, q_nbd2, ↓reduceIte, and_true, true_and, Nat.one_ne_zero, Nat.reduceEqDiff, Nat.reduceLeDiff, Nat.reduceLT]
      have := ih (c + 1) acc n1 n2 (by omega) (by omega) (by omega)
      first | exact this | (have e : acc ||| nI 0 = acc := Int32.or_zero; simpa [e] using this)
    · simp (disch := omega) only [hb, nB_at, q_0, q_1, q_2, q_3, q_4, q_5, q_6, q_7, q_8, q_10, q_12, q_14, q_20, q_47, q_50, q_99, q_100, q_107, q_120, q_792, nI_ltI, nI_leI, nI_eq, q_okn, nI_clamp, nI_add, pk_mul, pk_sub, pk_div, q_nlt9, q_neg0, q_ne9, q_9ne, q_nle9, lc_let, q_ift, q_ifT, q_iff, q_bd, q_bd2, q_bd3, q_nbd, q_nbd2, ↓reduceIte, and_true, true_and, Nat.one_ne_zero, Nat.reduceEqDiff, Nat.reduceLeDiff, Nat.reduceLT]
      exact ih (c + 1) _ n1 n2 (by omega) (by omega) (by omega)
theorem q_bankrupt (hr : RM 8 d m g) (hi : Iv g) : ∃ r, P_X0_bankruptCells (nB g) = some r ∧ P_X4_bankrupts m = some r := by
  have h8 := hi.1
  exact l_bankrupt hr hi (g 0 0) 0 _ _ _ (by omega) (q_FUn (by omega)) (q_FUn (by omega))
/-- what the first loans sum to whose field f is c -/
def ow (g : Nat → Nat → Nat) (f c : Nat) : Nat → Nat
  | 0 => 0
  | n + 1 => ow g f c n + (if g f n = c then g 7 n else 0)
theorem ow_le (hi : Iv g) (f c : Nat) : ∀ n, n ≤ g 0 1 → ow g f c n ≤ 99 * n
  | 0, _ => Nat.le_refl _
  | n + 1, h => by
    have := ow_le hi f c n (by omega)
    have := hi.2.2.2 n (by omega)
    show ow g f c n + _ ≤ _
    split <;> omega
theorem l_owedBy (hi : Iv g) {c : Nat} (hc : c < 8) : ∀ k i n, i + k = g 0 1 → k < n → P_X0_owedBy_4 n (nI c) (nI (ow g 6 c i)) (nI i) (nB g) = some (nI (ow g 6 c (g 0 1))) := by
  have h8 := hi.2.1
  have h0 := hi.1
  intro k
  induction k with
  | zero =>
    intro i n hi1 h1
    obtain ⟨n, rfl⟩ : ∃ q, n = q + 1 := ⟨n - 1, by omega⟩
    have hle : g 0 1 ≤ i := by omega
    rw [P_X0_owedBy_4]
    simp (disch := omega) only [nB_at, q_0, q_1, q_2, q_3, q_4, q_5, q_6, q_7, q_8, q_10, q_12, q_14, q_20, q_47, q_50, q_99, q_100, q_107, q_120, q_792, nI_ltI, nI_leI, nI_eq, q_okn, nI_clamp, nI_add, pk_mul, pk_sub, pk_div, q_nlt9, q_neg0, q_ne9, q_9ne, q_nle9, lc_let, q_ift, q_ifT, q_iff, q_bd, q_bd2, q_bd3, q_nbd, q_nbd2, ↓reduceIte, and_true, true_and, Nat.one_ne_zero, Nat.reduceEqDiff, Nat.reduceLeDiff, Nat.reduceLT, hle]
    rw [show i = g 0 1 by omega]
  | succ k ih =>
    intro i n hi1 h1
    obtain ⟨n, rfl⟩ : ∃ q, n = q + 1 := ⟨n - 1, by omega⟩
    have hlt : i < g 0 1 := by omega
    have hl := hi.2.2.2 i hlt
    have hs := ow_le hi 6 c i (by omega)
    have h2 := ih (i + 1) n (by omega) (by omega)
    rw [P_X0_owedBy_4]
    simp (disch := omega) only [nB_at, q_0, q_1, q_2, q_3, q_4, q_5, q_6, q_7, q_8, q_10, q_12, q_14, q_20, q_47, q_50, q_99, q_100, q_107, q_120, q_792, nI_ltI, nI_leI, nI_eq, q_okn, nI_clamp, nI_add, pk_mul, pk_sub, pk_div, q_nlt9, q_neg0, q_ne9, q_9ne, q_nle9, lc_let, q_ift, q_ifT, q_iff, q_bd, q_bd2, q_bd3, q_nbd, q_nbd2, ↓reduceIte, and_true, true_and, Nat.one_ne_zero, Nat.reduceEqDiff, Nat.reduceLeDiff, Nat.reduceLT, Nat.not_le.mpr hlt, P_X0_owedBy_31]
    rw [ow] at h2
    by_cases hb : g 6 i = c
    · rw [if_pos hb] at h2
      rw [if_pos hb]; exact h2
    · rw [if_neg hb] at h2
      rw [if_neg hb]; exact h2
theorem x0_owedBy (hi : Iv g) {c : Nat} (hc : c < 8) : P_X0_owedBy (nI c) (nB g) = some (nI (ow g 6 c (g 0 1))) := by
  have h8 := hi.2.1
  have := l_owedBy hi hc (g 0 1) 0 lc_FU (by omega) (q_FUn (by omega))
  exact this
theorem l_owedTo (hi : Iv g) {c : Nat} (hc : c < 8) : ∀ k i n, i + k = g 0 1 → k < n → P_X0_owedTo_4 n (nI c) (nI (ow g 5 c i)) (nI i) (nB g) = some (nI (ow g 5 c (g 0 1))) := by
  have h8 := hi.2.1
  have h0 := hi.1
  intro k
  induction k with
  | zero =>
    intro i n hi1 h1
    obtain ⟨n, rfl⟩ : ∃ q, n = q + 1 := ⟨n - 1, by omega⟩
    have hle : g 0 1 ≤ i := by omega
    rw [P_X0_owedTo_4]
    simp (disch := omega) only [nB_at, q_0, q_1, q_2, q_3, q_4, q_5, q_6, q_7, q_8, q_10, q_12, q_14, q_20, q_47, q_50, q_99, q_100, q_107, q_120, q_792, nI_ltI, nI_leI, nI_eq, q_okn, nI_clamp, nI_add, pk_mul, pk_sub, pk_div, q_nlt9, q_neg0, q_ne9, q_9ne, q_nle9, lc_let, q_ift, q_ifT, q_iff, q_bd, q_bd2, q_bd3, q_nbd, q_nbd2, ↓reduceIte, and_true, true_and, Nat.one_ne_zero, Nat.reduceEqDiff, Nat.reduceLeDiff, Nat.reduceLT, hle]
    rw [show i = g 0 1 by omega]
  | succ k ih =>
    intro i n hi1 h1
    obtain ⟨n, rfl⟩ : ∃ q, n = q + 1 := ⟨n - 1, by omega⟩
    have hlt : i < g 0 1 := by omega
    have hl := hi.2.2.2 i hlt
    have hs := ow_le hi 5 c i (by omega)
    have h2 := ih (i + 1) n (by omega) (by omega)
    rw [P_X0_owedTo_4]
    simp (disch := omega) only [nB_at, q_0, q_1, q_2, q_3, q_4, q_5, q_6, q_7, q_8, q_10, q_12, q_14, q_20, q_47, q_50, q_99, q_100, q_107, q_120, q_792, nI_ltI, nI_leI, nI_eq, q_okn, nI_clamp, nI_add, pk_mul, pk_sub, pk_div, q_nlt9, q_neg0, q_ne9, q_9ne, q_nle9, lc_let, q_ift, q_ifT, q_iff, q_bd, q_bd2, q_bd3, q_nbd, q_nbd2, ↓reduceIte, and_true, true_and, Nat.one_ne_zero, Nat.reduceEqDiff, Nat.reduceLeDiff, Nat.reduceLT, Nat.not_le.mpr hlt, P_X0_owedTo_31]
    rw [ow] at h2
    by_cases hb : g 5 i = c
    · rw [if_pos hb] at h2
      rw [if_pos hb]; exact h2
    · rw [if_neg hb] at h2
      rw [if_neg hb]; exact h2
theorem x0_owedTo (hi : Iv g) {c : Nat} (hc : c < 8) : P_X0_owedTo (nI c) (nB g) = some (nI (ow g 5 c (g 0 1))) := by
  have h8 := hi.2.1
  have := l_owedTo hi hc (g 0 1) 0 lc_FU (by omega) (q_FUn (by omega))
  exact this
theorem l4_owedBy (hr : RM e d m g) (hi : Iv g) {c : Nat} (hc : c < 8) : ∀ k i n, i + k = g 0 1 → k < n → P_X4_owedBy_5 n (nI c) (nI 1) (nI (ow g 6 c i)) (nI i) m = some (nI (ow g 6 c (g 0 1))) := by
  have h8 := hi.2.1
  have h0 := hi.1
  intro k
  induction k with
  | zero =>
    intro i n hi1 h1
    obtain ⟨n, rfl⟩ : ∃ q, n = q + 1 := ⟨n - 1, by omega⟩
    have hle : g 0 1 ≤ i := by omega
    rw [P_X4_owedBy_5]
    simp (disch := omega) only [nB_at, q_0, q_1, q_2, q_3, q_4, q_5, q_6, q_7, q_8, q_10, q_12, q_14, q_20, q_47, q_50, q_99, q_100, q_107, q_120, q_792, nI_ltI, nI_leI, nI_eq, q_okn, nI_clamp, nI_add, pk_mul, pk_sub, pk_div, q_nlt9, q_neg0, q_ne9, q_9ne, q_nle9, lc_let, q_ift, q_ifT, q_iff, q_bd, q_bd2, q_bd3, q_nbd, q_nbd2, ↓reduceIte, and_true, true_and, Nat.one_ne_zero, Nat.reduceEqDiff, Nat.reduceLeDiff, Nat.reduceLT, hle, rm_nl hr]
    rw [show i = g 0 1 by omega]
  | succ k ih =>
    intro i n hi1 h1
    obtain ⟨n, rfl⟩ : ∃ q, n = q + 1 := ⟨n - 1, by omega⟩
    have hlt : i < g 0 1 := by omega
    have hl := hi.2.2.2 i hlt
    have hs := ow_le hi 6 c i (by omega)
    have h2 := ih (i + 1) n (by omega) (by omega)
    rw [P_X4_owedBy_5]
    simp (disch := omega) only [nB_at, q_0, q_1, q_2, q_3, q_4, q_5, q_6, q_7, q_8, q_10, q_12, q_14, q_20, q_47, q_50, q_99, q_100, q_107, q_120, q_792, nI_ltI, nI_leI, nI_eq, q_okn, nI_clamp, nI_add, pk_mul, pk_sub, pk_div, q_nlt9, q_neg0, q_ne9, q_9ne, q_nle9, lc_let, q_ift, q_ifT, q_iff, q_bd, q_bd2, q_bd3, q_nbd, q_nbd2, ↓reduceIte, and_true, true_and, Nat.one_ne_zero, Nat.reduceEqDiff, Nat.reduceLeDiff, Nat.reduceLT, Nat.not_le.mpr hlt, P_X4_owedBy_39, rm_nl hr, x4_ol1 hr hi hlt, x4_ol2 hr hi hlt]
    rw [ow] at h2
    by_cases hb : g 6 i = c
    · rw [if_pos hb] at h2
      rw [if_pos hb]; exact h2
    · rw [if_neg hb] at h2
      rw [if_neg hb]; exact h2
theorem x4_owedBy (hr : RM e d m g) (hi : Iv g) {c : Nat} (hc : c < 8) : P_X4_owedBy (nI c) (nI 1) m = some (nI (ow g 6 c (g 0 1))) := by
  have h8 := hi.2.1
  have := l4_owedBy hr hi hc (g 0 1) 0 lc_FU (by omega) (q_FUn (by omega))
  exact this
theorem l4_owedTo (hr : RM 8 d m g) (hi : Iv g) {c : Nat} (hc : c < 8) : ∀ k i n, i + k = g 0 1 → k < n → P_X4_owedBy_5 n (nI c) (nI 0) (nI (ow g 5 c i)) (nI i) m = some (nI (ow g 5 c (g 0 1))) := by
  have h8 := hi.2.1
  have h0 := hi.1
  intro k
  induction k with
  | zero =>
    intro i n hi1 h1
    obtain ⟨n, rfl⟩ : ∃ q, n = q + 1 := ⟨n - 1, by omega⟩
    have hle : g 0 1 ≤ i := by omega
    rw [P_X4_owedBy_5]
    simp (disch := omega) only [nB_at, q_0, q_1, q_2, q_3, q_4, q_5, q_6, q_7, q_8, q_10, q_12, q_14, q_20, q_47, q_50, q_99, q_100, q_107, q_120, q_792, nI_ltI, nI_leI, nI_eq, q_okn, nI_clamp, nI_add, pk_mul, pk_sub, pk_div, q_nlt9, q_neg0, q_ne9, q_9ne, q_nle9, lc_let, q_ift, q_ifT, q_iff, q_bd, q_bd2, q_bd3, q_nbd, q_nbd2, ↓reduceIte, and_true, true_and, Nat.one_ne_zero, Nat.reduceEqDiff, Nat.reduceLeDiff, Nat.reduceLT, hle, rm_nl hr]
    rw [show i = g 0 1 by omega]
  | succ k ih =>
    intro i n hi1 h1
    obtain ⟨n, rfl⟩ : ∃ q, n = q + 1 := ⟨n - 1, by omega⟩
    have hlt : i < g 0 1 := by omega
    have hl := hi.2.2.2 i hlt
    have hs := ow_le hi 5 c i (by omega)
    have h2 := ih (i + 1) n (by omega) (by omega)
    rw [P_X4_owedBy_5]
    simp (disch := omega) only [nB_at, q_0, q_1, q_2, q_3, q_4, q_5, q_6, q_7, q_8, q_10, q_12, q_14, q_20, q_47, q_50, q_99, q_100, q_107, q_120, q_792, nI_ltI, nI_leI, nI_eq, q_okn, nI_clamp, nI_add, pk_mul, pk_sub, pk_div, q_nlt9, q_neg0, q_ne9, q_9ne, q_nle9, lc_let, q_ift, q_ifT, q_iff, q_bd, q_bd2, q_bd3, q_nbd, q_nbd2, ↓reduceIte, and_true, true_and, Nat.one_ne_zero, Nat.reduceEqDiff, Nat.reduceLeDiff, Nat.reduceLT, Nat.not_le.mpr hlt, P_X4_owedBy_39, rm_nl hr, x4_ol0 hr hi hlt, x4_ol2 hr hi hlt]
    rw [ow] at h2
    by_cases hb : g 5 i = c
    · rw [if_pos hb] at h2
      rw [if_pos hb]; exact h2
    · rw [if_neg hb] at h2
      rw [if_neg hb]; exact h2
theorem x4_owedTo (hr : RM 8 d m g) (hi : Iv g) {c : Nat} (hc : c < 8) : P_X4_owedBy (nI c) (nI 0) m = some (nI (ow g 5 c (g 0 1))) := by
  have h8 := hi.2.1
  have := l4_owedTo hr hi hc (g 0 1) 0 lc_FU (by omega) (q_FUn (by omega))
  exact this
/-- a loan's interest -/
def itr (g : Nat → Nat → Nat) (i : Nat) : Nat := (g 7 i * g 8 i + 99) / 100
theorem itr_le (hi : Iv g) {i : Nat} (h : i < g 0 1) : g 7 i * g 8 i ≤ 99 * 50 ∧ itr g i ≤ 50 := by
  have hl := hi.2.2.2 i h
  have : g 7 i * g 8 i ≤ 99 * 50 := Nat.mul_le_mul (by omega) (by omega)
  refine ⟨this, ?_⟩
  unfold itr; omega
theorem x0_interest (hi : Iv g) {i : Nat} (h : i < g 0 1) : P_X0_interestOf (nI i) (nB g) = some (nI (itr g i)) := by
  have h8 := hi.2.1
  have := itr_le hi h
  unfold P_X0_interestOf
  rw [x0_hasL hi (by omega), if_pos h, q_bd, if_neg (by decide +kernel)]
  simp (disch := omega) only [nB_at, q_0, q_1, q_2, q_3, q_4, q_5, q_6, q_7, q_8, q_10, q_12, q_14, q_20, q_47, q_50, q_99, q_100, q_107, q_120, q_792, nI_ltI, nI_leI, nI_eq, q_okn, nI_clamp, nI_add, pk_mul, pk_sub, pk_div, q_nlt9, q_neg0, q_ne9, q_9ne, q_nle9, lc_let, q_ift, q_ifT, q_iff, q_bd, q_bd2, q_bd3, q_nbd, q_nbd2, ↓reduceIte, and_true, true_and, Nat.one_ne_zero, Nat.reduceEqDiff, Nat.reduceLeDiff, Nat.reduceLT]
  rfl
theorem x4_interest (hr : RM 8 d m g) (hi : Iv g) {i : Nat} (h : i < g 0 1) : P_X4_interest (nI i) m = some (nI (itr g i)) := by
  have h8 := hi.2.1
  have := itr_le hi h
  unfold P_X4_interest
  simp (disch := omega) only [nB_at, q_0, q_1, q_2, q_3, q_4, q_5, q_6, q_7, q_8, q_10, q_12, q_14, q_20, q_47, q_50, q_99, q_100, q_107, q_120, q_792, nI_ltI, nI_leI, nI_eq, q_okn, nI_clamp, nI_add, pk_mul, pk_sub, pk_div, q_nlt9, q_neg0, q_ne9, q_9ne, q_nle9, lc_let, q_ift, q_ifT, q_iff, q_bd, q_bd2, q_bd3, q_nbd, q_nbd2, ↓reduceIte, and_true, true_and, Nat.one_ne_zero, Nat.reduceEqDiff, Nat.reduceLeDiff, Nat.reduceLT, x4_ol2 hr hi h, x4_ol3 hr hi h]
  rfl
theorem l_interestBy (hr : RM 8 d m g) (hi : Iv g) {c : Nat} (hc : c < 8) : ∀ k i acc n1 n2, i + k = g 0 1 → k < n1 → k < n2 → ∃ r, P_X0_interestBy_4 n1 (nI c) acc (nI i) (nB g) = some r ∧ P_X4_interestOf_4 n2 (nI c) acc (nI i) m = some r := by
  have h8 := hi.2.1
  have h0 := hi.1
  intro k
  induction k with
  | zero =>
    intro i acc n1 n2 hi1 h1 h2
    obtain ⟨n1, rfl⟩ : ∃ q, n1 = q + 1 := ⟨n1 - 1, by omega⟩; obtain ⟨n2, rfl⟩ : ∃ q, n2 = q + 1 := ⟨n2 - 1, by omega⟩
    have hle : g 0 1 ≤ i := by omega
    rw [P_X0_interestBy_4, P_X4_interestOf_4]
    simp (disch := omega) only [nB_at, q_0, q_1, q_2, q_3, q_4, q_5, q_6, q_7, q_8, q_10, q_12, q_14, q_20, q_47, q_50, q_99, q_100, q_107, q_120, q_792, nI_ltI, nI_leI, nI_eq, q_okn, nI_clamp, nI_add, pk_mul, pk_sub, pk_div, q_nlt9, q_neg0, q_ne9, q_9ne, q_nle9, lc_let, q_ift, q_ifT, q_iff, q_bd, q_bd2, q_bd3, q_nbd, q_nbd2, ↓reduceIte, and_true, true_and, Nat.one_ne_zero, Nat.reduceEqDiff, Nat.reduceLeDiff, Nat.reduceLT, hle, rm_nl hr]
    exact ⟨acc, rfl, rfl⟩
  | succ k ih =>
    intro i acc n1 n2 hi1 h1 h2
    obtain ⟨n1, rfl⟩ : ∃ q, n1 = q + 1 := ⟨n1 - 1, by omega⟩; obtain ⟨n2, rfl⟩ : ∃ q, n2 = q + 1 := ⟨n2 - 1, by omega⟩
    have hlt : i < g 0 1 := by omega
    have hl := hi.2.2.2 i hlt
    rw [P_X0_interestBy_4, P_X4_interestOf_4]
    simp (disch := omega) only [nB_at, q_0, q_1, q_2, q_3, q_4, q_5, q_6, q_7, q_8, q_10, q_12, q_14, q_20, q_47, q_50, q_99, q_100, q_107, q_120, q_792, nI_ltI, nI_leI, nI_eq, q_okn, nI_clamp, nI_add, pk_mul, pk_sub, pk_div, q_nlt9, q_neg0, q_ne9, q_9ne, q_nle9, lc_let, q_ift, q_ifT, q_iff, q_bd, q_bd2, q_bd3, q_nbd, q_nbd2, ↓reduceIte, and_true, true_and, Nat.one_ne_zero, Nat.reduceEqDiff, Nat.reduceLeDiff, Nat.reduceLT, Nat.not_le.mpr hlt, P_X0_interestBy_30, P_X4_interestOf_34, rm_nl hr, x4_ol1 hr hi hlt, x0_interest hi hlt, x4_interest hr hi hlt]
    by_cases hb : g 6 i = c
    · rw [if_pos hb, if_pos hb]
      exact ih (i + 1) _ n1 n2 (by omega) (by omega) (by omega)
    · rw [if_neg hb, if_neg hb]
      have e : acc + nI 0 = acc := Int32.add_zero acc
      rw [e]
      exact ih (i + 1) _ n1 n2 (by omega) (by omega) (by omega)
theorem q_interestBy (hr : RM 8 d m g) (hi : Iv g) {c : Nat} (hc : c < 8) : ∃ r, P_X0_interestBy (nI c) (nB g) = some r ∧ P_X4_interestOf (nI c) m = some r := by
  have h8 := hi.2.1
  exact l_interestBy hr hi hc (g 0 1) 0 _ _ _ (by omega) (q_FUn (by omega)) (q_FUn (by omega))
theorem q_kind (hr : RM 8 d m g) (hi : Iv g) {c : Nat} (hc : c < g 0 0) : ∃ r, P_X0_kindOf (nI c) (nB g) = some r ∧ P_X4_kindOf (nI c) m = some r := by
  have h8 := hi.1
  have h12 := hi.2.1
  have hl := hi.2.2.1 c hc
  have hw := ow_le hi 6 c (g 0 1) (Nat.le_refl _)
  unfold P_X0_kindOf P_X4_kindOf P_X0_kindOf_29
  simp (disch := omega) only [nB_at, q_0, q_1, q_2, q_3, q_4, q_5, q_6, q_7, q_8, q_10, q_12, q_14, q_20, q_47, q_50, q_99, q_100, q_107, q_120, q_792, nI_ltI, nI_leI, nI_eq, q_okn, nI_clamp, nI_add, pk_mul, pk_sub, pk_div, q_nlt9, q_neg0, q_ne9, q_9ne, q_nle9, lc_let, q_ift, q_ifT, q_iff, q_bd, q_bd2, q_bd3, q_nbd, q_nbd2, ↓reduceIte, and_true, true_and, Nat.one_ne_zero, Nat.reduceEqDiff, Nat.reduceLeDiff, Nat.reduceLT, x0_bank hi hc, x4_sound hr hi hc, x0_has hi (show c < 2 ^ 31 by omega), hc, x4_of3 hr hi hc, x0_owedBy hi (show c < 8 by omega), x4_owedBy hr hi (show c < 8 by omega)]
  by_cases h3 : g 4 c < 3
  · simp (disch := omega) only [h3, nB_at, q_0, q_1, q_2, q_3, q_4, q_5, q_6, q_7, q_8, q_10, q_12, q_14, q_20, q_47, q_50, q_99, q_100, q_107, q_120, q_792, nI_ltI, nI_leI, nI_eq, q_okn, nI_clamp, nI_add, pk_mul, pk_sub, pk_div, q_nlt9, q_neg0, q_ne9, q_9ne, q_nle9, lc_let, q_ift, q_ifT, q_iff, q_bd, q_bd2, q_bd3, q_nbd, q_nbd2, ↓reduceIte, and_true, true_and, Nat.one_ne_zero, Nat.reduceEqDiff, Nat.reduceLeDiff, Nat.reduceLT]
    by_cases h4 : g 4 c ≤ 0
    · simp (disch := omega) only [h4, nB_at, q_0, q_1, q_2, q_3, q_4, q_5, q_6, q_7, q_8, q_10, q_12, q_14, q_20, q_47, q_50, q_99, q_100, q_107, q_120, q_792, nI_ltI, nI_leI, nI_eq, q_okn, nI_clamp, nI_add, pk_mul, pk_sub, pk_div, q_nlt9, q_neg0, q_ne9, q_9ne, q_nle9, lc_let, q_ift, q_ifT, q_iff, q_bd, q_bd2, q_bd3, q_nbd, q_nbd2, ↓reduceIte, and_true, true_and, Nat.one_ne_zero, Nat.reduceEqDiff, Nat.reduceLeDiff, Nat.reduceLT]
      by_cases h5 : ow g 6 c (g 0 1) ≤ 0
      · simp (disch := omega) only [h5, nB_at, q_0, q_1, q_2, q_3, q_4, q_5, q_6, q_7, q_8, q_10, q_12, q_14, q_20, q_47, q_50, q_99, q_100, q_107, q_120, q_792, nI_ltI, nI_leI, nI_eq, q_okn, nI_clamp, nI_add, pk_mul, pk_sub, pk_div, q_nlt9, q_neg0, q_ne9, q_9ne, q_nle9, lc_let, q_ift, q_ifT, q_iff, q_bd, q_bd2, q_bd3, q_nbd, q_nbd2, ↓reduceIte, and_true, true_and, Nat.one_ne_zero, Nat.reduceEqDiff, Nat.reduceLeDiff, Nat.reduceLT]; exact ⟨_, rfl, rfl⟩
      · simp (disch := omega) only [h5, nB_at, q_0, q_1, q_2, q_3, q_4, q_5, q_6, q_7, q_8, q_10, q_12, q_14, q_20, q_47, q_50, q_99, q_100, q_107, q_120, q_792, nI_ltI, nI_leI, nI_eq, q_okn, nI_clamp, nI_add, pk_mul, pk_sub, pk_div, q_nlt9, q_neg0, q_ne9, q_9ne, q_nle9, lc_let, q_ift, q_ifT, q_iff, q_bd, q_bd2, q_bd3, q_nbd, q_nbd2, ↓reduceIte, and_true, true_and, Nat.one_ne_zero, Nat.reduceEqDiff, Nat.reduceLeDiff, Nat.reduceLT]; exact ⟨_, rfl, rfl⟩
    · simp (disch := omega) only [h4, nB_at, q_0, q_1, q_2, q_3, q_4, q_5, q_6, q_7, q_8, q_10, q_12, q_14, q_20, q_47, q_50, q_99, q_100, q_107, q_120, q_792, nI_ltI, nI_leI, nI_eq, q_okn, nI_clamp, nI_add, pk_mul, pk_sub, pk_div, q_nlt9, q_neg0, q_ne9, q_9ne, q_nle9, lc_let, q_ift, q_ifT, q_iff, q_bd, q_bd2, q_bd3, q_nbd, q_nbd2, ↓reduceIte, and_true, true_and, Nat.one_ne_zero, Nat.reduceEqDiff, Nat.reduceLeDiff, Nat.reduceLT]; exact ⟨_, rfl, rfl⟩
  · simp (disch := omega) only [h3, nB_at, q_0, q_1, q_2, q_3, q_4, q_5, q_6, q_7, q_8, q_10, q_12, q_14, q_20, q_47, q_50, q_99, q_100, q_107, q_120, q_792, nI_ltI, nI_leI, nI_eq, q_okn, nI_clamp, nI_add, pk_mul, pk_sub, pk_div, q_nlt9, q_neg0, q_ne9, q_9ne, q_nle9, lc_let, q_ift, q_ifT, q_iff, q_bd, q_bd2, q_bd3, q_nbd, q_nbd2, ↓reduceIte, and_true, true_and, Nat.one_ne_zero, Nat.reduceEqDiff, Nat.reduceLeDiff, Nat.reduceLT]
    exact ⟨_, rfl, rfl⟩
