/-! ===== the pure claim: rounds, charging, a new cell ===== -/
variable {e : Nat} {d : Option Int32} {m : lc_St} {g : Nat → Nat → Nat}
theorem nI_or (a b : Nat) : nI a ||| nI b = nI (a ||| b) := by
  apply Int32.toBitVec_inj.mp
  show (BitVec.ofNat 32 a) ||| (BitVec.ofNat 32 b) = BitVec.ofNat 32 (a ||| b)
  exact BitVec.ofNat_or.symm
theorem l_rounds {N : Nat} (hN : N ≤ 100) : ∀ k i a (g : Nat → Nat → Nat) (m : lc_St) n1 n2, RM 8 d m g → Iv g → a < 256 → i + k = N → k < n1 → k < n2 → ∃ r g' m', P_X0_letRoundsGoBy_4 n1 (nI N) (nI a) (nI i) (nB g) = some (nI r, nB g') ∧ P_X4_rounds_4 n2 (nI N) (nI a) (nI i) m = some (nI r, m') ∧ RM 8 d m' g' ∧ Iv g' ∧ Fr m m' ∧ g' 0 0 = g 0 0 ∧ r < 256 := by
  intro k
  induction k with
  | zero =>
    intro i a g m n1 n2 hr hi ha hk h1 h2
    obtain ⟨n1, rfl⟩ : ∃ q, n1 = q + 1 := ⟨n1 - 1, by omega⟩; obtain ⟨n2, rfl⟩ : ∃ q, n2 = q + 1 := ⟨n2 - 1, by omega⟩
    rw [P_X0_letRoundsGoBy_4, P_X4_rounds_4]
    simp (disch := omega) only [nI_ltI, nI_leI, nI_eq, q_okn, nI_clamp, nI_add, pk_mul, pk_sub, pk_div, q_nlt9, q_neg0, q_ne9, q_9ne, q_nle9, show N ≤ i by omega, ↓reduceIte]
    exact ⟨a, g, m, rfl, rfl, hr, hi, Fr.rf m, rfl, ha⟩
  | succ k ih =>
    intro i a g m n1 n2 hr hi ha hk h1 h2
    obtain ⟨n1, rfl⟩ : ∃ q, n1 = q + 1 := ⟨n1 - 1, by omega⟩; obtain ⟨n2, rfl⟩ : ∃ q, n2 = q + 1 := ⟨n2 - 1, by omega⟩
    obtain ⟨s, g1, m1, p1, p2, p3, p4, p5, p6, p7, p8, p9⟩ := q_round hr hi
    obtain ⟨r, g', m', z1, z2, z3, z4, z5, z6, z7⟩ := ih (i + 1) (a ||| s) g1 m1 n1 n2 p3 p4 (Nat.or_lt_two_pow (n := 8) ha p7) (by omega) (by omega) (by omega)
    refine ⟨r, g', m', ?_, ?_, z3, z4, p5.tr z5, by rw [z6, p6], z7⟩
    · rw [P_X0_letRoundsGoBy_4]
      simp (disch := omega) only [nI_ltI, nI_leI, nI_eq, q_okn, nI_clamp, nI_add, pk_mul, pk_sub, pk_div, q_nlt9, q_neg0, q_ne9, q_9ne, q_nle9, show ¬ N ≤ i by omega, ↓reduceIte]
      rw [bE2 p1]
      simp only [lc_let, q_0, q_1, q_2, q_3, q_4, q_5, q_6, q_7, q_8, q_10, q_12, q_14, q_20, q_47, q_50, q_99, q_100, q_107, q_120, q_792, nI_add, nI_or]
      exact z1
    · rw [P_X4_rounds_4]
      simp (disch := omega) only [nI_ltI, nI_leI, nI_eq, q_okn, nI_clamp, nI_add, pk_mul, pk_sub, pk_div, q_nlt9, q_neg0, q_ne9, q_9ne, q_nle9, show ¬ N ≤ i by omega, ↓reduceIte]
      rw [bE2 p2]
      simp only [lc_let, q_0, q_1, q_2, q_3, q_4, q_5, q_6, q_7, q_8, q_10, q_12, q_14, q_20, q_47, q_50, q_99, q_100, q_107, q_120, q_792, nI_add, nI_or]
      exact z2
theorem q_rounds (hr : RM 8 d m g) (hi : Iv g) {N : Nat} (hN : N ≤ 100) : ∃ r g' m', P_X0_letRoundsGoBy (nI N) (nB g) = some (nI r, nB g') ∧ P_X4_rounds (nI N) m = some (nI r, m') ∧ RM 8 d m' g' ∧ Iv g' ∧ Fr m m' ∧ g' 0 0 = g 0 0 ∧ r < 256 :=
  l_rounds hN N 0 0 g m lc_FU lc_FU hr hi (by omega) (by omega) (q_FUn (by omega)) (q_FUn (by omega))
theorem l_fill {u : Nat} (hu : u ≤ 99) : ∀ k c a (g : Nat → Nat → Nat) (m : lc_St) n1 n2, RM 8 d m g → Iv g → a ≤ 99 * c → c + k = g 0 0 → k < n1 → k < n2 → ∃ r g' m', P_X0_fillEach_4 n1 (nI u) (nI a) (nI c) (nB g) = some (nI r, nB g') ∧ P_X4_charges_4 n2 (nI u) (nI a) (nI c) m = some (nI r, m') ∧ RM 8 d m' g' ∧ Iv g' ∧ Fr m m' ∧ r ≤ 1000 ∧ g' 0 0 = g 0 0 ∧ g' 4 = g 4 := by
  intro k
  induction k with
  | zero =>
    intro c a g m n1 n2 hr hi ha hk h1 h2
    have h8 := hi.1
    obtain ⟨n1, rfl⟩ : ∃ q, n1 = q + 1 := ⟨n1 - 1, by omega⟩; obtain ⟨n2, rfl⟩ : ∃ q, n2 = q + 1 := ⟨n2 - 1, by omega⟩
    rw [P_X0_fillEach_4, P_X4_charges_4]
    have h5 : m 1 5 = nI (g 0 5) := hr.1.2.2.2.2.2.1
    simp (disch := omega) only [nI_ltI, nI_leI, nI_eq, q_okn, nI_clamp, nI_add, pk_mul, pk_sub, pk_div, q_nlt9, q_neg0, q_ne9, q_9ne, q_nle9, nB_at, rm_nc hr, h5, show g 0 0 ≤ c by omega, ↓reduceIte, lc_let, nB_ss]
    exact ⟨a, _, _, rfl, rfl, RM_a5 hr _, Iv_a hi (by omega) _, (Fr.rf m).s1 _ _, by omega, by rw [gs_i _ _ _ (by omega)], by rw [gs_r _ _ _ (by omega)]⟩
  | succ k ih =>
    intro c a g m n1 n2 hr hi ha hk h1 h2
    have h8 := hi.1
    obtain ⟨n1, rfl⟩ : ∃ q, n1 = q + 1 := ⟨n1 - 1, by omega⟩; obtain ⟨n2, rfl⟩ : ∃ q, n2 = q + 1 := ⟨n2 - 1, by omega⟩
    have hlt : c < g 0 0 := by omega
    have hc8 : c < 8 := by omega
    have hcl := hi.2.2.1 c hlt
    have hm1 := (hr.2.1 c hlt).2.1
    have hm3 : m 1 3 = nI (g 0 3) := hr.1.2.2.2.1
    rw [P_X0_fillEach_4, P_X4_charges_4]
    simp only [q_0, q_1, q_2, q_3, q_4, q_5, q_6, q_7, q_8, q_10, q_12, q_14, q_20, q_47, q_50, q_99, q_100, q_107, q_120, q_792]
    by_cases h3 : g 4 c < 3
    · have fin : ∀ t, t ≤ u → g 2 c + t ≤ g 1 c → ∃ r g' m', P_X0_fillEach_4 n1 (nI u) (nI (a + (u - t))) (nI (c + 1)) (nB (gs (gs g 2 c (g 2 c + t)) 0 3 (g 0 3 + u))) = some (nI r, nB g') ∧ P_X4_charges_4 n2 (nI u) (nI (a + (u - t))) (nI (c + 1)) (lc_ss (lc_ss m 1 (7 + 5 * c + 1) (nI (g 2 c + t))) 1 3 (nI (g 0 3 + u))) = some (nI r, m') ∧ RM 8 d m' g' ∧ Iv g' ∧ Fr m m' ∧ r ≤ 1000 ∧ g' 0 0 = g 0 0 ∧ g' 4 = g 4 := by
        intro t ht hcap
        obtain ⟨r, g', m', z1, z2, z3, z4, z5, z6, z7, z8⟩ := ih (c + 1) (a + (u - t)) _ _ n1 n2 (RM_a3 (RM_c1 hr hc8 (g 2 c + t)) (g 0 3 + u)) (Iv_a (Iv_c1 hi hlt hcap) (by omega) _) (by omega) (by rw [gs_i _ _ _ (by omega), gs_r _ _ _ (by omega)]; omega) (by omega) (by omega)
        exact ⟨r, g', m', z1, z2, z3, z4, (((Fr.rf m).s1 _ _).s1 _ _).tr z5, z6, by rw [z7, gs_i _ _ _ (by omega), gs_r _ _ _ (by omega)], by rw [z8, gs_r _ _ _ (by omega), gs_r _ _ _ (by omega)]⟩
      by_cases hA : g 1 c - g 2 c ≤ u
      · obtain ⟨r, g', m', z⟩ := fin (g 1 c - g 2 c) hA (by omega)
        refine ⟨r, g', m', ?_, ?_, z.2.2⟩
        · rw [← z.1]
          have emin : (if g 1 c - g 2 c < u then nI (g 1 c - g 2 c) else nI u) = nI (g 1 c - g 2 c) := by
            split
            · rfl
            · congr 1; omega
          simp (disch := omega) only [nI_ltI, nI_leI, nI_eq, q_okn, nI_clamp, nI_add, pk_mul, pk_sub, pk_div, q_nlt9, q_neg0, q_ne9, q_9ne, q_nle9, ↓bE (x0_bank hi hlt), ↓bE (x0_room hi hlt), nB_at, Nat.not_le.mpr hlt, h3, ↓reduceIte, q_ift, q_ifT, lc_let, emin, nB_ss, gs_r, P_X0_fillEach_59, q_0, q_1, q_2, q_3, q_4, q_5, q_6, q_7, q_8, q_10, q_12, q_14, q_20, q_47, q_50, q_99, q_100, q_107, q_120, q_792]
        · rw [← z.2.1]
          simp (disch := omega) only [nI_ltI, nI_leI, nI_eq, q_okn, nI_clamp, nI_add, pk_mul, pk_sub, pk_div, q_nlt9, q_neg0, q_ne9, q_9ne, q_nle9, ↓bE (x4_sound hr hi hlt), ↓bE (x4_of0 hr hi hlt), ↓bE (x4_of1 hr hi hlt), rm_nc hr, Nat.not_le.mpr hlt, h3, ↓reduceIte, lc_let, hA, Nat.one_ne_zero, P_X4_charges_52, P_X4_charges_70, P_X4_charges_82, q_0, q_1, q_2, q_3, q_4, q_5, q_6, q_7, q_8, q_10, q_12, q_14, q_20, q_47, q_50, q_99, q_100, q_107, q_120, q_792, ↓bE (x4_more (m := m) (nI (g 1 c - g 2 c)) hc8 (show 1 < 5 by omega)), hm1, ss_ne, hm3]
      · obtain ⟨r, g', m', z⟩ := fin u (Nat.le_refl _) (by omega)
        refine ⟨r, g', m', ?_, ?_, z.2.2⟩
        · rw [← z.1]
          simp (disch := omega) only [nI_ltI, nI_leI, nI_eq, q_okn, nI_clamp, nI_add, pk_mul, pk_sub, pk_div, q_nlt9, q_neg0, q_ne9, q_9ne, q_nle9, ↓bE (x0_bank hi hlt), ↓bE (x0_room hi hlt), nB_at, Nat.not_le.mpr hlt, h3, ↓reduceIte, q_ift, q_ifT, lc_let, show ¬ g 1 c - g 2 c < u by omega, nB_ss, gs_r, P_X0_fillEach_59, q_0, q_1, q_2, q_3, q_4, q_5, q_6, q_7, q_8, q_10, q_12, q_14, q_20, q_47, q_50, q_99, q_100, q_107, q_120, q_792]
        · rw [← z.2.1]
          simp (disch := omega) only [nI_ltI, nI_leI, nI_eq, q_okn, nI_clamp, nI_add, pk_mul, pk_sub, pk_div, q_nlt9, q_neg0, q_ne9, q_9ne, q_nle9, ↓bE (x4_sound hr hi hlt), ↓bE (x4_of0 hr hi hlt), ↓bE (x4_of1 hr hi hlt), rm_nc hr, Nat.not_le.mpr hlt, h3, ↓reduceIte, lc_let, hA, Nat.one_ne_zero, P_X4_charges_52, P_X4_charges_70, P_X4_charges_82, q_0, q_1, q_2, q_3, q_4, q_5, q_6, q_7, q_8, q_10, q_12, q_14, q_20, q_47, q_50, q_99, q_100, q_107, q_120, q_792, ↓bE (x4_more (m := m) (nI u) hc8 (show 1 < 5 by omega)), hm1, ss_ne, hm3, Nat.sub_self]
    · obtain ⟨r, g', m', z⟩ := ih (c + 1) a g m n1 n2 hr hi (by omega) (by omega) (by omega) (by omega)
      refine ⟨r, g', m', ?_, ?_, z.2.2⟩
      · rw [← z.1]
        simp (disch := omega) only [nI_ltI, nI_leI, nI_eq, q_okn, nI_clamp, nI_add, pk_mul, pk_sub, pk_div, q_nlt9, q_neg0, q_ne9, q_9ne, q_nle9, ↓bE (x0_bank hi hlt), nB_at, Nat.not_le.mpr hlt, h3, ↓reduceIte, lc_let, Nat.one_ne_zero, P_X0_fillEach_59, q_0, q_1, q_2, q_3, q_4, q_5, q_6, q_7, q_8, q_10, q_12, q_14, q_20, q_47, q_50, q_99, q_100, q_107, q_120, q_792]
      · rw [← z.2.1]
        simp (disch := omega) only [nI_ltI, nI_leI, nI_eq, q_okn, nI_clamp, nI_add, pk_mul, pk_sub, pk_div, q_nlt9, q_neg0, q_ne9, q_9ne, q_nle9, ↓bE (x4_sound hr hi hlt), rm_nc hr, Nat.not_le.mpr hlt, h3, ↓reduceIte, lc_let, P_X4_charges_82, q_0, q_1, q_2, q_3, q_4, q_5, q_6, q_7, q_8, q_10, q_12, q_14, q_20, q_47, q_50, q_99, q_100, q_107, q_120, q_792]
theorem q_fill (hr : RM 8 d m g) (hi : Iv g) {u : Nat} (hu : u ≤ 99) : ∃ r g' m', P_X0_fillEach (nI u) (nB g) = some (nI r, nB g') ∧ P_X4_charges (nI u) m = some (nI r, m') ∧ RM 8 d m' g' ∧ Iv g' ∧ Fr m m' ∧ r ≤ 1000 ∧ g' 0 0 = g 0 0 ∧ g' 4 = g 4 := by
  have h8 := hi.1
  exact l_fill hu (g 0 0) 0 0 g m lc_FU lc_FU hr hi (by omega) (by omega) (q_FUn (by omega)) (q_FUn (by omega))
/-! ===== a new cell ===== -/
def ncS (g : Nat → Nat → Nat) (a b c : Nat) : Nat → Nat → Nat := gs (gs (gs (gs (gs (gs g 1 (g 0 0) a) 2 (g 0 0) b) 3 (g 0 0) c) 4 (g 0 0) 0) 0 3 (g 0 3 + b)) 0 0 (g 0 0 + 1)
def ncM (m : lc_St) (g : Nat → Nat → Nat) (a b c : Nat) : lc_St := lc_ss (lc_ss (lc_ss (lc_ss (lc_ss (lc_ss (lc_ss m 1 (7 + 5 * g 0 0) (nI a)) 1 (7 + 5 * g 0 0 + 1) (nI b)) 1 (7 + 5 * g 0 0 + 2) (nI c)) 1 (7 + 5 * g 0 0 + 3) (nI 0)) 1 (7 + 5 * g 0 0 + 4) (nI 0)) 1 1 (nI (g 0 0 + 1))) 1 3 (nI (g 0 3 + b))
theorem RM_nc (hr : RM 8 d m g) (h8 : g 0 0 < 8) (h12 : g 0 1 ≤ 12) (a b c : Nat) : RM 8 d (ncM m g a b c) (ncS g a b c) := by
  obtain ⟨⟨a0, a1, a2, a3, a4, a5, a6, a7, a8⟩, hcc, hll⟩ := hr
  unfold ncM ncS
  refine ⟨⟨by simp (disch := omega) only [ss_eq, ss_ne, ss_off, gs_at, gs_r, gs_i, a0], by simp (disch := omega) only [ss_eq, ss_ne, ss_off, gs_at, gs_r, gs_i, a1], by simp (disch := omega) only [ss_eq, ss_ne, ss_off, gs_at, gs_r, gs_i, a2], by simp (disch := omega) only [ss_eq, ss_ne, ss_off, gs_at, gs_r, gs_i, a3], by simp (disch := omega) only [ss_eq, ss_ne, ss_off, gs_at, gs_r, gs_i, a4], by simp (disch := omega) only [ss_eq, ss_ne, ss_off, gs_at, gs_r, gs_i, a5], by simp (disch := omega) only [ss_eq, ss_ne, ss_off, gs_at, gs_r, gs_i, a6], by simp (disch := omega) only [ss_eq, ss_ne, ss_off, gs_at, gs_r, gs_i, a7], by simp (disch := omega) only [ss_eq, ss_ne, ss_off, gs_at, gs_r, gs_i, a8]⟩, fun x hx => ?_, fun j hj => ?_⟩
  · rw [gs_at] at hx
    by_cases q : x = g 0 0
    · subst q
      exact ⟨by simp (disch := omega) only [ss_eq, ss_ne, gs_at, gs_r, gs_i], by simp (disch := omega) only [ss_eq, ss_ne, gs_at, gs_r, gs_i], by simp (disch := omega) only [ss_eq, ss_ne, gs_at, gs_r, gs_i], by simp (disch := omega) only [ss_eq, ss_ne, gs_at, gs_r, gs_i], fun _ => by simp (disch := omega) only [ss_eq, ss_ne, gs_at, gs_r, gs_i]; rfl⟩
    · obtain ⟨b0, b1, b2, b3, b4⟩ := hcc x (by omega)
      exact ⟨by simp (disch := omega) only [ss_ne, gs_r, gs_i, b0], by simp (disch := omega) only [ss_ne, gs_r, gs_i, b1], by simp (disch := omega) only [ss_ne, gs_r, gs_i, b2], by simp (disch := omega) only [ss_ne, gs_r, gs_i, b3], fun z => by simp (disch := omega) only [ss_ne, gs_r, gs_i, b4 z]⟩
  · replace hj : j < g 0 1 := by simpa (disch := omega) only [gs_i, gs_r] using hj
    obtain ⟨b0, b1, b2, b3, b4⟩ := hll j hj
    exact ⟨by simp (disch := omega) only [ss_ne, gs_r, b0], by simp (disch := omega) only [ss_ne, gs_r, b1], by simp (disch := omega) only [ss_ne, gs_r, b2], by simp (disch := omega) only [ss_ne, gs_r, b3], by simp (disch := omega) only [ss_ne, gs_r, b4]⟩
theorem Iv_nc (hi : Iv g) (h8 : g 0 0 < 8) {a b c : Nat} (ha : 10 ≤ a) (ha2 : a ≤ 99) (hb : b ≤ a) (hc : c ≤ 3) : Iv (ncS g a b c) := by
  unfold ncS
  refine ⟨by rw [gs_at]; omega, by simpa (disch := omega) only [gs_i, gs_r] using hi.2.1, fun x hx => ?_, fun j hj => ?_⟩
  · rw [gs_at] at hx
    by_cases q : x = g 0 0
    · subst q
      simp (disch := omega) only [gs_at, gs_r, gs_i]; omega
    · have := hi.2.2.1 x (by omega)
      simp (disch := omega) only [gs_r, gs_i]; omega
  · replace hj : j < g 0 1 := by simpa (disch := omega) only [gs_i, gs_r] using hj
    have := hi.2.2.2 j hj
    simp (disch := omega) only [gs_r, gs_at]; omega
theorem x0_put (h8 : g 0 0 < 8) (a b c : Nat) : P_X0_putCell (nI a) (nI b) (nI c) (nB g) = some (nI (g 0 0), nB (ncS g a b c)) := by
  unfold P_X0_putCell
  simp only [q_0, q_1, q_2, q_3, q_4, q_5, q_6, q_7, q_8, q_10, q_12, q_14, q_20, q_47, q_50, q_99, q_100, q_107, q_120, q_792]
  simp (disch := omega) only [nI_ltI, nI_leI, nI_eq, q_okn, nI_clamp, nI_add, pk_mul, pk_sub, pk_div, q_nlt9, q_neg0, q_ne9, q_9ne, q_nle9, nB_at, h8, ↓reduceIte, lc_let, q_ift, q_ifT, nB_ss, gs_r, gs_i]
  rfl
theorem x4_newCell (hr : RM 8 d m g) (h8 : g 0 0 < 8) (a b c : Nat) : P_X4_newCell (nI a) (nI b) (nI c) m = some (nI (g 0 0), ncM m g a b c) := by
  have hm3 : m 1 3 = nI (g 0 3) := hr.1.2.2.2.1
  unfold P_X4_newCell
  simp only [q_0, q_1, q_2, q_3, q_4, q_5, q_6, q_7, q_8, q_10, q_12, q_14, q_20, q_47, q_50, q_99, q_100, q_107, q_120, q_792]
  simp (disch := omega) only [nI_ltI, nI_leI, nI_eq, q_okn, nI_clamp, nI_add, pk_mul, pk_sub, pk_div, q_nlt9, q_neg0, q_ne9, q_9ne, q_nle9, rm_nc hr, lc_let]
  rw [q_FU, P_X4_newCell_16]
  simp (disch := omega) only [q_0, q_1, q_2, q_3, q_4, q_5, q_6, q_7, q_8, q_10, q_12, q_14, q_20, q_47, q_50, q_99, q_100, q_107, q_120, q_792, nI_ltI, nI_leI, nI_eq, q_okn, nI_clamp, nI_add, pk_mul, pk_sub, pk_div, q_nlt9, q_neg0, q_ne9, q_9ne, q_nle9, ↓reduceIte, P_X4_newCell_61, q_ift, q_ifT, lc_let, Nat.reduceEqDiff, Nat.reduceLeDiff, Nat.one_ne_zero, Nat.add_zero]
  rw [P_X4_newCell_16]
  simp (disch := omega) only [q_0, q_1, q_2, q_3, q_4, q_5, q_6, q_7, q_8, q_10, q_12, q_14, q_20, q_47, q_50, q_99, q_100, q_107, q_120, q_792, nI_ltI, nI_leI, nI_eq, q_okn, nI_clamp, nI_add, pk_mul, pk_sub, pk_div, q_nlt9, q_neg0, q_ne9, q_9ne, q_nle9, ↓reduceIte, P_X4_newCell_61, q_ift, q_ifT, lc_let, Nat.reduceEqDiff, Nat.reduceLeDiff, Nat.one_ne_zero, Nat.add_zero, Nat.reduceAdd]
  rw [P_X4_newCell_16]
  simp (disch := omega) only [q_0, q_1, q_2, q_3, q_4, q_5, q_6, q_7, q_8, q_10, q_12, q_14, q_20, q_47, q_50, q_99, q_100, q_107, q_120, q_792, nI_ltI, nI_leI, nI_eq, q_okn, nI_clamp, nI_add, pk_mul, pk_sub, pk_div, q_nlt9, q_neg0, q_ne9, q_9ne, q_nle9, ↓reduceIte, P_X4_newCell_61, q_ift, q_ifT, lc_let, Nat.reduceEqDiff, Nat.reduceLeDiff, Nat.one_ne_zero, Nat.add_zero, Nat.reduceAdd]
  rw [P_X4_newCell_16]
  simp (disch := omega) only [q_0, q_1, q_2, q_3, q_4, q_5, q_6, q_7, q_8, q_10, q_12, q_14, q_20, q_47, q_50, q_99, q_100, q_107, q_120, q_792, nI_ltI, nI_leI, nI_eq, q_okn, nI_clamp, nI_add, pk_mul, pk_sub, pk_div, q_nlt9, q_neg0, q_ne9, q_9ne, q_nle9, ↓reduceIte, P_X4_newCell_61, q_ift, q_ifT, lc_let, Nat.reduceEqDiff, Nat.reduceLeDiff, Nat.one_ne_zero, Nat.add_zero, Nat.reduceAdd]
  rw [P_X4_newCell_16]
  simp (disch := omega) only [q_0, q_1, q_2, q_3, q_4, q_5, q_6, q_7, q_8, q_10, q_12, q_14, q_20, q_47, q_50, q_99, q_100, q_107, q_120, q_792, nI_ltI, nI_leI, nI_eq, q_okn, nI_clamp, nI_add, pk_mul, pk_sub, pk_div, q_nlt9, q_neg0, q_ne9, q_9ne, q_nle9, ↓reduceIte, P_X4_newCell_61, q_ift, q_ifT, lc_let, Nat.reduceEqDiff, Nat.reduceLeDiff, Nat.one_ne_zero, Nat.add_zero, Nat.reduceAdd]
  rw [P_X4_newCell_16]
  simp (disch := omega) only [q_0, q_1, q_2, q_3, q_4, q_5, q_6, q_7, q_8, q_10, q_12, q_14, q_20, q_47, q_50, q_99, q_100, q_107, q_120, q_792, nI_ltI, nI_leI, nI_eq, q_okn, nI_clamp, nI_add, pk_mul, pk_sub, pk_div, q_nlt9, q_neg0, q_ne9, q_9ne, q_nle9, ↓reduceIte, lc_let, Nat.reduceEqDiff, Nat.reduceLeDiff, Nat.one_ne_zero, Nat.le_refl, ss_ne, ss_eq, rm_nc hr, hm3, Nat.add_sub_cancel]
  rfl
theorem ncM_fr (m : lc_St) (g : Nat → Nat → Nat) (a b c : Nat) : Fr m (ncM m g a b c) := (((((((Fr.rf m).s1 _ _).s1 _ _).s1 _ _).s1 _ _).s1 _ _).s1 _ _).s1 _ _
