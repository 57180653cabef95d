/-! ===== the pure claim: the size that brings u, the fullest other ===== -/
variable {e : Nat} {m : lc_St} {g : Nat → Nat → Nat}
theorem arr_step {s y z : Nat} (hy : y < 8) (hz : z < 8) : arr (s + 1) y z ≤ arr s y z + 1 := by
  unfold arr
  generalize hD : (if y ≤ z then z - y else y - z) = D
  have hD7 : D ≤ 7 := by rw [← hD]; split <;> omega
  have h1 : s * D / 20 ≤ (s + 1) * D / 20 := Nat.div_le_div_right (by rw [Nat.succ_mul]; omega)
  omega
theorem arr_2 {u y z : Nat} (hy : y < 8) (hz : z < 8) : u ≤ arr (2 * u) y z := by
  unfold arr
  generalize hD : (if y ≤ z then z - y else y - z) = D
  have hD7 : D ≤ 7 := by rw [← hD]; split <;> omega
  have h1 : 2 * u * D ≤ 2 * u * 7 := Nat.mul_le_mul_left _ hD7
  omega
theorem l_size {b : lc_St} {u y z : Nat} (hu : u < 1000) (hy : y < 8) (hz : z < 8) : ∀ k s n, s + k = 2 * u → u ≤ s → (∀ q, u ≤ q → q < s → arr q y z < u) → k < n → ∃ r, P_X0_sizeToBring_3 n (nI u) (nI y) (nI z) (nI s) b = some (nI r) ∧ u ≤ r ∧ r ≤ 2 * u ∧ arr r y z = u ∧ ∀ q, u ≤ q → q < r → arr q y z < u := by
  intro k
  induction k with
  | zero =>
    intro s n hs hus hor h1
    obtain ⟨n, rfl⟩ : ∃ q, n = q + 1 := ⟨n - 1, by omega⟩
    have hle : 2 * u ≤ s := by omega
    have hse : s = 2 * u := by omega
    have h3 := arr_2 (u := u) hy hz
    have h4 := arr_le s y z
    rw [P_X0_sizeToBring_3]
    simp (disch := omega) only [nB_at, q_0, q_1, q_2, q_3, q_4, q_5, q_6, q_7, q_8, q_10, q_11, q_12, q_13, q_14, q_20, q_26, q_30, q_40, q_50, q_51, q_56, q_60, q_90, q_99, q_100, q_19, nI_ltI, nI_leI, nI_eq, q_okn, nI_clamp, nI_add, pk_mul, pk_sub, pk_div, q_nlt9, q_neg0, q_ne9, q_9ne, q_nle9, lc_let, q_ift, q_ifT, q_iff, q_bd, q_bd2, q_bd3, q_nbd, q_nbd2, ↓reduceIte, and_true, true_and, Nat.one_ne_zero, Nat.reduceEqDiff, Nat.reduceLeDiff, Nat.reduceLT, hle]
    rw [hse] at h4 hor
    refine ⟨2 * u, rfl, by omega, by omega, ?_, hor⟩
    by_cases hz0 : u = 0
    · subst hz0; omega
    · have h5 := arr_step (s := 2 * u - 1) hy hz
      have h6 := hor (2 * u - 1) (by omega) (by omega)
      rw [show 2 * u - 1 + 1 = 2 * u by omega] at h5
      omega
  | succ k ih =>
    intro s n hs hus hor h1
    obtain ⟨n, rfl⟩ : ∃ q, n = q + 1 := ⟨n - 1, by omega⟩
    have hlt : ¬ 2 * u ≤ s := by omega
    have h4 := arr_le s y z
    rw [P_X0_sizeToBring_3]
    simp (disch := omega) only [nB_at, q_0, q_1, q_2, q_3, q_4, q_5, q_6, q_7, q_8, q_10, q_11, q_12, q_13, q_14, q_20, q_26, q_30, q_40, q_50, q_51, q_56, q_60, q_90, q_99, q_100, q_19, nI_ltI, nI_leI, nI_eq, q_okn, nI_clamp, nI_add, pk_mul, pk_sub, pk_div, q_nlt9, q_neg0, q_ne9, q_9ne, q_nle9, lc_let, q_ift, q_ifT, q_iff, q_bd, q_bd2, q_bd3, q_nbd, q_nbd2, ↓reduceIte, and_true, true_and, Nat.one_ne_zero, Nat.reduceEqDiff, Nat.reduceLeDiff, Nat.reduceLT, hlt, x0_arr (show s < 2 ^ 20 by omega) hy hz]
    by_cases h5 : arr s y z < u
    · simp (disch := omega) only [nB_at, q_0, q_1, q_2, q_3, q_4, q_5, q_6, q_7, q_8, q_10, q_11, q_12, q_13, q_14, q_20, q_26, q_30, q_40, q_50, q_51, q_56, q_60, q_90, q_99, q_100, q_19, nI_ltI, nI_leI, nI_eq, q_okn, nI_clamp, nI_add, pk_mul, pk_sub, pk_div, q_nlt9, q_neg0, q_ne9, q_9ne, q_nle9, lc_let, q_ift, q_ifT, q_iff, q_bd, q_bd2, q_bd3, q_nbd, q_nbd2, ↓reduceIte, and_true, true_and, Nat.one_ne_zero, Nat.reduceEqDiff, Nat.reduceLeDiff, Nat.reduceLT, h5, Nat.not_le.mpr h5]
      exact ih (s + 1) n (by omega) (by omega) (fun q h1 h2 => by
        by_cases hq : q = s
        · subst hq; exact h5
        · exact hor q h1 (by omega)) (by omega)
    · simp (disch := omega) only [nB_at, q_0, q_1, q_2, q_3, q_4, q_5, q_6, q_7, q_8, q_10, q_11, q_12, q_13, q_14, q_20, q_26, q_30, q_40, q_50, q_51, q_56, q_60, q_90, q_99, q_100, q_19, nI_ltI, nI_leI, nI_eq, q_okn, nI_clamp, nI_add, pk_mul, pk_sub, pk_div, q_nlt9, q_neg0, q_ne9, q_9ne, q_nle9, lc_let, q_ift, q_ifT, q_iff, q_bd, q_bd2, q_bd3, q_nbd, q_nbd2, ↓reduceIte, and_true, true_and, Nat.one_ne_zero, Nat.reduceEqDiff, Nat.reduceLeDiff, Nat.reduceLT, h5, Nat.not_lt.mp h5]
      refine ⟨s, rfl, by omega, by omega, ?_, hor⟩
      by_cases hz0 : s = u
      · subst hz0; omega
      · have h6 := arr_step (s := s - 1) hy hz
        have h7 := hor (s - 1) (by omega) (by omega)
        rw [show s - 1 + 1 = s by omega] at h6
        omega
theorem x0_size (b : lc_St) {u y z : Nat} (hu : u < 1000) (hy : y < 8) (hz : z < 8) : ∃ r, P_X0_sizeToBring (nI u) (nI y) (nI z) b = some (nI r) ∧ u ≤ r ∧ r ≤ 2 * u ∧ arr r y z = u ∧ ∀ q, u ≤ q → q < r → arr q y z < u :=
  l_size hu hy hz u u lc_FU (by omega) (by omega) (fun q h1 h2 => absurd h2 (by omega)) (q_FUn (by omega))
/-- the law's size, found from 1 on -/
theorem l_sizes (hr : QM 8 m g) (K : Int32 → Int32 → lc_St → Option (Int32 × lc_St)) {u b c r nn : Nat} (hb : b < g 0 0) (hc : c < g 0 0) (hbl : g 2 b ≤ 99) (hnn : nn ≤ 99) (hr2 : r ≤ 2 * u) (hu : u ≤ 99) (har : u ≤ arr r b c) (hall : ∀ q, u ≤ q → q < r → arr q b c < u) : ∀ k s n, s + k = r → k < n → P_L_borrow_139 K n (nI nn) (nI c) (nI u) (nI b) (nI s) m = if nn + r ≤ g 2 b then lc_bd2 (P_L_lends (nI b) (nI c) (nI r) (nI 10) m) (fun r190 s1 => P_L_borrow_194 K (nI nn) (nI c) s1) else some (nI 0, m) := by
  have h6 := hr.2.2.2.2
  intro k
  induction k with
  | zero =>
    intro s n hs h1
    obtain ⟨n, rfl⟩ : ∃ q, n = q + 1 := ⟨n - 1, by omega⟩
    have hse : s = r := by omega
    subst hse
    have h4 := arr_le s b c
    have e1 := l_lost (x := s) (y := b) (z := c) (by omega) (by omega) (by omega)
    rw [P_L_borrow_139]
    simp only [q_0, q_1, q_2, q_3, q_4, q_5, q_6, q_7, q_8, q_10, q_11, q_12, q_13, q_14, q_20, q_26, q_30, q_40, q_50, q_51, q_56, q_60, q_90, q_99, q_100, q_19]
    rw [bE e1]
    simp (disch := omega) only [nI_ltI, nI_leI, nI_eq, q_okn, nI_clamp, nI_add, pk_mul, pk_sub, pk_div, q_nlt9, q_neg0, q_ne9, q_9ne, q_nle9, q_0, q_1, q_2, q_3, q_4, q_5, q_6, q_7, q_8, q_10, q_11, q_12, q_13, q_14, q_20, q_26, q_30, q_40, q_50, q_51, q_56, q_60, q_90, q_99, q_100, q_19, ↓reduceIte, q_ift, show u ≤ s - (s - arr s b c) by omega, qm_c1 hr hb]
  | succ k ih =>
    intro s n hs h1
    obtain ⟨n, rfl⟩ : ∃ q, n = q + 1 := ⟨n - 1, by omega⟩
    have h4 := arr_le s b c
    have e1 := l_lost (x := s) (y := b) (z := c) (by omega) (by omega) (by omega)
    have hn : ¬ u ≤ s - (s - arr s b c) := by
      by_cases q : u ≤ s
      · have := hall s q (by omega)
        omega
      · omega
    have h2 := ih (s + 1) n (by omega) (by omega)
    rw [P_L_borrow_139]
    simp only [q_0, q_1, q_2, q_3, q_4, q_5, q_6, q_7, q_8, q_10, q_11, q_12, q_13, q_14, q_20, q_26, q_30, q_40, q_50, q_51, q_56, q_60, q_90, q_99, q_100, q_19]
    rw [bE e1]
    simp (disch := omega) only [nI_ltI, nI_leI, nI_eq, q_okn, nI_clamp, nI_add, pk_mul, pk_sub, pk_div, q_nlt9, q_neg0, q_ne9, q_9ne, q_nle9, q_0, q_1, q_2, q_3, q_4, q_5, q_6, q_7, q_8, q_10, q_11, q_12, q_13, q_14, q_20, q_26, q_30, q_40, q_50, q_51, q_56, q_60, q_90, q_99, q_100, q_19, ↓reduceIte, hn, lc_let]
    exact h2
/-! ===== the fullest other ===== -/
abbrev el (g : Nat → Nat → Nat) (c x : Nat) : Prop := x < g 0 0 ∧ x ≠ c ∧ g 4 x < 3
def Bs (g : Nat → Nat → Nat) (c x : Nat) (r : Int32) : Prop := (r = -9 ∧ ∀ y, y < x → ¬ el g c y) ∨ (∃ b, b < x ∧ el g c b ∧ r = nI b ∧ (∀ y, y < x → el g c y → g 2 y ≤ g 2 b) ∧ (∀ y, y < b → el g c y → g 2 y < g 2 b))
def Br (g : Nat → Nat → Nat) (c i : Nat) (r : Int32) : Prop := (r = -nI 1 ∧ ∀ y, i ≤ y → ¬ el g c y) ∨ (∃ b, i ≤ b ∧ el g c b ∧ r = nI b ∧ (∀ y, i ≤ y → el g c y → g 2 y ≤ g 2 b) ∧ (∀ y, i ≤ y → y < b → el g c y → g 2 y < g 2 b))
theorem Bs_Br {c : Nat} {r1 r2 : Int32} (h1 : Bs g c (g 0 0) r1) (h2 : Br g c 0 r2) : (r1 = -9 ∧ r2 = -nI 1) ∨ ∃ b, el g c b ∧ r1 = nI b ∧ r2 = nI b := by
  rcases h1 with ⟨a1, a2⟩ | ⟨b, b1, b2, b3, b4, b5⟩
  · rcases h2 with ⟨c1, c2⟩ | ⟨d, d1, d2, d3, d4, d5⟩
    · exact Or.inl ⟨a1, c1⟩
    · exact absurd d2 (a2 d d2.1)
  · rcases h2 with ⟨c1, c2⟩ | ⟨d, d1, d2, d3, d4, d5⟩
    · exact absurd b2 (c2 b (Nat.zero_le _))
    · have e1 := b4 d d2.1 d2
      have e2 := d4 b (Nat.zero_le _) b2
      by_cases q1 : b < d
      · have := d5 b (Nat.zero_le _) q1 b2; omega
      · by_cases q2 : d < b
        · have := b5 d q2 d2; omega
        · have : b = d := by omega
          subst this
          exact Or.inr ⟨b, b2, b3, d3⟩
theorem l_rich (hi : Iv g) {c : Nat} (hc : c < 8) : ∀ k x b n, x + k = g 0 0 → Bs g c x b → k < n → ∃ r, P_X0_fullestOther_5 n (nI c) b (nI x) (nB g) = some r ∧ Bs g c (g 0 0) r := by
  have h8 := hi.1
  intro k
  induction k with
  | zero =>
    intro x b n hx hb h1
    obtain ⟨n, rfl⟩ : ∃ q, n = q + 1 := ⟨n - 1, by omega⟩
    have hle : g 0 0 ≤ x := by omega
    rw [P_X0_fullestOther_5]
    simp (disch := omega) only [nB_at, q_0, q_1, q_2, q_3, q_4, q_5, q_6, q_7, q_8, q_10, q_11, q_12, q_13, q_14, q_20, q_26, q_30, q_40, q_50, q_51, q_56, q_60, q_90, q_99, q_100, q_19, nI_ltI, nI_leI, nI_eq, q_okn, nI_clamp, nI_add, pk_mul, pk_sub, pk_div, q_nlt9, q_neg0, q_ne9, q_9ne, q_nle9, lc_let, q_ift, q_ifT, q_iff, q_bd, q_bd2, q_bd3, q_nbd, q_nbd2, ↓reduceIte, and_true, true_and, Nat.one_ne_zero, Nat.reduceEqDiff, Nat.reduceLeDiff, Nat.reduceLT, hle]
    rw [show x = g 0 0 by omega] at hb
    exact ⟨b, rfl, hb⟩
  | succ k ih =>
    intro x b n hx hb h1
    obtain ⟨n, rfl⟩ : ∃ q, n = q + 1 := ⟨n - 1, by omega⟩
    have hlt : x < g 0 0 := by omega
    have hxl := hi.2.2.1 x hlt
    rw [P_X0_fullestOther_5]
    simp (disch := omega) only [nB_at, q_0, q_1, q_2, q_3, q_4, q_5, q_6, q_7, q_8, q_10, q_11, q_12, q_13, q_14, q_20, q_26, q_30, q_40, q_50, q_51, q_56, q_60, q_90, q_99, q_100, q_19, nI_ltI, nI_leI, nI_eq, q_okn, nI_clamp, nI_add, pk_mul, pk_sub, pk_div, q_nlt9, q_neg0, q_ne9, q_9ne, q_nle9, lc_let, q_ift, q_ifT, q_iff, q_bd, q_bd2, q_bd3, q_nbd, q_nbd2, ↓reduceIte, and_true, true_and, Nat.one_ne_zero, Nat.reduceEqDiff, Nat.reduceLeDiff, Nat.reduceLT, Nat.not_le.mpr hlt, x0_bank hi hlt, P_X0_fullestOther_49, P_X0_fullestOther_51]
    have hn := fun b hb => ih (x + 1) b n (by omega) hb (by omega)
    have keep : ¬ el g c x → Bs g c (x + 1) b := fun hne => by
      rcases hb with ⟨a1, a2⟩ | ⟨b', b1, b2, b3, b4, b5⟩
      · exact Or.inl ⟨a1, fun y hy => by
          by_cases q : y = x
          · subst q; exact hne
          · exact a2 y (by omega)⟩
      · exact Or.inr ⟨b', by omega, b2, b3, fun y hy hey => by
          by_cases q : y = x
          · subst q; exact absurd hey hne
          · exact b4 y (by omega) hey, b5⟩
    by_cases hxc : x = c
    · simp only [hxc, ↓reduceIte]
      subst hxc; exact hn b (keep (fun q => q.2.1 rfl))
    · by_cases h3 : g 4 x < 3
      · have hex : el g c x := ⟨hlt, hxc, h3⟩
        simp (disch := omega) only [hxc, h3, nB_at, q_0, q_1, q_2, q_3, q_4, q_5, q_6, q_7, q_8, q_10, q_11, q_12, q_13, q_14, q_20, q_26, q_30, q_40, q_50, q_51, q_56, q_60, q_90, q_99, q_100, q_19, nI_ltI, nI_leI, nI_eq, q_okn, nI_clamp, nI_add, pk_mul, pk_sub, pk_div, q_nlt9, q_neg0, q_ne9, q_9ne, q_nle9, lc_let, q_ift, q_ifT, q_iff, q_bd, q_bd2, q_bd3, q_nbd, q_nbd2, ↓reduceIte, and_true, true_and, Nat.one_ne_zero, Nat.reduceEqDiff, Nat.reduceLeDiff, Nat.reduceLT]
        rcases hb with ⟨a1, a2⟩ | ⟨b', b1, b2, b3, b4, b5⟩
        · simp only [a1, ↓reduceIte]
          refine hn _ (Or.inr ⟨x, by omega, hex, rfl, fun y hy hey => ?_, fun y hy hey => absurd hey (a2 y hy)⟩)
          by_cases q : y = x
          · subst q; exact Nat.le_refl _
          · exact absurd hey (a2 y (by omega))
        · subst b3
          have hbl := hi.2.2.1 b' b2.1
          simp (disch := omega) only [nB_at, q_0, q_1, q_2, q_3, q_4, q_5, q_6, q_7, q_8, q_10, q_11, q_12, q_13, q_14, q_20, q_26, q_30, q_40, q_50, q_51, q_56, q_60, q_90, q_99, q_100, q_19, nI_ltI, nI_leI, nI_eq, q_okn, nI_clamp, nI_add, pk_mul, pk_sub, pk_div, q_nlt9, q_neg0, q_ne9, q_9ne, q_nle9, lc_let, q_ift, q_ifT, q_iff, q_bd, q_bd2, q_bd3, q_nbd, q_nbd2, ↓reduceIte, and_true, true_and, Nat.one_ne_zero, Nat.reduceEqDiff, Nat.reduceLeDiff, Nat.reduceLT, x0_charge hi b2.1]
          by_cases h5 : g 2 x ≤ g 2 b'
          · simp only [h5, ↓reduceIte]
            refine hn _ (Or.inr ⟨b', by omega, b2, rfl, fun y hy hey => ?_, b5⟩)
            by_cases q : y = x
            · subst q; exact h5
            · exact b4 y (by omega) hey
          · simp only [h5, ↓reduceIte]
            refine hn _ (Or.inr ⟨x, by omega, hex, rfl, fun y hy hey => ?_, fun y hy hey => ?_⟩)
            · by_cases q : y = x
              · subst q; exact Nat.le_refl _
              · have := b4 y (by omega) hey; omega
            · have := b4 y hy hey; omega
      · simp (disch := omega) only [hxc, h3, nB_at, q_0, q_1, q_2, q_3, q_4, q_5, q_6, q_7, q_8, q_10, q_11, q_12, q_13, q_14, q_20, q_26, q_30, q_40, q_50, q_51, q_56, q_60, q_90, q_99, q_100, q_19, nI_ltI, nI_leI, nI_eq, q_okn, nI_clamp, nI_add, pk_mul, pk_sub, pk_div, q_nlt9, q_neg0, q_ne9, q_9ne, q_nle9, lc_let, q_ift, q_ifT, q_iff, q_bd, q_bd2, q_bd3, q_nbd, q_nbd2, ↓reduceIte, and_true, true_and, Nat.one_ne_zero, Nat.reduceEqDiff, Nat.reduceLeDiff, Nat.reduceLT]
        exact hn b (keep (fun q => h3 q.2.2))
theorem x0_rich (hi : Iv g) {c : Nat} (hc : c < 8) : ∃ r, P_X0_fullestOther (nI c) (nB g) = some r ∧ Bs g c (g 0 0) r := by
  have h8 := hi.1
  exact l_rich hi hc (g 0 0) 0 _ lc_FU (by omega) (Or.inl ⟨rfl, fun y hy => absurd hy (by omega)⟩) (q_FUn (by omega))
theorem q_m1n : -nI 1 < nI 0 := by decide +kernel
theorem q_em (a : Int32) : a + -nI 1 = a - nI 1 := (Int32.sub_eq_add_neg a (nI 1)).symm
theorem l_from (hr : QM 8 m g) (hi : Iv g) (K : Int32 → Int32 → lc_St → Option (Int32 × lc_St)) (X3 X5 : Int32) {c : Nat} (hc : c < g 0 0) : ∀ i x6 n, i ≤ g 0 0 → Br g c i x6 → i < n → ∃ r, Br g c 0 r ∧ P_L_borrow_49 K n X3 (nI c) X5 x6 (nI i - nI 1) m = P_L_borrow_49 K (0 + 1) X3 (nI c) X5 r (nI 0 - nI 1) m := by
  have h6 := hr.2.2.2.2
  intro i
  induction i with
  | zero =>
    intro x6 n hle hb h1
    obtain ⟨n, rfl⟩ : ∃ q, n = q + 1 := ⟨n - 1, by omega⟩
    refine ⟨x6, hb, ?_⟩
    rw [P_L_borrow_49, P_L_borrow_49, if_pos q_m1, if_pos q_m1]
  | succ i ih =>
    intro x6 n hle hb h1
    obtain ⟨n, rfl⟩ : ∃ q, n = q + 1 := ⟨n - 1, by omega⟩
    have hlt : i < g 0 0 := by omega
    have hxl := hi.2.2.1 i hlt
    have hn := fun b hb => ih b n (by omega) hb (by omega)
    have keep : ¬ el g c i → Br g c i x6 := fun hne => by
      rcases hb with ⟨a1, a2⟩ | ⟨b', b1, b2, b3, b4, b5⟩
      · exact Or.inl ⟨a1, fun y hy => by
          by_cases q : y = i
          · subst q; exact hne
          · exact a2 y (by omega)⟩
      · exact Or.inr ⟨b', by omega, b2, b3, fun y hy hey => by
          by_cases q : y = i
          · subst q; exact absurd hey hne
          · exact b4 y (by omega) hey, fun y hy hey2 hey => by
          by_cases q : y = i
          · subst q; exact absurd hey hne
          · exact b5 y (by omega) hey2 hey⟩
    rw [P_L_borrow_49]
    simp only [q_0, q_1, q_2, q_3, q_4, q_5, q_6, q_7, q_8, q_10, q_11, q_12, q_13, q_14, q_20, q_26, q_30, q_40, q_50, q_51, q_56, q_60, q_90, q_99, q_100, q_19]
    simp (disch := omega) only [nI_ltI, nI_leI, nI_eq, q_okn, nI_clamp, nI_add, pk_mul, pk_sub, pk_div, q_nlt9, q_neg0, q_ne9, q_9ne, q_nle9, q_0, q_1, q_2, q_3, q_4, q_5, q_6, q_7, q_8, q_10, q_11, q_12, q_13, q_14, q_20, q_26, q_30, q_40, q_50, q_51, q_56, q_60, q_90, q_99, q_100, q_19, Nat.add_sub_cancel, Nat.not_lt_zero, ↓reduceIte, q_ift, qm_c4 hr hlt, qm_c1 hr hlt, P_L_borrow_101, P_L_borrow_96, P_L_borrow_103, lc_let, q_em]
    by_cases hxc : i = c
    · simp only [hxc, ↓reduceIte]
      subst hxc; exact hn x6 (keep (fun q => q.2.1 rfl))
    · by_cases h3 : g 4 i < 3
      · have hex : el g c i := ⟨hlt, hxc, h3⟩
        simp (disch := omega) only [hxc, h3, nI_ltI, nI_leI, nI_eq, q_okn, nI_clamp, nI_add, pk_mul, pk_sub, pk_div, q_nlt9, q_neg0, q_ne9, q_9ne, q_nle9, ↓reduceIte]
        rcases hb with ⟨a1, a2⟩ | ⟨b', b1, b2, b3, b4, b5⟩
        · subst a1
          rw [if_pos q_m1n]
          refine hn _ (Or.inr ⟨i, Nat.le_refl _, hex, rfl, fun y hy hey => ?_, fun y hy hy2 hey => absurd hy2 (by omega)⟩)
          by_cases q : y = i
          · subst q; exact Nat.le_refl _
          · exact absurd hey (a2 y (by omega))
        · subst b3
          have hbl := hi.2.2.1 b' b2.1
          have hb8 := b2.1
          simp (disch := omega) only [nI_ltI, nI_leI, nI_eq, q_okn, nI_clamp, nI_add, pk_mul, pk_sub, pk_div, q_nlt9, q_neg0, q_ne9, q_9ne, q_nle9, q_0, q_1, q_2, q_3, q_4, q_5, q_6, q_7, q_8, q_10, q_11, q_12, q_13, q_14, q_20, q_26, q_30, q_40, q_50, q_51, q_56, q_60, q_90, q_99, q_100, q_19, Nat.not_lt_zero, ↓reduceIte, q_ift, qm_c1 hr b2.1]
          by_cases h5 : g 2 i < g 2 b'
          · simp only [h5, ↓reduceIte]
            refine hn _ (Or.inr ⟨b', by omega, b2, rfl, fun y hy hey => ?_, fun y hy hy2 hey => ?_⟩)
            · by_cases q : y = i
              · subst q; omega
              · exact b4 y (by omega) hey
            · by_cases q : y = i
              · subst q; exact h5
              · exact b5 y (by omega) hy2 hey
          · simp only [h5, ↓reduceIte]
            refine hn _ (Or.inr ⟨i, Nat.le_refl _, hex, rfl, fun y hy hey => ?_, fun y hy hy2 hey => absurd hy2 (by omega)⟩)
            by_cases q : y = i
            · subst q; exact Nat.le_refl _
            · have := b4 y (by omega) hey; omega
      · simp (disch := omega) only [hxc, h3, nI_ltI, nI_leI, nI_eq, q_okn, nI_clamp, nI_add, pk_mul, pk_sub, pk_div, q_nlt9, q_neg0, q_ne9, q_9ne, q_nle9, ↓reduceIte, Nat.one_ne_zero]
        exact hn x6 (keep (fun q => h3 q.2.2))
