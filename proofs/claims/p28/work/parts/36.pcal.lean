/-! ===== the pure claim: the law's calls of the class ===== -/
variable {e : Nat} {m : lc_St} {g : Nat → Nat → Nat} {M M' : lc_MM}
theorem w_rem (h0 : M 0 = nB g) (hk : Hk M) : ∃ M1, P_X1_remember 0 M = some M1 ∧ Hk M1 ∧ M1 0 = nB g ∧ M1 22 = M 22 := by
  obtain ⟨M1, a, b, c⟩ := x1_rem hk
  exact ⟨M1, a, b, by rw [c 0 (by omega)]; exact h0, c 22 (by omega)⟩
theorem Ok.up {M1 : lc_MM} {g' : Nat → Nat → Nat} {r : Nat} (hk : Hk M1) (h22 : M1 22 = M 22) {X : Option (Int32 × lc_MM)} (hX : X = some (0, va_up (va_up M1 0 (nB g')) 24 (lc_ss (va_up M1 0 (nB g') 24) 0 0 (nI r)))) : Ok M g' r X := by
  rw [hX]
  exact Ok.mk (lc_up_at _ _ _) (hk.of (lc_up_off _ _ (by omega))) (by rw [lc_up_off _ _ (by omega)]; exact h22)
/-! lend -/
theorem w_lend1 (h0 : M 0 = nB g) (hi : Iv g) (hk : Hk M) {x y u r : Nat} (hx : x < 2 ^ 31) (hy : y < 2 ^ 31) (h : ¬ (x < g 0 0 ∧ y < g 0 0)) : No M 1 (P_L_lend (nI x) (nI y) (nI u) (nI r) M) := by
  refine No.mk hk ?_
  have e1 := x0_has hi hx
  have e2 := x0_has hi hy
  have c : P_X3_lend (nI x) (nI y) (nI u) (nI r) M = some (3, 0, M) := by
    unfold P_X3_lend
    simp only [q_0, q_1, q_2, q_3, q_4, q_5, q_6, q_7, q_8, q_10, q_11, q_12, q_13, q_14, q_20, q_26, q_30, q_40, q_50, q_51, q_56, q_60, q_90, q_99, q_100, q_19, h0]
    by_cases q : x < g 0 0
    · rw [if_pos q] at e1
      rw [if_neg (fun z => h ⟨q, z⟩)] at e2
      rw [bE e1, if_neg (by decide +kernel), bE e2, if_pos rfl]
    · rw [if_neg q] at e1
      rw [bE e1, if_pos rfl]
  unfold P_L_lend
  rw [bE3 c]
  simp only [q_0, q_1, q_2, q_3, q_4, q_5, q_6, q_7, q_8, q_10, q_11, q_12, q_13, q_14, q_20, q_26, q_30, q_40, q_50, q_51, q_56, q_60, q_90, q_99, q_100, q_19, ↓reduceIte, Nat.reduceEqDiff]
  all_goals rfl
theorem w_lend2 (h0 : M 0 = nB g) (hi : Iv g) (hk : Hk M) {x y u r : Nat} (hx : x < g 0 0) (hy : y < g 0 0) (hu : u < 2 ^ 31) (hr : r < 2 ^ 31) (h : x = y ∨ ¬ (1 ≤ u ∧ u ≤ 99) ∨ 50 < r) : No M 2 (P_L_lend (nI x) (nI y) (nI u) (nI r) M) := by
  have h8 := hi.1
  refine No.mk hk ?_
  have e1 := x0_has hi (show x < 2 ^ 31 by omega)
  have e2 := x0_has hi (show y < 2 ^ 31 by omega)
  rw [if_pos hx] at e1
  rw [if_pos hy] at e2
  have e3 := x3_units hu
  have e4 := x3_in 0 50 r (by omega) (by omega) hr
  have c : P_X3_lend (nI x) (nI y) (nI u) (nI r) M = some (1, 0, M) := by
    unfold P_X3_lend
    simp only [q_0, q_1, q_2, q_3, q_4, q_5, q_6, q_7, q_8, q_10, q_11, q_12, q_13, q_14, q_20, q_26, q_30, q_40, q_50, q_51, q_56, q_60, q_90, q_99, q_100, q_19, h0]
    rw [bE e1, if_neg (by decide +kernel), bE e2, if_neg (by decide +kernel)]
    by_cases q : x = y
    · rw [if_pos (by rw [q])]
    · rw [if_neg (by rw [nI_eq (by omega) (by omega)]; exact q)]
      by_cases q2 : 1 ≤ u ∧ u ≤ 99
      · rw [if_pos q2] at e3
        rw [if_neg (by omega)] at e4
        rw [bE e3, if_neg (by decide +kernel), bE e4, if_pos rfl]
      · rw [if_neg q2] at e3
        rw [bE e3, if_pos rfl]
  unfold P_L_lend
  rw [bE3 c]
  simp only [q_0, q_1, q_2, q_3, q_4, q_5, q_6, q_7, q_8, q_10, q_11, q_12, q_13, q_14, q_20, q_26, q_30, q_40, q_50, q_51, q_56, q_60, q_90, q_99, q_100, q_19, ↓reduceIte, Nat.reduceEqDiff, Nat.one_ne_zero]
theorem x3_lendc (h0 : M 0 = nB g) (hi : Iv g) {x y u r : Nat} (hx : x < g 0 0) (hy : y < g 0 0) (hxy : x ≠ y) (hu1 : 1 ≤ u) (hu : u ≤ 99) (hr : r ≤ 50) : P_X3_lend (nI x) (nI y) (nI u) (nI r) M = if clG g x y u then lc_bd (P_X1_remember 0 M) (fun M1 => lc_bd2 (P_X0_makeLoan (nI x) (nI y) (nI u) (nI r) (M1 0)) (fun r108 s2 => lc_let (va_up M1 0 s2) (fun M3 => some (0, r108, M3)))) else some (2, 0, M) := by
  have h8 := hi.1
  have e1 := x0_has hi (show x < 2 ^ 31 by omega)
  have e2 := x0_has hi (show y < 2 ^ 31 by omega)
  rw [if_pos hx] at e1
  rw [if_pos hy] at e2
  have e3 := x3_units (show u < 2 ^ 31 by omega)
  have e4 := x3_in 0 50 r (by omega) (by omega) (by omega)
  have e5 := x0_canLend hi hx hy hxy (show u ≤ 1000 by omega)
  rw [if_pos ⟨hu1, hu⟩] at e3
  rw [if_pos ⟨Nat.zero_le _, hr⟩] at e4
  unfold P_X3_lend
  simp only [q_0, q_1, q_2, q_3, q_4, q_5, q_6, q_7, q_8, q_10, q_11, q_12, q_13, q_14, q_20, q_26, q_30, q_40, q_50, q_51, q_56, q_60, q_90, q_99, q_100, q_19, h0]
  rw [bE e1, if_neg (by decide +kernel), bE e2, if_neg (by decide +kernel), if_neg (by rw [nI_eq (by omega) (by omega)]; exact hxy), bE e3, if_neg (by decide +kernel), bE e4, if_neg (by decide +kernel)]
  by_cases q : clG g x y u
  · rw [if_pos q] at e5
    rw [bE e5, if_pos q, if_neg (by decide +kernel)]
  · rw [if_neg q] at e5
    rw [bE e5, if_neg q, if_pos rfl]
theorem w_lend3 (h0 : M 0 = nB g) (hi : Iv g) (hk : Hk M) {x y u r : Nat} (hx : x < g 0 0) (hy : y < g 0 0) (hxy : x ≠ y) (hu1 : 1 ≤ u) (hu : u ≤ 99) (hr : r ≤ 50) (h : ¬ clG g x y u) : No M 3 (P_L_lend (nI x) (nI y) (nI u) (nI r) M) := by
  refine No.mk hk ?_
  have c := x3_lendc h0 hi hx hy hxy hu1 hu hr
  rw [if_neg h] at c
  unfold P_L_lend
  rw [bE3 c]
  simp only [q_0, q_1, q_2, q_3, q_4, q_5, q_6, q_7, q_8, q_10, q_11, q_12, q_13, q_14, q_20, q_26, q_30, q_40, q_50, q_51, q_56, q_60, q_90, q_99, q_100, q_19, ↓reduceIte, Nat.reduceEqDiff]
theorem w_lend (h0 : M 0 = nB g) (hi : Iv g) (hk : Hk M) {x y u r : Nat} (hx : x < g 0 0) (hy : y < g 0 0) (hxy : x ≠ y) (hu1 : 1 ≤ u) (hu : u ≤ 99) (hr : r ≤ 50) (h : clG g x y u) : Ok M (lendS g x y u r) (arr u x y) (P_L_lend (nI x) (nI y) (nI u) (nI r) M) := by
  obtain ⟨M1, a1, a2, a3, a4⟩ := w_rem h0 hk
  have c := x3_lendc h0 hi hx hy hxy hu1 hu hr
  have L := x0_makeLoan (r := r) hi hx hy hxy (show u ≤ 1000 by omega)
  rw [if_pos h] at L
  rw [if_pos h, bE a1, a3, bE2 L] at c
  simp only [lc_let] at c
  refine Ok.up a2 a4 ?_
  unfold P_L_lend
  rw [bE3 c]
  simp only [↓reduceIte, lc_let]
/-! repay -/
theorem w_repay1 (h0 : M 0 = nB g) (hi : Iv g) (hk : Hk M) {i u : Nat} (hi2 : i < 2 ^ 31) (h : ¬ i < g 0 1) : No M 1 (P_L_repay (nI i) (nI u) M) := by
  refine No.mk hk ?_
  have e1 := x0_hasL hi hi2
  rw [if_neg h] at e1
  have c : P_X3_repay (nI i) (nI u) M = some (3, 0, M) := by
    unfold P_X3_repay
    simp only [q_0, q_1, q_2, q_3, q_4, q_5, q_6, q_7, q_8, q_10, q_11, q_12, q_13, q_14, q_20, q_26, q_30, q_40, q_50, q_51, q_56, q_60, q_90, q_99, q_100, q_19, h0]
    rw [bE e1, if_pos rfl]
  unfold P_L_repay
  rw [bE3 c]
  simp only [q_0, q_1, q_2, q_3, q_4, q_5, q_6, q_7, q_8, q_10, q_11, q_12, q_13, q_14, q_20, q_26, q_30, q_40, q_50, q_51, q_56, q_60, q_90, q_99, q_100, q_19, ↓reduceIte, Nat.reduceEqDiff]
  all_goals rfl
theorem w_repay2 (h0 : M 0 = nB g) (hi : Iv g) (hk : Hk M) {i u : Nat} (hii : i < g 0 1) (hu : u < 2 ^ 31) (h : ¬ (1 ≤ u ∧ u ≤ 99)) : No M 2 (P_L_repay (nI i) (nI u) M) := by
  have h12 := hi.2.1
  refine No.mk hk ?_
  have e1 := x0_hasL hi (show i < 2 ^ 31 by omega)
  rw [if_pos hii] at e1
  have e3 := x3_units hu
  rw [if_neg h] at e3
  have c : P_X3_repay (nI i) (nI u) M = some (1, 0, M) := by
    unfold P_X3_repay
    simp only [q_0, q_1, q_2, q_3, q_4, q_5, q_6, q_7, q_8, q_10, q_11, q_12, q_13, q_14, q_20, q_26, q_30, q_40, q_50, q_51, q_56, q_60, q_90, q_99, q_100, q_19, h0]
    rw [bE e1, if_neg (by decide +kernel), bE e3, if_pos rfl]
  unfold P_L_repay
  rw [bE3 c]
  simp only [q_0, q_1, q_2, q_3, q_4, q_5, q_6, q_7, q_8, q_10, q_11, q_12, q_13, q_14, q_20, q_26, q_30, q_40, q_50, q_51, q_56, q_60, q_90, q_99, q_100, q_19, ↓reduceIte, Nat.reduceEqDiff, Nat.one_ne_zero]
theorem x3_repayc (h0 : M 0 = nB g) (hi : Iv g) {i u : Nat} (hii : i < g 0 1) (hu1 : 1 ≤ u) (hu : u ≤ 99) : P_X3_repay (nI i) (nI u) M = if cpG g i u then lc_bd (P_X1_remember 0 M) (fun M1 => lc_bd2 (P_X0_payBack (nI i) (nI u) (M1 0)) (fun r77 s2 => lc_let (va_up M1 0 s2) (fun M3 => some (0, r77, M3)))) else some (2, 0, M) := by
  have h12 := hi.2.1
  have e1 := x0_hasL hi (show i < 2 ^ 31 by omega)
  rw [if_pos hii] at e1
  have e3 := x3_units (show u < 2 ^ 31 by omega)
  have e5 := x0_canPay hi hii (show u ≤ 1000 by omega)
  rw [if_pos ⟨hu1, hu⟩] at e3
  unfold P_X3_repay
  simp only [q_0, q_1, q_2, q_3, q_4, q_5, q_6, q_7, q_8, q_10, q_11, q_12, q_13, q_14, q_20, q_26, q_30, q_40, q_50, q_51, q_56, q_60, q_90, q_99, q_100, q_19, h0]
  rw [bE e1, if_neg (by decide +kernel), bE e3, if_neg (by decide +kernel)]
  by_cases q : cpG g i u
  · rw [if_pos q] at e5
    rw [bE e5, if_pos q, if_neg (by decide +kernel)]
  · rw [if_neg q] at e5
    rw [bE e5, if_neg q, if_pos rfl]
theorem w_repay3 (h0 : M 0 = nB g) (hi : Iv g) (hk : Hk M) {i u : Nat} (hii : i < g 0 1) (hu1 : 1 ≤ u) (hu : u ≤ 99) (h : ¬ cpG g i u) : No M 3 (P_L_repay (nI i) (nI u) M) := by
  refine No.mk hk ?_
  have c := x3_repayc h0 hi hii hu1 hu
  rw [if_neg h] at c
  unfold P_L_repay
  rw [bE3 c]
  simp only [q_0, q_1, q_2, q_3, q_4, q_5, q_6, q_7, q_8, q_10, q_11, q_12, q_13, q_14, q_20, q_26, q_30, q_40, q_50, q_51, q_56, q_60, q_90, q_99, q_100, q_19, ↓reduceIte, Nat.reduceEqDiff]
theorem w_repay (h0 : M 0 = nB g) (hi : Iv g) (hk : Hk M) {i u : Nat} (hii : i < g 0 1) (hu1 : 1 ≤ u) (hu : u ≤ 99) (h : cpG g i u) {r : Nat} {g' : Nat → Nat → Nat} (L : P_X0_payBack (nI i) (nI u) (nB g) = some (nI r, nB g')) : Ok M g' r (P_L_repay (nI i) (nI u) M) := by
  obtain ⟨M1, a1, a2, a3, a4⟩ := w_rem h0 hk
  have c := x3_repayc h0 hi hii hu1 hu
  rw [if_pos h, bE a1, a3, bE2 L] at c
  simp only [lc_let] at c
  refine Ok.up a2 a4 ?_
  unfold P_L_repay
  rw [bE3 c]
  simp only [↓reduceIte, lc_let]
/-! setLeak -/
theorem w_leak1 (h0 : M 0 = nB g) (hi : Iv g) (hk : Hk M) {c k : Nat} (hc2 : c < 2 ^ 31) (h : ¬ c < g 0 0) : No M 1 (P_L_setLeak (nI c) (nI k) M) := by
  refine No.mk hk ?_
  have e1 := x0_has hi hc2
  rw [if_neg h] at e1
  have c : P_X3_setLeak (nI c) (nI k) M = some (3, 0, M) := by
    unfold P_X3_setLeak
    simp only [q_0, q_1, q_2, q_3, q_4, q_5, q_6, q_7, q_8, q_10, q_11, q_12, q_13, q_14, q_20, q_26, q_30, q_40, q_50, q_51, q_56, q_60, q_90, q_99, q_100, q_19, h0]
    rw [bE e1, if_pos rfl]
  unfold P_L_setLeak
  rw [bE3 c]
  simp only [q_0, q_1, q_2, q_3, q_4, q_5, q_6, q_7, q_8, q_10, q_11, q_12, q_13, q_14, q_20, q_26, q_30, q_40, q_50, q_51, q_56, q_60, q_90, q_99, q_100, q_19, ↓reduceIte, Nat.reduceEqDiff]
  all_goals rfl
theorem w_leak2 (h0 : M 0 = nB g) (hi : Iv g) (hk : Hk M) {c k : Nat} (hc : c < g 0 0) (hk2 : k < 2 ^ 31) (h : ¬ k ≤ 3) : No M 2 (P_L_setLeak (nI c) (nI k) M) := by
  have h8 := hi.1
  refine No.mk hk ?_
  have e1 := x0_has hi (show c < 2 ^ 31 by omega)
  rw [if_pos hc] at e1
  have e3 := x3_in 0 3 k (by omega) (by omega) hk2
  rw [if_neg (by omega)] at e3
  have c : P_X3_setLeak (nI c) (nI k) M = some (1, 0, M) := by
    unfold P_X3_setLeak
    simp only [q_0, q_1, q_2, q_3, q_4, q_5, q_6, q_7, q_8, q_10, q_11, q_12, q_13, q_14, q_20, q_26, q_30, q_40, q_50, q_51, q_56, q_60, q_90, q_99, q_100, q_19, h0]
    rw [bE e1, if_neg (by decide +kernel), bE e3, if_pos rfl]
  unfold P_L_setLeak
  rw [bE3 c]
  simp only [q_0, q_1, q_2, q_3, q_4, q_5, q_6, q_7, q_8, q_10, q_11, q_12, q_13, q_14, q_20, q_26, q_30, q_40, q_50, q_51, q_56, q_60, q_90, q_99, q_100, q_19, ↓reduceIte, Nat.reduceEqDiff, Nat.one_ne_zero]
theorem w_leak (h0 : M 0 = nB g) (hi : Iv g) (hk : Hk M) {c k : Nat} (hc : c < g 0 0) (h : k ≤ 3) : Ok M (gs g 3 c k) (g 3 c) (P_L_setLeak (nI c) (nI k) M) := by
  have h8 := hi.1
  obtain ⟨M1, a1, a2, a3, a4⟩ := w_rem h0 hk
  have e1 := x0_has hi (show c < 2 ^ 31 by omega)
  rw [if_pos hc] at e1
  have e3 := x3_in 0 3 k (by omega) (by omega) (by omega)
  rw [if_pos (by omega)] at e3
  have c : P_X3_setLeak (nI c) (nI k) M = some (0, nI (g 3 c), va_up M1 0 (nB (gs g 3 c k))) := by
    unfold P_X3_setLeak
    simp only [q_0, q_1, q_2, q_3, q_4, q_5, q_6, q_7, q_8, q_10, q_11, q_12, q_13, q_14, q_20, q_26, q_30, q_40, q_50, q_51, q_56, q_60, q_90, q_99, q_100, q_19, h0]
    rw [bE e1, if_neg (by decide +kernel), bE e3, if_neg (by decide +kernel), bE a1]
    simp (disch := omega) only [nI_ltI, nI_leI, nI_eq, q_okn, nI_clamp, nI_add, pk_mul, pk_sub, pk_div, q_nlt9, q_neg0, q_ne9, q_9ne, q_nle9, a3, q_ift, lc_let, nB_at, nB_ss]
  refine Ok.up a2 a4 ?_
  unfold P_L_setLeak
  rw [bE3 c]
  simp only [↓reduceIte, lc_let]
/-! charge -/
theorem w_charge1 (hk : Hk M) {u : Nat} (hu : u < 2 ^ 31) (h : ¬ (1 ≤ u ∧ u ≤ 99)) : No M 1 (P_L_charge (nI u) M) := by
  refine No.mk hk ?_
  have e3 := x3_units hu
  rw [if_neg h] at e3
  have c : P_X3_charge (nI u) M = some (1, 0, M) := by
    unfold P_X3_charge
    simp only [q_0, q_1, q_2, q_3, q_4, q_5, q_6, q_7, q_8, q_10, q_11, q_12, q_13, q_14, q_20, q_26, q_30, q_40, q_50, q_51, q_56, q_60, q_90, q_99, q_100, q_19]
    rw [bE e3, if_pos rfl]
  unfold P_L_charge
  rw [bE3 c]
  simp only [q_0, q_1, q_2, q_3, q_4, q_5, q_6, q_7, q_8, q_10, q_11, q_12, q_13, q_14, q_20, q_26, q_30, q_40, q_50, q_51, q_56, q_60, q_90, q_99, q_100, q_19, ↓reduceIte, Nat.one_ne_zero]
theorem w_charge (h0 : M 0 = nB g) (hk : Hk M) {u : Nat} (hu1 : 1 ≤ u) (hu : u ≤ 99) {r : Nat} {g' : Nat → Nat → Nat} (L : P_X0_fillEach (nI u) (nB g) = some (nI r, nB g')) : Ok M g' r (P_L_charge (nI u) M) := by
  obtain ⟨M1, a1, a2, a3, a4⟩ := w_rem h0 hk
  have e3 := x3_units (show u < 2 ^ 31 by omega)
  rw [if_pos ⟨hu1, hu⟩] at e3
  have c : P_X3_charge (nI u) M = some (0, nI r, va_up M1 0 (nB g')) := by
    unfold P_X3_charge
    simp only [q_0, q_1, q_2, q_3, q_4, q_5, q_6, q_7, q_8, q_10, q_11, q_12, q_13, q_14, q_20, q_26, q_30, q_40, q_50, q_51, q_56, q_60, q_90, q_99, q_100, q_19]
    rw [bE e3, if_neg (by decide +kernel), bE a1, a3, bE2 L]
    rfl
  refine Ok.up a2 a4 ?_
  unfold P_L_charge
  rw [bE3 c]
  simp only [↓reduceIte, lc_let]
/-! pass -/
theorem w_pass1 (hk : Hk M) {u : Nat} (hu : u < 2 ^ 31) (h : ¬ (1 ≤ u ∧ u ≤ 50)) : No M 1 (P_L_pass (nI u) M) := by
  refine No.mk hk ?_
  have e3 := x3_in 1 50 u (by omega) (by omega) hu
  rw [if_neg h] at e3
  have c : P_X3_pass (nI u) M = some (1, 0, M) := by
    unfold P_X3_pass
    simp only [q_0, q_1, q_2, q_3, q_4, q_5, q_6, q_7, q_8, q_10, q_11, q_12, q_13, q_14, q_20, q_26, q_30, q_40, q_50, q_51, q_56, q_60, q_90, q_99, q_100, q_19]
    rw [bE e3, if_pos rfl]
  unfold P_L_pass
  rw [bE3 c]
  simp only [q_0, q_1, q_2, q_3, q_4, q_5, q_6, q_7, q_8, q_10, q_11, q_12, q_13, q_14, q_20, q_26, q_30, q_40, q_50, q_51, q_56, q_60, q_90, q_99, q_100, q_19, ↓reduceIte, Nat.one_ne_zero]
theorem w_pass (h0 : M 0 = nB g) (hk : Hk M) {u : Nat} (hu1 : 1 ≤ u) (hu : u ≤ 50) {r : Nat} {g' : Nat → Nat → Nat} (L : P_X0_letRoundsGoBy (nI u) (nB g) = some (nI r, nB g')) : Ok M g' r (P_L_pass (nI u) M) := by
  obtain ⟨M1, a1, a2, a3, a4⟩ := w_rem h0 hk
  have e3 := x3_in 1 50 u (by omega) (by omega) (by omega)
  rw [if_pos ⟨hu1, hu⟩] at e3
  have c : P_X3_pass (nI u) M = some (0, nI r, va_up M1 0 (nB g')) := by
    unfold P_X3_pass
    simp only [q_0, q_1, q_2, q_3, q_4, q_5, q_6, q_7, q_8, q_10, q_11, q_12, q_13, q_14, q_20, q_26, q_30, q_40, q_50, q_51, q_56, q_60, q_90, q_99, q_100, q_19]
    rw [bE e3, if_neg (by decide +kernel), bE a1, a3, bE2 L]
    rfl
  refine Ok.up a2 a4 ?_
  unfold P_L_pass
  rw [bE3 c]
  simp only [↓reduceIte, lc_let]
/-! addCell -/
def ncS (g : Nat → Nat → Nat) (a b c : Nat) : Nat → Nat → Nat := gs (gs (gs (gs (gs (gs g 1 (g 0 0) a) 2 (g 0 0) b) 3 (g 0 0) c) 4 (g 0 0) 0) 0 3 (g 0 3 + b)) 0 0 (g 0 0 + 1)
theorem Iv_nc (hi : Iv g) (h8 : g 0 0 < 8) {a b c : Nat} (ha : 10 ≤ a) (ha2 : a ≤ 99) (hb : b ≤ a) (hc : c ≤ 3) : Iv (ncS g a b c) := by
  unfold ncS
  refine ⟨by rw [gs_at]; omega, by simpa (disch := omega) only [gs_i, gs_r] using hi.2.1, fun x hx => ?_, fun j hj => ?_⟩
  · rw [gs_at] at hx
    by_cases q : x = g 0 0
    · subst q
      simp (disch := omega) only [gs_at, gs_r, gs_i]; omega
    · have := hi.2.2.1 x (by omega)
      simp (disch := omega) only [gs_r, gs_i]; omega
  · replace hj : j < g 0 1 := by simpa (disch := omega) only [gs_i, gs_r] using hj
    have := hi.2.2.2 j hj
    simp (disch := omega) only [gs_r, gs_at]; omega
theorem x0_put (h8 : g 0 0 < 8) (a b c : Nat) : P_X0_putCell (nI a) (nI b) (nI c) (nB g) = some (nI (g 0 0), nB (ncS g a b c)) := by
  unfold P_X0_putCell
  simp only [q_0, q_1, q_2, q_3, q_4, q_5, q_6, q_7, q_8, q_10, q_11, q_12, q_13, q_14, q_20, q_26, q_30, q_40, q_50, q_51, q_56, q_60, q_90, q_99, q_100, q_19]
  simp (disch := omega) only [nI_ltI, nI_leI, nI_eq, q_okn, nI_clamp, nI_add, pk_mul, pk_sub, pk_div, q_nlt9, q_neg0, q_ne9, q_9ne, q_nle9, nB_at, h8, ↓reduceIte, lc_let, q_ift, q_ifT, nB_ss, gs_r, gs_i]
  rfl
theorem w_add1 (hk : Hk M) {a b c : Nat} (ha : a < 2 ^ 31) (hb : b < 2 ^ 31) (hc : c < 2 ^ 31) (h : ¬ (10 ≤ a ∧ a ≤ 99 ∧ b ≤ a ∧ c ≤ 3)) : No M 1 (P_L_addCell (nI a) (nI b) (nI c) M) := by
  refine No.mk hk ?_
  have e1 := x3_in 10 99 a (by omega) (by omega) ha
  have e2 := x3_in 0 a b (by omega) ha hb
  have e3 := x3_in 0 3 c (by omega) (by omega) hc
  have c : P_X3_addCell (nI a) (nI b) (nI c) M = some (1, 0, M) := by
    unfold P_X3_addCell
    simp only [q_0, q_1, q_2, q_3, q_4, q_5, q_6, q_7, q_8, q_10, q_11, q_12, q_13, q_14, q_20, q_26, q_30, q_40, q_50, q_51, q_56, q_60, q_90, q_99, q_100, q_19]
    by_cases q1 : 10 ≤ a ∧ a ≤ 99
    · rw [if_pos q1] at e1
      rw [bE e1, if_neg (by decide +kernel)]
      by_cases q2 : 0 ≤ b ∧ b ≤ a
      · rw [if_pos q2] at e2
        rw [if_neg (by omega)] at e3
        rw [bE e2, if_neg (by decide +kernel), bE e3, if_pos rfl]
      · rw [if_neg q2] at e2
        rw [bE e2, if_pos rfl]
    · rw [if_neg q1] at e1
      rw [bE e1, if_pos rfl]
  unfold P_L_addCell
  rw [bE3 c]
  simp only [q_0, q_1, q_2, q_3, q_4, q_5, q_6, q_7, q_8, q_10, q_11, q_12, q_13, q_14, q_20, q_26, q_30, q_40, q_50, q_51, q_56, q_60, q_90, q_99, q_100, q_19, ↓reduceIte, Nat.one_ne_zero]
theorem w_add (h0 : M 0 = nB g) (hk : Hk M) (h8 : g 0 0 < 8) {a b c : Nat} (ha1 : 10 ≤ a) (ha : a ≤ 99) (hb : b ≤ a) (hc : c ≤ 3) : Ok M (ncS g a b c) (g 0 0) (P_L_addCell (nI a) (nI b) (nI c) M) := by
  obtain ⟨M1, a1, a2, a3, a4⟩ := w_rem h0 hk
  have e1 := x3_in 10 99 a (by omega) (by omega) (by omega)
  have e2 := x3_in 0 a b (by omega) (by omega) (by omega)
  have e3 := x3_in 0 3 c (by omega) (by omega) (by omega)
  rw [if_pos ⟨ha1, ha⟩] at e1
  rw [if_pos ⟨Nat.zero_le _, hb⟩] at e2
  rw [if_pos ⟨Nat.zero_le _, hc⟩] at e3
  have c : P_X3_addCell (nI a) (nI b) (nI c) M = some (0, nI (g 0 0), va_up M1 0 (nB (ncS g a b c))) := by
    unfold P_X3_addCell
    simp only [q_0, q_1, q_2, q_3, q_4, q_5, q_6, q_7, q_8, q_10, q_11, q_12, q_13, q_14, q_20, q_26, q_30, q_40, q_50, q_51, q_56, q_60, q_90, q_99, q_100, q_19, h0]
    rw [bE e1, if_neg (by decide +kernel), bE e2, if_neg (by decide +kernel), bE e3, if_neg (by decide +kernel), nB_at, if_pos (by rw [nI_ltI (by omega) (by omega)]; exact h8), bE a1, a3, bE2 (x0_put h8 a b c)]
    rfl
  refine Ok.up a2 a4 ?_
  unfold P_L_addCell
  rw [bE3 c]
  simp only [↓reduceIte, lc_let]
