/-! ===== the pure claim: what a battery answers ===== -/
variable {e : Nat} {m : lc_St} {g : Nat → Nat → Nat}
/-- the sum of the first places -/
def tn (h : Nat → Nat) : Nat → Nat
  | 0 => 0
  | n + 1 => tn h n + h n
theorem tn_cong {h h' : Nat → Nat} : ∀ {n}, (∀ x, x < n → h x = h' x) → tn h n = tn h' n
  | 0, _ => rfl
  | n + 1, q => by
    show tn h n + h n = tn h' n + h' n
    rw [tn_cong (fun x hx => q x (by omega)), q n (by omega)]
theorem tn_up (h : Nat → Nat) (x v : Nat) : ∀ {n}, x < n → tn (va_up h x v) n + h x = tn h n + v
  | 0, q => absurd q (by omega)
  | n + 1, q => by
    show tn (va_up h x v) n + va_up h x v n + h x = tn h n + h n + v
    by_cases hx : x = n
    · subst hx
      rw [va_up_self, tn_cong (h := va_up h x v) (h' := h) (fun y hy => va_up_ne _ _ (by omega))]
      omega
    · rw [va_up_ne _ _ (by omega)]
      have := tn_up h x v (n := n) (by omega)
      omega
theorem tn_two {h h' : Nat → Nat} {x y n : Nat} (hx : x < n) (hy : y < n) (hxy : x ≠ y) (hz : ∀ z, z ≠ x → z ≠ y → h' z = h z) (hs : h' x + h' y ≤ h x + h y) : tn h' n ≤ tn h n := by
  have e1 : h' = va_up (va_up h x (h' x)) y (h' y) := by
    funext z
    by_cases q : z = y
    · subst q; rw [va_up_self]
    · rw [va_up_ne _ _ q]
      by_cases q2 : z = x
      · subst q2; rw [va_up_self]
      · rw [va_up_ne _ _ q2]; exact hz z q2 q
  have a1 := tn_up h x (h' x) hx
  have a2 := tn_up (va_up h x (h' x)) y (h' y) hy
  rw [va_up_ne _ _ (fun z => hxy z.symm), ← e1] at a2
  omega
theorem tn_le {h : Nat → Nat} {b : Nat} : ∀ {n}, (∀ x, x < n → h x ≤ b) → tn h n ≤ n * b
  | 0, _ => by simp [tn]
  | n + 1, q => by
    have := tn_le (h := h) (b := b) (n := n) (fun x hx => q x (by omega))
    have := q n (by omega)
    show tn h n + h n ≤ (n + 1) * b
    rw [Nat.succ_mul]; omega
theorem l_allCharge (hi : Iv g) : ∀ k c n, c + k = g 0 0 → k < n → P_X0_allCharge_4 n (nI (tn (g 2) c)) (nI c) (nB g) = some (nI (tn (g 2) (g 0 0))) := by
  have h8 := hi.1
  intro k
  induction k with
  | zero =>
    intro c n hc h1
    obtain ⟨n, rfl⟩ : ∃ q, n = q + 1 := ⟨n - 1, by omega⟩
    have hle : g 0 0 ≤ c := by omega
    rw [P_X0_allCharge_4]
    simp (disch := omega) only [nB_at, q_0, q_1, q_2, q_3, q_4, q_5, q_6, q_7, q_8, q_10, q_11, q_12, q_13, q_14, q_20, q_26, q_30, q_40, q_50, q_51, q_56, q_60, q_90, q_99, q_100, q_19, nI_ltI, nI_leI, nI_eq, q_okn, nI_clamp, nI_add, pk_mul, pk_sub, pk_div, q_nlt9, q_neg0, q_ne9, q_9ne, q_nle9, lc_let, q_ift, q_ifT, q_iff, q_bd, q_bd2, q_bd3, q_nbd, q_nbd2, ↓reduceIte, and_true, true_and, Nat.one_ne_zero, Nat.reduceEqDiff, Nat.reduceLeDiff, Nat.reduceLT, hle]
    rw [show c = g 0 0 by omega]
  | succ k ih =>
    intro c n hc h1
    obtain ⟨n, rfl⟩ : ∃ q, n = q + 1 := ⟨n - 1, by omega⟩
    have hlt : c < g 0 0 := by omega
    have h2 := ih (c + 1) n (by omega) (by omega)
    rw [P_X0_allCharge_4]
    simp (disch := omega) only [nB_at, q_0, q_1, q_2, q_3, q_4, q_5, q_6, q_7, q_8, q_10, q_11, q_12, q_13, q_14, q_20, q_26, q_30, q_40, q_50, q_51, q_56, q_60, q_90, q_99, q_100, q_19, nI_ltI, nI_leI, nI_eq, q_okn, nI_clamp, nI_add, pk_mul, pk_sub, pk_div, q_nlt9, q_neg0, q_ne9, q_9ne, q_nle9, lc_let, q_ift, q_ifT, q_iff, q_bd, q_bd2, q_bd3, q_nbd, q_nbd2, ↓reduceIte, and_true, true_and, Nat.one_ne_zero, Nat.reduceEqDiff, Nat.reduceLeDiff, Nat.reduceLT, Nat.not_le.mpr hlt]
    exact h2
theorem x0_allCharge (hi : Iv g) : P_X0_allCharge (nB g) = some (nI (tn (g 2) (g 0 0))) := by
  have h8 := hi.1
  exact l_allCharge hi (g 0 0) 0 lc_FU (by omega) (q_FUn (by omega))
theorem l_allOwed (hi : Iv g) : ∀ k c n, c + k = g 0 1 → k < n → P_X0_allOwed_4 n (nI (tn (g 7) c)) (nI c) (nB g) = some (nI (tn (g 7) (g 0 1))) := by
  have h8 := hi.2.1
  intro k
  induction k with
  | zero =>
    intro c n hc h1
    obtain ⟨n, rfl⟩ : ∃ q, n = q + 1 := ⟨n - 1, by omega⟩
    have hle : g 0 1 ≤ c := by omega
    rw [P_X0_allOwed_4]
    simp (disch := omega) only [nB_at, q_0, q_1, q_2, q_3, q_4, q_5, q_6, q_7, q_8, q_10, q_11, q_12, q_13, q_14, q_20, q_26, q_30, q_40, q_50, q_51, q_56, q_60, q_90, q_99, q_100, q_19, nI_ltI, nI_leI, nI_eq, q_okn, nI_clamp, nI_add, pk_mul, pk_sub, pk_div, q_nlt9, q_neg0, q_ne9, q_9ne, q_nle9, lc_let, q_ift, q_ifT, q_iff, q_bd, q_bd2, q_bd3, q_nbd, q_nbd2, ↓reduceIte, and_true, true_and, Nat.one_ne_zero, Nat.reduceEqDiff, Nat.reduceLeDiff, Nat.reduceLT, hle]
    rw [show c = g 0 1 by omega]
  | succ k ih =>
    intro c n hc h1
    obtain ⟨n, rfl⟩ : ∃ q, n = q + 1 := ⟨n - 1, by omega⟩
    have hlt : c < g 0 1 := by omega
    have h2 := ih (c + 1) n (by omega) (by omega)
    rw [P_X0_allOwed_4]
    simp (disch := omega) only [nB_at, q_0, q_1, q_2, q_3, q_4, q_5, q_6, q_7, q_8, q_10, q_11, q_12, q_13, q_14, q_20, q_26, q_30, q_40, q_50, q_51, q_56, q_60, q_90, q_99, q_100, q_19, nI_ltI, nI_leI, nI_eq, q_okn, nI_clamp, nI_add, pk_mul, pk_sub, pk_div, q_nlt9, q_neg0, q_ne9, q_9ne, q_nle9, lc_let, q_ift, q_ifT, q_iff, q_bd, q_bd2, q_bd3, q_nbd, q_nbd2, ↓reduceIte, and_true, true_and, Nat.one_ne_zero, Nat.reduceEqDiff, Nat.reduceLeDiff, Nat.reduceLT, Nat.not_le.mpr hlt]
    exact h2
theorem x0_allOwed (hi : Iv g) : P_X0_allOwed (nB g) = some (nI (tn (g 7) (g 0 1))) := by
  have h8 := hi.2.1
  exact l_allOwed hi (g 0 1) 0 lc_FU (by omega) (q_FUn (by omega))
def bit (c : Nat) : Int32 := (nI 1) <<< (nI c &&& 31)
theorem bit_nI : ∀ c, c < 8 → bit c = nI (2 ^ c) := by decide +kernel
theorem nI_or (a b : Nat) : nI a ||| nI b = nI (a ||| b) := by
  apply Int32.toBitVec_inj.mp
  show (BitVec.ofNat 32 a) ||| (BitVec.ofNat 32 b) = BitVec.ofNat 32 (a ||| b)
  exact BitVec.ofNat_or.symm
/-- the bankrupt of the first cells, as bits -/
def bkm (h : Nat → Nat) : Nat → Nat
  | 0 => 0
  | n + 1 => if h n < 3 then bkm h n else bkm h n ||| 2 ^ n
theorem l_bankrupt (hi : Iv g) : ∀ k c n, c + k = g 0 0 → k < n → P_X0_bankruptCells_4 n (nI (bkm (g 4) c)) (nI c) (nB g) = some (nI (bkm (g 4) (g 0 0))) := by
  have h8 := hi.1
  intro k
  induction k with
  | zero =>
    intro c n hc h1
    obtain ⟨n, rfl⟩ : ∃ q, n = q + 1 := ⟨n - 1, by omega⟩
    have hle : g 0 0 ≤ c := by omega
    rw [P_X0_bankruptCells_4]
    simp (disch := omega) only [nB_at, q_0, q_1, q_2, q_3, q_4, q_5, q_6, q_7, q_8, q_10, q_11, q_12, q_13, q_14, q_20, q_26, q_30, q_40, q_50, q_51, q_56, q_60, q_90, q_99, q_100, q_19, nI_ltI, nI_leI, nI_eq, q_okn, nI_clamp, nI_add, pk_mul, pk_sub, pk_div, q_nlt9, q_neg0, q_ne9, q_9ne, q_nle9, lc_let, q_ift, q_ifT, q_iff, q_bd, q_bd2, q_bd3, q_nbd, q_nbd2, ↓reduceIte, and_true, true_and, Nat.one_ne_zero, Nat.reduceEqDiff, Nat.reduceLeDiff, Nat.reduceLT, hle]
    rw [show c = g 0 0 by omega]
  | succ k ih =>
    intro c n hc h1
    obtain ⟨n, rfl⟩ : ∃ q, n = q + 1 := ⟨n - 1, by omega⟩
    have hlt : c < g 0 0 := by omega
    have h2 := ih (c + 1) n (by omega) (by omega)
    have eb : (nI 1 <<< (nI c &&& 31)) = nI (2 ^ c) := bit_nI c (by omega)
    rw [bkm] at h2
    rw [P_X0_bankruptCells_4]
    simp (disch := omega) only [nB_at, q_0, q_1, q_2, q_3, q_4, q_5, q_6, q_7, q_8, q_10, q_11, q_12, q_13, q_14, q_20, q_26, q_30, q_40, q_50, q_51, q_56, q_60, q_90, q_99, q_100, q_19, nI_ltI, nI_leI, nI_eq, q_okn, nI_clamp, nI_add, pk_mul, pk_sub, pk_div, q_nlt9, q_neg0, q_ne9, q_9ne, q_nle9, lc_let, q_ift, q_ifT, q_iff, q_bd, q_bd2, q_bd3, q_nbd, q_nbd2, ↓reduceIte, and_true, true_and, Nat.one_ne_zero, Nat.reduceEqDiff, Nat.reduceLeDiff, Nat.reduceLT, x0_bank hi hlt, Nat.not_le.mpr hlt, P_X0_bankruptCells_26]
    by_cases hb : g 4 c < 3
    · rw [if_pos hb] at h2
      simp (disch := omega) only [hb, nB_at, q_0, q_1, q_2, q_3, q_4, q_5, q_6, q_7, q_8, q_10, q_11, q_12, q_13, q_14, q_20, q_26, q_30, q_40, q_50, q_51, q_56, q_60, q_90, q_99, q_100, q_19, nI_ltI, nI_leI, nI_eq, q_okn, nI_clamp, nI_add, pk_mul, pk_sub, pk_div, q_nlt9, q_neg0, q_ne9, q_9ne, q_nle9, lc_let, q_ift, q_ifT, q_iff, q_bd, q_bd2, q_bd3, q_nbd, q_nbd2, ↓reduceIte, and_true, true_and, Nat.one_ne_zero, Nat.reduceEqDiff, Nat.reduceLeDiff, Nat.reduceLT]
      exact h2
    · rw [if_neg hb] at h2
      simp (disch := omega) only [hb, nB_at, q_0, q_1, q_2, q_3, q_4, q_5, q_6, q_7, q_8, q_10, q_11, q_12, q_13, q_14, q_20, q_26, q_30, q_40, q_50, q_51, q_56, q_60, q_90, q_99, q_100, q_19, nI_ltI, nI_leI, nI_eq, q_okn, nI_clamp, nI_add, pk_mul, pk_sub, pk_div, q_nlt9, q_neg0, q_ne9, q_9ne, q_nle9, lc_let, q_ift, q_ifT, q_iff, q_bd, q_bd2, q_bd3, q_nbd, q_nbd2, ↓reduceIte, and_true, true_and, Nat.one_ne_zero, Nat.reduceEqDiff, Nat.reduceLeDiff, Nat.reduceLT]
      rw [eb, nI_or]
      exact h2
theorem x0_bankrupts (hi : Iv g) : P_X0_bankruptCells (nB g) = some (nI (bkm (g 4) (g 0 0))) := by
  have h8 := hi.1
  exact l_bankrupt hi (g 0 0) 0 lc_FU (by omega) (q_FUn (by omega))
/-- what the first loans sum to whose field f is c -/
def ow (g : Nat → Nat → Nat) (f c : Nat) : Nat → Nat
  | 0 => 0
  | n + 1 => ow g f c n + (if g f n = c then g 7 n else 0)
theorem ow_le (hi : Iv g) (f c : Nat) : ∀ n, n ≤ g 0 1 → ow g f c n ≤ 99 * n
  | 0, _ => Nat.le_refl _
  | n + 1, h => by
    have := ow_le hi f c n (by omega)
    have := hi.2.2.2 n (by omega)
    show ow g f c n + _ ≤ _
    split <;> omega
theorem l_owedBy (hi : Iv g) {c : Nat} (hc : c < 8) : ∀ k i n, i + k = g 0 1 → k < n → P_X0_owedBy_4 n (nI c) (nI (ow g 6 c i)) (nI i) (nB g) = some (nI (ow g 6 c (g 0 1))) := by
  have h8 := hi.2.1
  have h0 := hi.1
  intro k
  induction k with
  | zero =>
    intro i n hi1 h1
    obtain ⟨n, rfl⟩ : ∃ q, n = q + 1 := ⟨n - 1, by omega⟩
    have hle : g 0 1 ≤ i := by omega
    rw [P_X0_owedBy_4]
    simp (disch := omega) only [nB_at, q_0, q_1, q_2, q_3, q_4, q_5, q_6, q_7, q_8, q_10, q_11, q_12, q_13, q_14, q_20, q_26, q_30, q_40, q_50, q_51, q_56, q_60, q_90, q_99, q_100, q_19, nI_ltI, nI_leI, nI_eq, q_okn, nI_clamp, nI_add, pk_mul, pk_sub, pk_div, q_nlt9, q_neg0, q_ne9, q_9ne, q_nle9, lc_let, q_ift, q_ifT, q_iff, q_bd, q_bd2, q_bd3, q_nbd, q_nbd2, ↓reduceIte, and_true, true_and, Nat.one_ne_zero, Nat.reduceEqDiff, Nat.reduceLeDiff, Nat.reduceLT, hle]
    rw [show i = g 0 1 by omega]
  | succ k ih =>
    intro i n hi1 h1
    obtain ⟨n, rfl⟩ : ∃ q, n = q + 1 := ⟨n - 1, by omega⟩
    have hlt : i < g 0 1 := by omega
    have hl := hi.2.2.2 i hlt
    have hs := ow_le hi 6 c i (by omega)
    have h2 := ih (i + 1) n (by omega) (by omega)
    rw [P_X0_owedBy_4]
    simp (disch := omega) only [nB_at, q_0, q_1, q_2, q_3, q_4, q_5, q_6, q_7, q_8, q_10, q_11, q_12, q_13, q_14, q_20, q_26, q_30, q_40, q_50, q_51, q_56, q_60, q_90, q_99, q_100, q_19, nI_ltI, nI_leI, nI_eq, q_okn, nI_clamp, nI_add, pk_mul, pk_sub, pk_div, q_nlt9, q_neg0, q_ne9, q_9ne, q_nle9, lc_let, q_ift, q_ifT, q_iff, q_bd, q_bd2, q_bd3, q_nbd, q_nbd2, ↓reduceIte, and_true, true_and, Nat.one_ne_zero, Nat.reduceEqDiff, Nat.reduceLeDiff, Nat.reduceLT, Nat.not_le.mpr hlt, P_X0_owedBy_31]
    rw [ow] at h2
    by_cases hb : g 6 i = c
    · rw [if_pos hb] at h2
      rw [if_pos hb]; exact h2
    · rw [if_neg hb] at h2
      rw [if_neg hb]; exact h2
theorem x0_owedBy (hi : Iv g) {c : Nat} (hc : c < 8) : P_X0_owedBy (nI c) (nB g) = some (nI (ow g 6 c (g 0 1))) := by
  have h8 := hi.2.1
  have := l_owedBy hi hc (g 0 1) 0 lc_FU (by omega) (q_FUn (by omega))
  exact this
theorem l_owedTo (hi : Iv g) {c : Nat} (hc : c < 8) : ∀ k i n, i + k = g 0 1 → k < n → P_X0_owedTo_4 n (nI c) (nI (ow g 5 c i)) (nI i) (nB g) = some (nI (ow g 5 c (g 0 1))) := by
  have h8 := hi.2.1
  have h0 := hi.1
  intro k
  induction k with
  | zero =>
    intro i n hi1 h1
    obtain ⟨n, rfl⟩ : ∃ q, n = q + 1 := ⟨n - 1, by omega⟩
    have hle : g 0 1 ≤ i := by omega
    rw [P_X0_owedTo_4]
    simp (disch := omega) only [nB_at, q_0, q_1, q_2, q_3, q_4, q_5, q_6, q_7, q_8, q_10, q_11, q_12, q_13, q_14, q_20, q_26, q_30, q_40, q_50, q_51, q_56, q_60, q_90, q_99, q_100, q_19, nI_ltI, nI_leI, nI_eq, q_okn, nI_clamp, nI_add, pk_mul, pk_sub, pk_div, q_nlt9, q_neg0, q_ne9, q_9ne, q_nle9, lc_let, q_ift, q_ifT, q_iff, q_bd, q_bd2, q_bd3, q_nbd, q_nbd2, ↓reduceIte, and_true, true_and, Nat.one_ne_zero, Nat.reduceEqDiff, Nat.reduceLeDiff, Nat.reduceLT, hle]
    rw [show i = g 0 1 by omega]
  | succ k ih =>
    intro i n hi1 h1
    obtain ⟨n, rfl⟩ : ∃ q, n = q + 1 := ⟨n - 1, by omega⟩
    have hlt : i < g 0 1 := by omega
    have hl := hi.2.2.2 i hlt
    have hs := ow_le hi 5 c i (by omega)
    have h2 := ih (i + 1) n (by omega) (by omega)
    rw [P_X0_owedTo_4]
    simp (disch := omega) only [nB_at, q_0, q_1, q_2, q_3, q_4, q_5, q_6, q_7, q_8, q_10, q_11, q_12, q_13, q_14, q_20, q_26, q_30, q_40, q_50, q_51, q_56, q_60, q_90, q_99, q_100, q_19, nI_ltI, nI_leI, nI_eq, q_okn, nI_clamp, nI_add, pk_mul, pk_sub, pk_div, q_nlt9, q_neg0, q_ne9, q_9ne, q_nle9, lc_let, q_ift, q_ifT, q_iff, q_bd, q_bd2, q_bd3, q_nbd, q_nbd2, ↓reduceIte, and_true, true_and, Nat.one_ne_zero, Nat.reduceEqDiff, Nat.reduceLeDiff, Nat.reduceLT, Nat.not_le.mpr hlt, P_X0_owedTo_31]
    rw [ow] at h2
    by_cases hb : g 5 i = c
    · rw [if_pos hb] at h2
      rw [if_pos hb]; exact h2
    · rw [if_neg hb] at h2
      rw [if_neg hb]; exact h2
theorem x0_owedTo (hi : Iv g) {c : Nat} (hc : c < 8) : P_X0_owedTo (nI c) (nB g) = some (nI (ow g 5 c (g 0 1))) := by
  have h8 := hi.2.1
  have := l_owedTo hi hc (g 0 1) 0 lc_FU (by omega) (q_FUn (by omega))
  exact this
theorem l_owed1 (hr : QM e m g) (hi : Iv g) {c : Nat} (hc : c < 8) : ∀ k i n, i + k = g 0 1 → k < n → P_L_owed_6 n (nI c) (nI 1) (nI (ow g 6 c i)) (nI i) m = some (nI (ow g 6 c (g 0 1))) := by
  have h8 := hi.2.1
  have h0 := hi.1
  intro k
  induction k with
  | zero =>
    intro i n hi1 h1
    obtain ⟨n, rfl⟩ : ∃ q, n = q + 1 := ⟨n - 1, by omega⟩
    have hle : g 0 1 ≤ i := by omega
    rw [P_L_owed_6]
    simp (disch := omega) only [nB_at, q_0, q_1, q_2, q_3, q_4, q_5, q_6, q_7, q_8, q_10, q_11, q_12, q_13, q_14, q_20, q_26, q_30, q_40, q_50, q_51, q_56, q_60, q_90, q_99, q_100, q_19, nI_ltI, nI_leI, nI_eq, q_okn, nI_clamp, nI_add, pk_mul, pk_sub, pk_div, q_nlt9, q_neg0, q_ne9, q_9ne, q_nle9, lc_let, q_ift, q_ifT, q_iff, q_bd, q_bd2, q_bd3, q_nbd, q_nbd2, ↓reduceIte, and_true, true_and, Nat.one_ne_zero, Nat.reduceEqDiff, Nat.reduceLeDiff, Nat.reduceLT, hle, qm_nl hr]
    rw [show i = g 0 1 by omega]
  | succ k ih =>
    intro i n hi1 h1
    obtain ⟨n, rfl⟩ : ∃ q, n = q + 1 := ⟨n - 1, by omega⟩
    have hlt : i < g 0 1 := by omega
    have hl := hi.2.2.2 i hlt
    have hs := ow_le hi 6 c i (by omega)
    have h2 := ih (i + 1) n (by omega) (by omega)
    rw [P_L_owed_6]
    simp (disch := omega) only [nB_at, q_0, q_1, q_2, q_3, q_4, q_5, q_6, q_7, q_8, q_10, q_11, q_12, q_13, q_14, q_20, q_26, q_30, q_40, q_50, q_51, q_56, q_60, q_90, q_99, q_100, q_19, nI_ltI, nI_leI, nI_eq, q_okn, nI_clamp, nI_add, pk_mul, pk_sub, pk_div, q_nlt9, q_neg0, q_ne9, q_9ne, q_nle9, lc_let, q_ift, q_ifT, q_iff, q_bd, q_bd2, q_bd3, q_nbd, q_nbd2, ↓reduceIte, and_true, true_and, Nat.one_ne_zero, Nat.reduceEqDiff, Nat.reduceLeDiff, Nat.reduceLT, Nat.not_le.mpr hlt, P_L_owed_40, qm_nl hr, qm_l1 hr hlt, qm_l2 hr hlt]
    rw [ow] at h2
    by_cases hb : g 6 i = c
    · rw [if_pos hb] at h2
      rw [if_pos hb]; exact h2
    · rw [if_neg hb] at h2
      rw [if_neg hb]; exact h2
theorem l_owed0 (hr : QM e m g) (hi : Iv g) {c : Nat} (hc : c < 8) : ∀ k i n, i + k = g 0 1 → k < n → P_L_owed_6 n (nI c) (nI 0) (nI (ow g 5 c i)) (nI i) m = some (nI (ow g 5 c (g 0 1))) := by
  have h8 := hi.2.1
  have h0 := hi.1
  intro k
  induction k with
  | zero =>
    intro i n hi1 h1
    obtain ⟨n, rfl⟩ : ∃ q, n = q + 1 := ⟨n - 1, by omega⟩
    have hle : g 0 1 ≤ i := by omega
    rw [P_L_owed_6]
    simp (disch := omega) only [nB_at, q_0, q_1, q_2, q_3, q_4, q_5, q_6, q_7, q_8, q_10, q_11, q_12, q_13, q_14, q_20, q_26, q_30, q_40, q_50, q_51, q_56, q_60, q_90, q_99, q_100, q_19, nI_ltI, nI_leI, nI_eq, q_okn, nI_clamp, nI_add, pk_mul, pk_sub, pk_div, q_nlt9, q_neg0, q_ne9, q_9ne, q_nle9, lc_let, q_ift, q_ifT, q_iff, q_bd, q_bd2, q_bd3, q_nbd, q_nbd2, ↓reduceIte, and_true, true_and, Nat.one_ne_zero, Nat.reduceEqDiff, Nat.reduceLeDiff, Nat.reduceLT, hle, qm_nl hr]
    rw [show i = g 0 1 by omega]
  | succ k ih =>
    intro i n hi1 h1
    obtain ⟨n, rfl⟩ : ∃ q, n = q + 1 := ⟨n - 1, by omega⟩
    have hlt : i < g 0 1 := by omega
    have hl := hi.2.2.2 i hlt
    have hs := ow_le hi 5 c i (by omega)
    have h2 := ih (i + 1) n (by omega) (by omega)
    rw [P_L_owed_6]
    simp (disch := omega) only [nB_at, q_0, q_1, q_2, q_3, q_4, q_5, q_6, q_7, q_8, q_10, q_11, q_12, q_13, q_14, q_20, q_26, q_30, q_40, q_50, q_51, q_56, q_60, q_90, q_99, q_100, q_19, nI_ltI, nI_leI, nI_eq, q_okn, nI_clamp, nI_add, pk_mul, pk_sub, pk_div, q_nlt9, q_neg0, q_ne9, q_9ne, q_nle9, lc_let, q_ift, q_ifT, q_iff, q_bd, q_bd2, q_bd3, q_nbd, q_nbd2, ↓reduceIte, and_true, true_and, Nat.one_ne_zero, Nat.reduceEqDiff, Nat.reduceLeDiff, Nat.reduceLT, Nat.not_le.mpr hlt, P_L_owed_40, qm_nl hr, Nat.add_zero, qm_l0 hr hlt, qm_l2 hr hlt]
    rw [ow] at h2
    by_cases hb : g 5 i = c
    · rw [if_pos hb] at h2
      rw [if_pos hb]; exact h2
    · rw [if_neg hb] at h2
      rw [if_neg hb]; exact h2
/-- the law: what c owes, what is owed to c -/
theorem l_owes (hr : QM e m g) (hi : Iv g) {c : Nat} (hc : c < 8) : P_L_owed (nI c) (nI 1) m = some (nI (ow g 6 c (g 0 1))) := by
  have h8 := hi.2.1
  exact l_owed1 hr hi hc (g 0 1) 0 lc_FU (by omega) (q_FUn (by omega))
theorem l_gets (hr : QM e m g) (hi : Iv g) {c : Nat} (hc : c < 8) : P_L_owed (nI c) (nI 0) m = some (nI (ow g 5 c (g 0 1))) := by
  have h8 := hi.2.1
  exact l_owed0 hr hi hc (g 0 1) 0 lc_FU (by omega) (q_FUn (by omega))
/-- a loan's interest -/
def itr (g : Nat → Nat → Nat) (i : Nat) : Nat := (g 7 i * g 8 i + 99) / 100
theorem itr_le (hi : Iv g) {i : Nat} (h : i < g 0 1) : g 7 i * g 8 i ≤ 99 * 50 ∧ itr g i ≤ 50 := by
  have hl := hi.2.2.2 i h
  have : g 7 i * g 8 i ≤ 99 * 50 := Nat.mul_le_mul (by omega) (by omega)
  refine ⟨this, ?_⟩
  unfold itr; omega
theorem x0_interest (hi : Iv g) {i : Nat} (h : i < g 0 1) : P_X0_interestOf (nI i) (nB g) = some (nI (itr g i)) := by
  have h8 := hi.2.1
  have := itr_le hi h
  unfold P_X0_interestOf
  rw [x0_hasL hi (by omega), if_pos h, q_bd, if_neg (by decide +kernel)]
  simp (disch := omega) only [nB_at, q_0, q_1, q_2, q_3, q_4, q_5, q_6, q_7, q_8, q_10, q_11, q_12, q_13, q_14, q_20, q_26, q_30, q_40, q_50, q_51, q_56, q_60, q_90, q_99, q_100, q_19, nI_ltI, nI_leI, nI_eq, q_okn, nI_clamp, nI_add, pk_mul, pk_sub, pk_div, q_nlt9, q_neg0, q_ne9, q_9ne, q_nle9, lc_let, q_ift, q_ifT, q_iff, q_bd, q_bd2, q_bd3, q_nbd, q_nbd2, ↓reduceIte, and_true, true_and, Nat.one_ne_zero, Nat.reduceEqDiff, Nat.reduceLeDiff, Nat.reduceLT]
  rfl
theorem l_interest (hr : QM e m g) (hi : Iv g) {i : Nat} (h : i < g 0 1) : P_L_interest (nI i) m = some (nI (itr g i)) := by
  have h8 := hi.2.1
  have := itr_le hi h
  unfold P_L_interest
  simp (disch := omega) only [nB_at, q_0, q_1, q_2, q_3, q_4, q_5, q_6, q_7, q_8, q_10, q_11, q_12, q_13, q_14, q_20, q_26, q_30, q_40, q_50, q_51, q_56, q_60, q_90, q_99, q_100, q_19, nI_ltI, nI_leI, nI_eq, q_okn, nI_clamp, nI_add, pk_mul, pk_sub, pk_div, q_nlt9, q_neg0, q_ne9, q_9ne, q_nle9, lc_let, q_ift, q_ifT, q_iff, q_bd, q_bd2, q_bd3, q_nbd, q_nbd2, ↓reduceIte, and_true, true_and, Nat.one_ne_zero, Nat.reduceEqDiff, Nat.reduceLeDiff, Nat.reduceLT, qm_l2 hr h, qm_l3 hr h]
  unfold itr
  by_cases q : g 7 i * g 8 i - g 7 i * g 8 i / 100 * 100 = 0
  · rw [if_pos q]; congr 2; omega
  · rw [if_neg q]; congr 2; omega
/-- the interest of all loans of c among the first -/
def ib (g : Nat → Nat → Nat) (c : Nat) : Nat → Nat
  | 0 => 0
  | n + 1 => ib g c n + (if g 6 n = c then itr g n else 0)
theorem l_interestBy (hi : Iv g) {c : Nat} (hc : c < 8) : ∀ k i n, i + k = g 0 1 → k < n → P_X0_interestBy_4 n (nI c) (nI (ib g c i)) (nI i) (nB g) = some (nI (ib g c (g 0 1))) := by
  have h8 := hi.2.1
  have h0 := hi.1
  intro k
  induction k with
  | zero =>
    intro i n hi1 h1
    obtain ⟨n, rfl⟩ : ∃ q, n = q + 1 := ⟨n - 1, by omega⟩
    have hle : g 0 1 ≤ i := by omega
    rw [P_X0_interestBy_4]
    simp (disch := omega) only [nB_at, q_0, q_1, q_2, q_3, q_4, q_5, q_6, q_7, q_8, q_10, q_11, q_12, q_13, q_14, q_20, q_26, q_30, q_40, q_50, q_51, q_56, q_60, q_90, q_99, q_100, q_19, nI_ltI, nI_leI, nI_eq, q_okn, nI_clamp, nI_add, pk_mul, pk_sub, pk_div, q_nlt9, q_neg0, q_ne9, q_9ne, q_nle9, lc_let, q_ift, q_ifT, q_iff, q_bd, q_bd2, q_bd3, q_nbd, q_nbd2, ↓reduceIte, and_true, true_and, Nat.one_ne_zero, Nat.reduceEqDiff, Nat.reduceLeDiff, Nat.reduceLT, hle]
    rw [show i = g 0 1 by omega]
  | succ k ih =>
    intro i n hi1 h1
    obtain ⟨n, rfl⟩ : ∃ q, n = q + 1 := ⟨n - 1, by omega⟩
    have hlt : i < g 0 1 := by omega
    have hl := hi.2.2.2 i hlt
    have h2 := ih (i + 1) n (by omega) (by omega)
    rw [ib] at h2
    rw [P_X0_interestBy_4]
    simp (disch := omega) only [nB_at, q_0, q_1, q_2, q_3, q_4, q_5, q_6, q_7, q_8, q_10, q_11, q_12, q_13, q_14, q_20, q_26, q_30, q_40, q_50, q_51, q_56, q_60, q_90, q_99, q_100, q_19, nI_ltI, nI_leI, nI_eq, q_okn, nI_clamp, nI_add, pk_mul, pk_sub, pk_div, q_nlt9, q_neg0, q_ne9, q_9ne, q_nle9, lc_let, q_ift, q_ifT, q_iff, q_bd, q_bd2, q_bd3, q_nbd, q_nbd2, ↓reduceIte, and_true, true_and, Nat.one_ne_zero, Nat.reduceEqDiff, Nat.reduceLeDiff, Nat.reduceLT, Nat.not_le.mpr hlt, P_X0_interestBy_30, x0_interest hi hlt]
    by_cases hb : g 6 i = c
    · rw [if_pos hb] at h2
      rw [if_pos hb]; exact h2
    · rw [if_neg hb] at h2
      rw [if_neg hb]; exact h2
theorem x0_interestBy (hi : Iv g) {c : Nat} (hc : c < 8) : P_X0_interestBy (nI c) (nB g) = some (nI (ib g c (g 0 1))) := by
  have h8 := hi.2.1
  exact l_interestBy hi hc (g 0 1) 0 lc_FU (by omega) (q_FUn (by omega))
def kd (g : Nat → Nat → Nat) (c : Nat) : Nat := if g 4 c < 3 then (if g 4 c ≤ 0 then (if ow g 6 c (g 0 1) ≤ 0 then 0 else 1) else 2) else 3
theorem x0_kind (hi : Iv g) {c : Nat} (hc : c < g 0 0) : P_X0_kindOf (nI c) (nB g) = some (nI (kd g c)) := by
  have h8 := hi.1
  have h12 := hi.2.1
  have hl := hi.2.2.1 c hc
  have hw := ow_le hi 6 c (g 0 1) (Nat.le_refl _)
  unfold P_X0_kindOf P_X0_kindOf_29 kd
  simp (disch := omega) only [nB_at, q_0, q_1, q_2, q_3, q_4, q_5, q_6, q_7, q_8, q_10, q_11, q_12, q_13, q_14, q_20, q_26, q_30, q_40, q_50, q_51, q_56, q_60, q_90, q_99, q_100, q_19, nI_ltI, nI_leI, nI_eq, q_okn, nI_clamp, nI_add, pk_mul, pk_sub, pk_div, q_nlt9, q_neg0, q_ne9, q_9ne, q_nle9, lc_let, q_ift, q_ifT, q_iff, q_bd, q_bd2, q_bd3, q_nbd, q_nbd2, ↓reduceIte, and_true, true_and, Nat.one_ne_zero, Nat.reduceEqDiff, Nat.reduceLeDiff, Nat.reduceLT, x0_bank hi hc, x0_has hi (show c < 2 ^ 31 by omega), hc, x0_owedBy hi (show c < 8 by omega)]
  by_cases h3 : g 4 c < 3
  · simp (disch := omega) only [h3, nB_at, q_0, q_1, q_2, q_3, q_4, q_5, q_6, q_7, q_8, q_10, q_11, q_12, q_13, q_14, q_20, q_26, q_30, q_40, q_50, q_51, q_56, q_60, q_90, q_99, q_100, q_19, nI_ltI, nI_leI, nI_eq, q_okn, nI_clamp, nI_add, pk_mul, pk_sub, pk_div, q_nlt9, q_neg0, q_ne9, q_9ne, q_nle9, lc_let, q_ift, q_ifT, q_iff, q_bd, q_bd2, q_bd3, q_nbd, q_nbd2, ↓reduceIte, and_true, true_and, Nat.one_ne_zero, Nat.reduceEqDiff, Nat.reduceLeDiff, Nat.reduceLT]
    by_cases h4 : g 4 c ≤ 0
    · simp (disch := omega) only [h4, nB_at, q_0, q_1, q_2, q_3, q_4, q_5, q_6, q_7, q_8, q_10, q_11, q_12, q_13, q_14, q_20, q_26, q_30, q_40, q_50, q_51, q_56, q_60, q_90, q_99, q_100, q_19, nI_ltI, nI_leI, nI_eq, q_okn, nI_clamp, nI_add, pk_mul, pk_sub, pk_div, q_nlt9, q_neg0, q_ne9, q_9ne, q_nle9, lc_let, q_ift, q_ifT, q_iff, q_bd, q_bd2, q_bd3, q_nbd, q_nbd2, ↓reduceIte, and_true, true_and, Nat.one_ne_zero, Nat.reduceEqDiff, Nat.reduceLeDiff, Nat.reduceLT]
      by_cases h5 : ow g 6 c (g 0 1) ≤ 0
      · simp (disch := omega) only [h5, nB_at, q_0, q_1, q_2, q_3, q_4, q_5, q_6, q_7, q_8, q_10, q_11, q_12, q_13, q_14, q_20, q_26, q_30, q_40, q_50, q_51, q_56, q_60, q_90, q_99, q_100, q_19, nI_ltI, nI_leI, nI_eq, q_okn, nI_clamp, nI_add, pk_mul, pk_sub, pk_div, q_nlt9, q_neg0, q_ne9, q_9ne, q_nle9, lc_let, q_ift, q_ifT, q_iff, q_bd, q_bd2, q_bd3, q_nbd, q_nbd2, ↓reduceIte, and_true, true_and, Nat.one_ne_zero, Nat.reduceEqDiff, Nat.reduceLeDiff, Nat.reduceLT]
      · simp (disch := omega) only [h5, nB_at, q_0, q_1, q_2, q_3, q_4, q_5, q_6, q_7, q_8, q_10, q_11, q_12, q_13, q_14, q_20, q_26, q_30, q_40, q_50, q_51, q_56, q_60, q_90, q_99, q_100, q_19, nI_ltI, nI_leI, nI_eq, q_okn, nI_clamp, nI_add, pk_mul, pk_sub, pk_div, q_nlt9, q_neg0, q_ne9, q_9ne, q_nle9, lc_let, q_ift, q_ifT, q_iff, q_bd, q_bd2, q_bd3, q_nbd, q_nbd2, ↓reduceIte, and_true, true_and, Nat.one_ne_zero, Nat.reduceEqDiff, Nat.reduceLeDiff, Nat.reduceLT]
    · simp (disch := omega) only [h4, nB_at, q_0, q_1, q_2, q_3, q_4, q_5, q_6, q_7, q_8, q_10, q_11, q_12, q_13, q_14, q_20, q_26, q_30, q_40, q_50, q_51, q_56, q_60, q_90, q_99, q_100, q_19, nI_ltI, nI_leI, nI_eq, q_okn, nI_clamp, nI_add, pk_mul, pk_sub, pk_div, q_nlt9, q_neg0, q_ne9, q_9ne, q_nle9, lc_let, q_ift, q_ifT, q_iff, q_bd, q_bd2, q_bd3, q_nbd, q_nbd2, ↓reduceIte, and_true, true_and, Nat.one_ne_zero, Nat.reduceEqDiff, Nat.reduceLeDiff, Nat.reduceLT]
  · simp (disch := omega) only [h3, nB_at, q_0, q_1, q_2, q_3, q_4, q_5, q_6, q_7, q_8, q_10, q_11, q_12, q_13, q_14, q_20, q_26, q_30, q_40, q_50, q_51, q_56, q_60, q_90, q_99, q_100, q_19, nI_ltI, nI_leI, nI_eq, q_okn, nI_clamp, nI_add, pk_mul, pk_sub, pk_div, q_nlt9, q_neg0, q_ne9, q_9ne, q_nle9, lc_let, q_ift, q_ifT, q_iff, q_bd, q_bd2, q_bd3, q_nbd, q_nbd2, ↓reduceIte, and_true, true_and, Nat.one_ne_zero, Nat.reduceEqDiff, Nat.reduceLeDiff, Nat.reduceLT]
