/-! ===== the pure claim: loans taken away ===== -/
variable {e : Nat} {m : lc_St} {g : Nat → Nat → Nat}
/-- loans i + 1 .. j - 1 moved down by one -/
def mvS (g : Nat → Nat → Nat) (i j : Nat) : Nat → Nat → Nat := fun r k => if 5 ≤ r ∧ r ≤ 9 ∧ i ≤ k ∧ k + 1 < j then g r (k + 1) else g r k
theorem mvS_0 (g : Nat → Nat → Nat) (i : Nat) : mvS g i (i + 1) = g := by
  funext r k
  unfold mvS
  rw [if_neg (by omega)]
theorem mvS_low (g : Nat → Nat → Nat) (i j r : Nat) (h : r < 5) : mvS g i j r = g r := by
  funext k
  unfold mvS
  rw [if_neg (by omega)]
theorem mvS_at (g : Nat → Nat → Nat) (i j r : Nat) : mvS g i j r j = g r j := by
  unfold mvS
  rw [if_neg (by omega)]
theorem mvS_step (g : Nat → Nat → Nat) (i j : Nat) (hij : i < j) : gs (gs (gs (gs (gs (mvS g i j) 5 (j - 1) (g 5 j)) 6 (j - 1) (g 6 j)) 7 (j - 1) (g 7 j)) 8 (j - 1) (g 8 j)) 9 (j - 1) (g 9 j) = mvS g i (j + 1) := by
  funext r k
  by_cases h : 5 ≤ r ∧ r ≤ 9
  · have hr : r = 5 ∨ r = 6 ∨ r = 7 ∨ r = 8 ∨ r = 9 := by omega
    by_cases hk : k = j - 1
    · subst hk
      have e1 : mvS g i (j + 1) r (j - 1) = g r j := by
        unfold mvS
        rw [if_pos (by omega), show j - 1 + 1 = j by omega]
      rw [e1]
      rcases hr with hr | hr | hr | hr | hr <;> subst hr <;> simp (disch := omega) only [gs_r, gs_at]
    · have e1 : mvS g i (j + 1) r k = mvS g i j r k := by
        unfold mvS
        by_cases hh : 5 ≤ r ∧ r ≤ 9 ∧ i ≤ k ∧ k + 1 < j
        · rw [if_pos hh, if_pos (by omega)]
        · rw [if_neg hh, if_neg (by omega)]
      rw [e1]
      rcases hr with hr | hr | hr | hr | hr <;> subst hr <;> simp (disch := omega) only [gs_r, gs_i]
  · have e1 : mvS g i (j + 1) r k = mvS g i j r k := by
      unfold mvS
      rw [if_neg (by omega), if_neg (by omega)]
    rw [e1]
    simp (disch := omega) only [gs_r]

theorem l0_remove (h12 : g 0 1 ≤ 12) {i : Nat} (b : lc_St → Option lc_St) (hb : ∀ n x, g 0 1 ≤ x → x < 100 → P_X0_removeLoan_17 (n + 1) (nI i) (nI x) (nB (mvS g i (g 0 1))) = b (nB (mvS g i (g 0 1)))) : ∀ k j n, j + k = g 0 1 → i < j → k < n → P_X0_removeLoan_17 n (nI i) (nI j) (nB (mvS g i j)) = b (nB (mvS g i (g 0 1))) := by
  intro k
  induction k with
  | zero =>
    intro j n hj hij h1
    obtain ⟨n, rfl⟩ : ∃ q, n = q + 1 := ⟨n - 1, by omega⟩
    have : j = g 0 1 := by omega
    subst this
    exact hb n _ (Nat.le_refl _) (by omega)
  | succ k ih =>
    intro j n hj hij h1
    obtain ⟨n, rfl⟩ : ∃ q, n = q + 1 := ⟨n - 1, by omega⟩
    have hlt : j < g 0 1 := by omega
    have h2 := ih (j + 1) n (by omega) (by omega) (by omega)
    have e0 : mvS g i j 0 = g 0 := mvS_low _ _ _ _ (by omega)
    rw [P_X0_removeLoan_17]
    simp only [q_0, q_1, q_2, q_3, q_4, q_5, q_6, q_7, q_8, q_10, q_11, q_12, q_13, q_14, q_20, q_26, q_30, q_40, q_50, q_51, q_56, q_60, q_90, q_99, q_100, q_19]
    simp (disch := omega) only [nI_ltI, nI_leI, nI_eq, q_okn, nI_clamp, nI_add, pk_mul, pk_sub, pk_div, q_nlt9, q_neg0, q_ne9, q_9ne, q_nle9, nB_at, e0, Nat.not_le.mpr hlt, ↓reduceIte, q_ift, lc_let, nB_ss, gs_r, mvS_at]
    rw [mvS_step g i j hij]
    exact h2
theorem q_w (w : Int32) (i : Nat) : ∃ v, (if w = nI i then nI 4294967287 else if w ≤ nI i then w else w - nI 1) = nI v := nI_ex _
theorem x0_remove (h8 : g 0 0 ≤ 8) (h12 : g 0 1 ≤ 12) {i : Nat} (hii : i < g 0 1) : ∃ v, nI v = (if nI (g 0 7) = nI i then nI 4294967287 else if nI (g 0 7) ≤ nI i then nI (g 0 7) else nI (g 0 7) - nI 1) ∧ P_X0_removeLoan (nI i) (nB g) = some (nB (gs (gs (mvS g i (g 0 1)) 0 1 (g 0 1 - 1)) 0 7 v)) := by
  obtain ⟨v, hv⟩ := q_w (nI (g 0 7)) i
  refine ⟨v, hv.symm, ?_⟩
  have e0 : mvS g i (g 0 1) 0 = g 0 := mvS_low _ _ _ _ (by omega)
  have h9 : (-9 : Int32) = nI 4294967287 := by decide +kernel
  unfold P_X0_removeLoan
  simp only [q_0, q_1, q_2, q_3, q_4, q_5, q_6, q_7, q_8, q_10, q_11, q_12, q_13, q_14, q_20, q_26, q_30, q_40, q_50, q_51, q_56, q_60, q_90, q_99, q_100, q_19]
  simp (disch := omega) only [nI_ltI, nI_leI, nI_eq, q_okn, nI_clamp, nI_add, pk_mul, pk_sub, pk_div, q_nlt9, q_neg0, q_ne9, q_9ne, q_nle9, nB_at, ↓reduceIte, lc_let, hii, Nat.not_lt_zero]
  have hl := l0_remove h12 (i := i) (fun _ => some (nB (gs (gs (mvS g i (g 0 1)) 0 1 (g 0 1 - 1)) 0 7 v))) (fun n x hx hx2 => ?_) (g 0 1 - (i + 1)) (i + 1) lc_FU (by omega) (by omega) (q_FUn (by omega))
  · rw [mvS_0] at hl
    exact hl
  · rw [P_X0_removeLoan_17]
    simp only [q_0, q_1, q_2, q_3, q_4, q_5, q_6, q_7, q_8, q_10, q_11, q_12, q_13, q_14, q_20, q_26, q_30, q_40, q_50, q_51, q_56, q_60, q_90, q_99, q_100, q_19]
    rw [h9]
    simp (disch := omega) only [nI_leI, nI_add, pk_sub, nB_at, e0, hx, ↓reduceIte, lc_let, nB_ss, gs_at, gs_i]
    by_cases c1 : nI (g 0 7) = nI i
    · rw [if_pos c1] at hv ⊢
      rw [nB_v _ 0 7 hv]
    · rw [if_neg c1] at hv ⊢
      by_cases c2 : nI (g 0 7) ≤ nI i
      · rw [if_pos c2] at hv ⊢
        have e7 : gs (mvS g i (g 0 1)) 0 1 (g 0 1 - 1) 0 7 = g 0 7 := by rw [gs_i _ _ _ (by omega), e0]
        have h7 := gs_self (gs (mvS g i (g 0 1)) 0 1 (g 0 1 - 1)) 0 7
        rw [e7] at h7
        rw [← nB_v _ 0 7 hv, h7]
      · rw [if_neg c2] at hv ⊢
        rw [hv, nB_ss]
theorem x0_rem (h8 : g 0 0 ≤ 8) (h12 : g 0 1 ≤ 12) {i : Nat} (hii : i < g 0 1) : ∃ g', P_X0_removeLoan (nI i) (nB g) = some (nB g') ∧ g' 0 1 = g 0 1 - 1 ∧ (∀ k, k ≠ 1 → k ≠ 7 → g' 0 k = g 0 k) ∧ (∀ r, 0 < r → r < 5 → g' r = g r) ∧ (∀ r j, 5 ≤ r → r ≤ 9 → j < g 0 1 - 1 → g' r j = if j < i then g r j else g r (j + 1)) := by
  obtain ⟨v, -, e1⟩ := x0_remove h8 h12 hii
  have f0 : mvS g i (g 0 1) 0 = g 0 := mvS_low _ _ _ _ (by omega)
  refine ⟨_, e1, ?_, fun k h1 h7 => ?_, fun r h0 h5 => ?_, fun r j h5 h9 hj => ?_⟩
  · simp (disch := omega) only [gs_i, gs_at]
  · simp (disch := omega) only [gs_i, f0]
  · rw [gs_r _ _ _ (by omega), gs_r _ _ _ (by omega), mvS_low _ _ _ _ h5]
  · rw [gs_r _ _ _ (by omega), gs_r _ _ _ (by omega)]
    unfold mvS
    by_cases q : j < i
    · rw [if_neg (by omega), if_pos q]
    · rw [if_pos (by omega), if_neg q]
/-! ===== of the first, how many are kept ===== -/
def kN (p : Nat → Bool) : Nat → Nat
  | 0 => 0
  | n + 1 => kN p n + (if p n = true then 1 else 0)
theorem kN_t (p : Nat → Bool) {n : Nat} (h : p n = true) : kN p (n + 1) = kN p n + 1 := by
  show kN p n + _ = _
  rw [if_pos h]
theorem kN_f (p : Nat → Bool) {n : Nat} (h : ¬ p n = true) : kN p (n + 1) = kN p n := by
  show kN p n + _ = _
  rw [if_neg h]; rfl
theorem kN_le (p : Nat → Bool) : ∀ n, kN p n ≤ n
  | 0 => Nat.le_refl _
  | n + 1 => by
    have := kN_le p n
    show kN p n + _ ≤ _
    split <;> omega
theorem kN_mono (p : Nat → Bool) {a : Nat} : ∀ {b}, a ≤ b → kN p a ≤ kN p b
  | 0, h => by rw [Nat.le_zero.mp h]; exact Nat.le_refl _
  | b + 1, h => by
    by_cases q : a = b + 1
    · rw [q]; exact Nat.le_refl _
    · have := kN_mono p (a := a) (b := b) (by omega)
      show kN p a ≤ kN p b + _
      omega
theorem kN_lt (p : Nat → Bool) {i n : Nat} (h : i < n) (hp : p i = true) : kN p i < kN p n := by
  have := kN_mono p (a := i + 1) (b := n) (by omega)
  rw [kN_t p hp] at this; omega
theorem kN_surj (p : Nat → Bool) {j : Nat} : ∀ {n}, j < kN p n → ∃ i, i < n ∧ p i = true ∧ kN p i = j
  | 0, h => absurd h (by show ¬ j < 0; omega)
  | n + 1, h => by
    by_cases hp : p n = true
    · rw [kN_t p hp] at h
      by_cases q : j = kN p n
      · exact ⟨n, by omega, hp, q.symm⟩
      · obtain ⟨i, h1, h2, h3⟩ := kN_surj p (j := j) (n := n) (by omega)
        exact ⟨i, by omega, h2, h3⟩
    · rw [kN_f p hp] at h
      obtain ⟨i, h1, h2, h3⟩ := kN_surj p (j := j) (n := n) h
      exact ⟨i, by omega, h2, h3⟩
theorem kN_all (p : Nat → Bool) : ∀ n, (∀ i, i < n → p i = true) → kN p n = n
  | 0, _ => rfl
  | n + 1, h => by
    rw [kN_t p (h n (by omega)), kN_all p n (fun i hi => h i (by omega))]
theorem kN_one (p : Nat → Bool) {i : Nat} (hp : ¬ p i = true) : ∀ n, (∀ j, j < n → j ≠ i → p j = true) → kN p n = if n ≤ i then n else n - 1
  | 0, _ => by rw [if_pos (Nat.zero_le _)]; rfl
  | n + 1, h => by
    have ih := kN_one p hp n (fun j hj => h j (by omega))
    by_cases q : n = i
    · subst q
      rw [kN_f p hp, ih, if_pos (Nat.le_refl _), if_neg (by omega)]; omega
    · rw [kN_t p (h n (by omega) q), ih]
      by_cases q2 : n ≤ i
      · rw [if_pos q2, if_pos (by omega)]
      · rw [if_neg q2, if_neg (by omega)]; omega
theorem kN_cong {p q : Nat → Bool} : ∀ n, (∀ i, i < n → p i = q i) → kN p n = kN q n
  | 0, _ => rfl
  | n + 1, h => by
    show kN p n + _ = kN q n + _
    rw [kN_cong n (fun i hi => h i (by omega)), h n (by omega)]
/-- the loans that are kept, moved together -/
def Fl (p : Nat → Bool) (g g' : Nat → Nat → Nat) : Prop := g' 0 1 = kN p (g 0 1) ∧ ∀ i, i < g 0 1 → p i = true → ∀ r, 5 ≤ r → r ≤ 9 → g' r (kN p i) = g r i
/-! ===== the law's loans without those of which nothing is owed ===== -/
theorem l_cl24 (K : Int32 → Int32 → lc_St → Option lc_St) {a i : Nat} (ha : a ≤ i) (hi : i < 12) : ∀ k f (s : lc_St) n, f + k = 5 → k < n → ∃ s', P_L_clears_24 K n (nI a) (nI i) (nI f) s = P_L_clears_55 K (nI (a + 1)) (nI i) s' ∧ s' 0 = s 0 ∧ s' 1 = s 1 ∧ (∀ q, f ≤ q → q < 5 → s' 2 (5 * a + q) = s 2 (5 * i + q)) ∧ (∀ q, q < 5 * a + f ∨ 5 * a + 5 ≤ q → s' 2 q = s 2 q) := by
  intro k
  induction k with
  | zero =>
    intro f s n hf h1
    obtain ⟨n, rfl⟩ : ∃ q, n = q + 1 := ⟨n - 1, by omega⟩
    have : f = 5 := by omega
    subst this
    rw [P_L_clears_24]
    simp (disch := omega) only [nI_ltI, nI_leI, nI_eq, q_okn, nI_clamp, nI_add, pk_mul, pk_sub, pk_div, q_nlt9, q_neg0, q_ne9, q_9ne, q_nle9, q_0, q_1, q_2, q_3, q_4, q_5, q_6, q_7, q_8, q_10, q_11, q_12, q_13, q_14, q_20, q_26, q_30, q_40, q_50, q_51, q_56, q_60, q_90, q_99, q_100, q_19, Nat.le_refl, ↓reduceIte, lc_let]
    exact ⟨s, rfl, rfl, rfl, fun q h1 h2 => absurd h1 (by omega), fun q _ => rfl⟩
  | succ k ih =>
    intro f s n hf h1
    obtain ⟨n, rfl⟩ : ∃ q, n = q + 1 := ⟨n - 1, by omega⟩
    obtain ⟨s', e1, e2, e3, e4, e5⟩ := ih (f + 1) (lc_ss s 2 (5 * a + f) (s 2 (5 * i + f))) n (by omega) (by omega)
    refine ⟨s', ?_, by rw [e2, ss_off _ _ _ (by omega)], by rw [e3, ss_off _ _ _ (by omega)], fun q h1 h2 => ?_, fun q hq => ?_⟩
    · rw [← e1, P_L_clears_24]
      simp (disch := omega) only [nI_ltI, nI_leI, nI_eq, q_okn, nI_clamp, nI_add, pk_mul, pk_sub, pk_div, q_nlt9, q_neg0, q_ne9, q_9ne, q_nle9, q_0, q_1, q_2, q_3, q_4, q_5, q_6, q_7, q_8, q_10, q_11, q_12, q_13, q_14, q_20, q_26, q_30, q_40, q_50, q_51, q_56, q_60, q_90, q_99, q_100, q_19, show ¬ 5 ≤ f by omega, ↓reduceIte, q_ift, lc_let]
    · by_cases hqf : q = f
      · subst hqf
        rw [e5 _ (by omega), ss_eq]
      · rw [e4 q (by omega) h2, ss_ne _ _ _ (by omega)]
    · rw [e5 q (by omega), ss_ne _ _ _ (by omega)]
theorem l_cl4 {N : Nat} (hN : N ≤ 12) (p : Nat → Bool) (o : Nat → Nat) (ho : ∀ i, i < N → o i < 2 ^ 31) (hp : ∀ i, i < N → (p i = true ↔ 0 < o i)) (hnl : m 0 2 = nI N) (hm : ∀ i, i < N → m 2 (5 * i + 2) = nI (o i)) : ∀ k i (s : lc_St) n, i + k = N → k < n → s 0 = m 0 → s 1 = m 1 → (∀ q, 5 * i ≤ q → s 2 q = m 2 q) → (∀ j, j < i → p j = true → ∀ f, f < 5 → s 2 (5 * kN p j + f) = m 2 (5 * j + f)) → ∃ s', P_L_clears_4 n (nI (kN p i)) (nI i) s = some s' ∧ s' 0 2 = nI (kN p N) ∧ (∀ k, k ≠ 2 → s' 0 k = m 0 k) ∧ s' 1 = m 1 ∧ (∀ j, j < N → p j = true → ∀ f, f < 5 → s' 2 (5 * kN p j + f) = m 2 (5 * j + f)) := by
  intro k
  induction k with
  | zero =>
    intro i s n hk h1 e0 e1 e2 e3
    obtain ⟨n, rfl⟩ : ∃ q, n = q + 1 := ⟨n - 1, by omega⟩
    have : i = N := by omega
    subst this
    rw [P_L_clears_4]
    have hnl' : s 0 2 = nI i := by rw [e0]; exact hnl
    simp (disch := omega) only [hnl', nI_ltI, nI_leI, nI_eq, q_okn, nI_clamp, nI_add, pk_mul, pk_sub, pk_div, q_nlt9, q_neg0, q_ne9, q_9ne, q_nle9, Nat.le_refl, ↓reduceIte, lc_let]
    refine ⟨_, rfl, ss_eq _ _ _ _, fun k hk => by rw [ss_ne _ _ _ hk, e0], by rw [ss_off _ _ _ (by omega), e1], fun j hj hpj f hf => ?_⟩
    rw [ss_off _ _ _ (by omega)]
    exact e3 j hj hpj f hf
  | succ k ih =>
    intro i s n hk h1 e0 e1 e2 e3
    obtain ⟨n, rfl⟩ : ∃ q, n = q + 1 := ⟨n - 1, by omega⟩
    have hlt : i < N := by omega
    have hnl' : s 0 2 = nI N := by rw [e0]; exact hnl
    have hoi := ho i hlt
    have hsi : s 2 (5 * i + 2) = nI (o i) := by rw [e2 _ (by omega)]; exact hm i hlt
    have hkl := kN_le p i
    rw [P_L_clears_4]
    simp (disch := omega) only [hnl', nI_ltI, nI_leI, nI_eq, q_okn, nI_clamp, nI_add, pk_mul, pk_sub, pk_div, q_nlt9, q_neg0, q_ne9, q_9ne, q_nle9, q_0, q_1, q_2, q_3, q_4, q_5, q_6, q_7, q_8, q_10, q_11, q_12, q_13, q_14, q_20, q_26, q_30, q_40, q_50, q_51, q_56, q_60, q_90, q_99, q_100, q_19, Nat.not_le.mpr hlt, ↓reduceIte, q_ift, hsi]
    by_cases h0 : o i ≤ 0
    · have hnp : ¬ p i = true := fun q => by have := (hp i hlt).mp q; omega
      obtain ⟨s', z⟩ := ih (i + 1) s n (by omega) (by omega) e0 e1 (fun q hq => e2 q (by omega)) (fun j hj hpj => by
        by_cases q : j = i
        · subst q; exact absurd hpj hnp
        · exact e3 j (by omega) hpj)
      rw [kN_f p hnp] at z
      refine ⟨s', ?_, z.2⟩
      rw [← z.1]
      simp (disch := omega) only [h0, ↓reduceIte, P_L_clears_55, lc_let, nI_ltI, nI_leI, nI_eq, q_okn, nI_clamp, nI_add, pk_mul, pk_sub, pk_div, q_nlt9, q_neg0, q_ne9, q_9ne, q_nle9, q_0, q_1, q_2, q_3, q_4, q_5, q_6, q_7, q_8, q_10, q_11, q_12, q_13, q_14, q_20, q_26, q_30, q_40, q_50, q_51, q_56, q_60, q_90, q_99, q_100, q_19]
    · have hpi : p i = true := (hp i hlt).mpr (by omega)
      obtain ⟨s1, a1, a2, a3, a4, a5⟩ := l_cl24 (fun x2 x3 s => P_L_clears_4 n x2 x3 s) hkl (show i < 12 by omega) 5 0 s lc_FU (by omega) (q_FUn (by omega))
      obtain ⟨s', z⟩ := ih (i + 1) s1 n (by omega) (by omega) (by rw [a2, e0]) (by rw [a3, e1]) (fun q hq => by rw [a5 q (by omega)]; exact e2 q (by omega)) (fun j hj hpj f hf => by
        by_cases q : j = i
        · subst q
          rw [a4 f (by omega) hf, e2 _ (by omega)]
        · have hlj := kN_lt p (i := j) (n := i) (by omega) hpj
          rw [a5 _ (by omega)]
          exact e3 j (by omega) hpj f hf)
      rw [kN_t p hpi] at z
      refine ⟨s', ?_, z.2⟩
      rw [← z.1]
      simp (disch := omega) only [h0, ↓reduceIte]
      rw [a1]
      simp only [P_L_clears_55, lc_let, nI_ltI, nI_leI, nI_eq, q_okn, nI_clamp, nI_add, pk_mul, pk_sub, pk_div, q_nlt9, q_neg0, q_ne9, q_9ne, q_nle9, q_0, q_1, q_2, q_3, q_4, q_5, q_6, q_7, q_8, q_10, q_11, q_12, q_13, q_14, q_20, q_26, q_30, q_40, q_50, q_51, q_56, q_60, q_90, q_99, q_100, q_19]
/-- the law's rows follow the class's -/
theorem l_clears (hr : QM e m g) (h12 : g 0 1 ≤ 12) (ho : ∀ i, i < g 0 1 → g 7 i < 2 ^ 31) {p : Nat → Bool} (hp : ∀ i, i < g 0 1 → (p i = true ↔ 0 < g 7 i)) {g' : Nat → Nat → Nat} (hf : Fl p g g') (h0 : ∀ k, k ≤ 6 → k ≠ 1 → g' 0 k = g 0 k) (h1 : ∀ r, 0 < r → r < 5 → g' r = g r) : ∃ m', P_L_clears m = some m' ∧ QM e m' g' := by
  obtain ⟨s', z1, z2, z3, z4, z5⟩ := l_cl4 (m := m) h12 p (g 7) ho hp (qm_nl hr) (fun i hi => qm_l2 hr hi) (g 0 1) 0 m lc_FU (by omega) (q_FUn (by omega)) rfl rfl (fun q _ => rfl) (fun j hj => absurd hj (by omega))
  obtain ⟨⟨a0, a1, a2, a3, a4, a5, a6⟩, hcc, hl, hz, h6⟩ := hr
  refine ⟨s', z1, ⟨by rw [z3 0 (by omega), h0 2 (by omega) (by omega)]; exact a0, by rw [z3 1 (by omega), h0 0 (by omega) (by omega)]; exact a1, by rw [z2, hf.1], by rw [z3 3 (by omega), h0 3 (by omega) (by omega)]; exact a3, by rw [z3 4 (by omega), h0 4 (by omega) (by omega)]; exact a4, by rw [z3 5 (by omega), h0 5 (by omega) (by omega)]; exact a5, by rw [z3 6 (by omega), h0 6 (by omega) (by omega)]; exact a6⟩, fun c hc => ?_, fun j hj => ?_, fun k hk hk2 => ?_, by rw [h0 0 (by omega) (by omega)]; exact h6⟩
  · rw [h0 0 (by omega) (by omega)] at hc
    rw [z4, h1 1 (by omega) (by omega), h1 2 (by omega) (by omega), h1 3 (by omega) (by omega), h1 4 (by omega) (by omega)]
    exact hcc c hc
  · rw [hf.1] at hj
    obtain ⟨i, i1, i2, i3⟩ := kN_surj p hj
    obtain ⟨b0, b1, b2, b3, b4⟩ := hl i i1
    have f := fun r h5 h9 => hf.2 i i1 i2 r h5 h9
    have y := z5 i i1 i2
    rw [i3] at y
    have y0 := y 0 (by omega)
    rw [Nat.add_zero, Nat.add_zero] at y0
    rw [i3] at f
    rw [y0, y 1 (by omega), y 2 (by omega), y 3 (by omega), y 4 (by omega), f 5 (by omega) (by omega), f 6 (by omega) (by omega), f 7 (by omega) (by omega), f 8 (by omega) (by omega), f 9 (by omega) (by omega)]
    exact ⟨b0, b1, b2, b3, b4⟩
  · rw [h0 0 (by omega) (by omega)] at hk
    rw [z4]; exact hz k hk hk2
theorem Iv_fl {p : Nat → Bool} {g' : Nat → Nat → Nat} (hf : Fl p g g') (h00 : g' 0 0 = g 0 0) (h1 : ∀ r, 0 < r → r < 5 → g' r = g r) (h8 : g 0 0 ≤ 8) (h12 : g 0 1 ≤ 12) (hc : ∀ c, c < g 0 0 → 10 ≤ g 1 c ∧ g 1 c ≤ 99 ∧ g 2 c ≤ g 1 c ∧ g 3 c ≤ 3 ∧ g 4 c ≤ 3) (hl : ∀ i, i < g 0 1 → p i = true → g 5 i < g 0 0 ∧ g 6 i < g 0 0 ∧ g 5 i ≠ g 6 i ∧ 1 ≤ g 7 i ∧ g 7 i ≤ 99 ∧ g 8 i ≤ 50) : Iv g' := by
  refine ⟨by rw [h00]; exact h8, by rw [hf.1]; exact Nat.le_trans (kN_le p _) h12, fun c hc2 => ?_, fun j hj => ?_⟩
  · rw [h00] at hc2
    rw [h1 1 (by omega) (by omega), h1 2 (by omega) (by omega), h1 3 (by omega) (by omega), h1 4 (by omega) (by omega)]
    exact hc c hc2
  · rw [hf.1] at hj
    obtain ⟨i, i1, i2, i3⟩ := kN_surj p hj
    have f := fun r h5 h9 => hf.2 i i1 i2 r h5 h9
    rw [i3] at f
    rw [h00, f 5 (by omega) (by omega), f 6 (by omega) (by omega), f 7 (by omega) (by omega), f 8 (by omega) (by omega)]
    exact hl i i1 i2
