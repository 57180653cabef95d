/-! ===== the pure claim: copies ===== -/
variable {e : Nat} {d : Option Int32} {m : lc_St} {g : Nat → Nat → Nat}
/-- i places of row a from p on are those of row b from q on -/
def crw (m : lc_St) (a p b q i : Nat) : lc_St := fun r k => if r = a ∧ p ≤ k ∧ k < p + i then m b (q + (k - p)) else m r k
theorem crw_0 (m : lc_St) (a p b q : Nat) : crw m a p b q 0 = m := by
  funext r k
  unfold crw
  rw [if_neg (by omega)]
theorem crw_off (m : lc_St) (a p b q i : Nat) {r : Nat} (h : r ≠ a) : crw m a p b q i r = m r := by
  funext k
  unfold crw
  rw [if_neg (by omega)]
theorem crw_out (m : lc_St) (a p b q i k : Nat) (h : k < p ∨ p + i ≤ k) : crw m a p b q i a k = m a k := by
  unfold crw
  rw [if_neg (by omega)]
theorem crw_in (m : lc_St) (a p b q i k : Nat) (h : k < i) : crw m a p b q i a (p + k) = m b (q + k) := by
  unfold crw
  rw [if_pos (by omega)]
  congr 1; omega
theorem crw_step (m : lc_St) {a b : Nat} (p q i : Nat) : lc_ss (crw m a p b q i) a (p + i) (m b (q + i)) = crw m a p b q (i + 1) := by
  funext r k
  by_cases hr : r = a
  · subst hr
    by_cases hk : k = p + i
    · subst hk
      rw [ss_eq, crw_in _ _ _ _ _ _ _ (by omega)]
    · rw [ss_ne _ _ _ hk]
      unfold crw
      by_cases hh : r = r ∧ p ≤ k ∧ k < p + i
      · rw [if_pos hh, if_pos (by omega)]
      · rw [if_neg hh, if_neg (by omega)]
  · rw [ss_off _ _ _ hr, crw_off _ _ _ _ _ _ hr, crw_off _ _ _ _ _ _ hr]
theorem l_layPut (m : lc_St) : ∀ k i n, i + k = 107 → k < n → P_X4_layPut_2 n (nI i) (crw m 2 0 1 0 i) = some (crw m 2 0 1 0 107) := by
  intro k
  induction k with
  | zero =>
    intro i n h h1
    obtain ⟨n, rfl⟩ : ∃ q, n = q + 1 := ⟨n - 1, by omega⟩
    have : i = 107 := by omega
    subst this
    rw [P_X4_layPut_2]
    simp only [q_0, q_1, q_2, q_3, q_4, q_5, q_6, q_7, q_8, q_10, q_12, q_14, q_20, q_47, q_50, q_99, q_100, q_107, q_120, q_792]
    rw [if_pos (by rw [nI_leI (by omega) (by omega)]; omega)]
  | succ k ih =>
    intro i n h h1
    obtain ⟨n, rfl⟩ : ∃ q, n = q + 1 := ⟨n - 1, by omega⟩
    have z := ih (i + 1) n (by omega) (by omega)
    have s := crw_step m (a := 2) (b := 1) 0 0 i
    rw [Nat.zero_add] at s
    rw [P_X4_layPut_2]
    simp (disch := omega) only [q_0, q_1, q_2, q_3, q_4, q_5, q_6, q_7, q_8, q_10, q_12, q_14, q_20, q_47, q_50, q_99, q_100, q_107, q_120, q_792, nI_ltI, nI_leI, nI_eq, q_okn, nI_clamp, nI_add, pk_mul, pk_sub, pk_div, q_nlt9, q_neg0, q_ne9, q_9ne, q_nle9, show ¬ 107 ≤ i by omega, ↓reduceIte, q_ift, q_ifT, lc_let, crw_off, s]
    exact z
theorem x4_layPut (m : lc_St) : P_X4_layPut m = some (crw m 2 0 1 0 107) := by
  have := l_layPut m 107 0 lc_FU (by omega) (q_FUn (by omega))
  rw [crw_0] at this
  exact this
theorem l_putBack (m : lc_St) : ∀ k i n, i + k = 107 → k < n → P_X4_putBack_2 n (nI i) (crw m 1 0 2 0 i) = some (crw m 1 0 2 0 107) := by
  intro k
  induction k with
  | zero =>
    intro i n h h1
    obtain ⟨n, rfl⟩ : ∃ q, n = q + 1 := ⟨n - 1, by omega⟩
    have : i = 107 := by omega
    subst this
    rw [P_X4_putBack_2]
    simp only [q_0, q_1, q_2, q_3, q_4, q_5, q_6, q_7, q_8, q_10, q_12, q_14, q_20, q_47, q_50, q_99, q_100, q_107, q_120, q_792]
    rw [if_pos (by rw [nI_leI (by omega) (by omega)]; omega)]
  | succ k ih =>
    intro i n h h1
    obtain ⟨n, rfl⟩ : ∃ q, n = q + 1 := ⟨n - 1, by omega⟩
    have z := ih (i + 1) n (by omega) (by omega)
    have s := crw_step m (a := 1) (b := 2) 0 0 i
    rw [Nat.zero_add] at s
    rw [P_X4_putBack_2]
    simp (disch := omega) only [q_0, q_1, q_2, q_3, q_4, q_5, q_6, q_7, q_8, q_10, q_12, q_14, q_20, q_47, q_50, q_99, q_100, q_107, q_120, q_792, nI_ltI, nI_leI, nI_eq, q_okn, nI_clamp, nI_add, pk_mul, pk_sub, pk_div, q_nlt9, q_neg0, q_ne9, q_9ne, q_nle9, show ¬ 107 ≤ i by omega, ↓reduceIte, q_ift, q_ifT, lc_let, crw_off, s]
    exact z
theorem x4_putBack (m : lc_St) : P_X4_putBack m = some (crw m 1 0 2 0 107) := by
  have := l_putBack m 107 0 lc_FU (by omega) (q_FUn (by omega))
  rw [crw_0] at this
  exact this
theorem l_ahead (m : lc_St) (u : Int32) : ∀ k i n, i + k = 107 → k < n → P_X4_drawn_2 n u (nI i) (crw m 8 0 1 0 i) = lc_bd2 (P_X4_draws0 u (crw m 8 0 1 0 107)) (fun r28 s1 => P_X4_drawn_34 lc_FU r28 (nI 0) s1) := by
  intro k
  induction k with
  | zero =>
    intro i n h h1
    obtain ⟨n, rfl⟩ : ∃ q, n = q + 1 := ⟨n - 1, by omega⟩
    have : i = 107 := by omega
    subst this
    rw [P_X4_drawn_2]
    simp only [q_0, q_1, q_2, q_3, q_4, q_5, q_6, q_7, q_8, q_10, q_12, q_14, q_20, q_47, q_50, q_99, q_100, q_107, q_120, q_792]
    rw [if_pos (by rw [nI_leI (by omega) (by omega)]; omega)]
  | succ k ih =>
    intro i n h h1
    obtain ⟨n, rfl⟩ : ∃ q, n = q + 1 := ⟨n - 1, by omega⟩
    have z := ih (i + 1) n (by omega) (by omega)
    have s := crw_step m (a := 8) (b := 1) 0 0 i
    rw [Nat.zero_add] at s
    rw [P_X4_drawn_2]
    simp (disch := omega) only [q_0, q_1, q_2, q_3, q_4, q_5, q_6, q_7, q_8, q_10, q_12, q_14, q_20, q_47, q_50, q_99, q_100, q_107, q_120, q_792, nI_ltI, nI_leI, nI_eq, q_okn, nI_clamp, nI_add, pk_mul, pk_sub, pk_div, q_nlt9, q_neg0, q_ne9, q_9ne, q_nle9, show ¬ 107 ≤ i by omega, ↓reduceIte, q_ift, q_ifT, lc_let, crw_off, s]
    exact z
theorem l_unahead (m : lc_St) : ∀ k i n, i + k = 107 → k < n → P_X4_drawn_34 n (nI 0) (nI i) (crw m 1 0 8 0 i) = some (nI 0, crw m 1 0 8 0 107) := by
  intro k
  induction k with
  | zero =>
    intro i n h h1
    obtain ⟨n, rfl⟩ : ∃ q, n = q + 1 := ⟨n - 1, by omega⟩
    have : i = 107 := by omega
    subst this
    rw [P_X4_drawn_34]
    simp only [q_0, q_1, q_2, q_3, q_4, q_5, q_6, q_7, q_8, q_10, q_12, q_14, q_20, q_47, q_50, q_99, q_100, q_107, q_120, q_792]
    rw [if_pos (by rw [nI_leI (by omega) (by omega)]; omega)]
  | succ k ih =>
    intro i n h h1
    obtain ⟨n, rfl⟩ : ∃ q, n = q + 1 := ⟨n - 1, by omega⟩
    have z := ih (i + 1) n (by omega) (by omega)
    have s := crw_step m (a := 1) (b := 8) 0 0 i
    rw [Nat.zero_add] at s
    rw [P_X4_drawn_34]
    simp (disch := omega) only [q_0, q_1, q_2, q_3, q_4, q_5, q_6, q_7, q_8, q_10, q_12, q_14, q_20, q_47, q_50, q_99, q_100, q_107, q_120, q_792, nI_ltI, nI_leI, nI_eq, q_okn, nI_clamp, nI_add, pk_mul, pk_sub, pk_div, q_nlt9, q_neg0, q_ne9, q_9ne, q_nle9, show ¬ 107 ≤ i by omega, ↓reduceIte, q_ift, q_ifT, lc_let, crw_off, s]
    exact z
theorem RM_tr4 {m' : lc_St} {d' : Option Int32} (hr : RM 8 d m g) (hi : Iv g) (h1 : ∀ k, k < 107 → m' 1 k = m 1 k) (h3 : W3 d' (m' 0 3) (g 0 7)) (h4 : W4 d' (m' 0 4) (g 0 8)) : RM 8 d' m' g := by
  have h8 := hi.1
  have h12 := hi.2.1
  obtain ⟨⟨a0, a1, a2, a3, a4, a5, a6, a7, a8⟩, hcc, hll⟩ := hr
  refine ⟨⟨by rw [h1 _ (by omega)]; exact a0, by rw [h1 _ (by omega)]; exact a1, by rw [h1 _ (by omega)]; exact a2, by rw [h1 _ (by omega)]; exact a3, by rw [h1 _ (by omega)]; exact a4, by rw [h1 _ (by omega)]; exact a5, by rw [h1 _ (by omega)]; exact a6, h3, h4⟩, fun c hc => ?_, fun i hii => ?_⟩
  · rw [h1 _ (by omega), h1 _ (by omega), h1 _ (by omega), h1 _ (by omega), h1 _ (by omega)]
    exact hcc c hc
  · rw [h1 _ (by omega), h1 _ (by omega), h1 _ (by omega), h1 _ (by omega), h1 _ (by omega)]
    exact hll i hii
theorem RM_tr {m' : lc_St} (hr : RM 8 d m g) (hi : Iv g) (h1 : ∀ k, k < 107 → m' 1 k = m 1 k) : RM 8 none m' g := RM_tr4 hr hi h1 trivial trivial
theorem crw8_fr (m : lc_St) (i : Nat) : Fw m (crw m 8 0 1 0 i) := ⟨fun r hr => crw_off _ _ _ _ _ _ (by omega), fun k _ _ => by rw [crw_off _ _ _ _ _ _ (by omega)], fun h => by rw [crw_off _ _ _ _ _ _ (by omega)]; exact h⟩
theorem crw1_fr (m : lc_St) (b i : Nat) : Fr m (crw m 1 0 b 0 i) := ⟨fun r hr => crw_off _ _ _ _ _ _ (by omega), fun k _ _ => by rw [crw_off _ _ _ _ _ _ (by omega)], fun h => by rw [crw_off _ _ _ _ _ _ (by omega)]; exact h⟩
theorem RM_same {m' : lc_St} (hr : RM 8 d m g) (h1 : m' 1 = m 1) (h0 : m' 0 = m 0) : RM 8 d m' g := by
  unfold RM RMa RMc RMl at *
  rw [h1, h0]; exact hr
/-- the class gives; the model draws, and puts back what failed -/
theorem q_drawn (hr : RM 8 d m g) (hi : Iv g) {u : Nat} (hu : u ≤ 99) : ∃ r g' m', P_X0_giveEach (nI u) (nB g) = some (nI r, nB g') ∧ P_X4_drawn (nI u) m = some (nI r, m') ∧ Fw m m' ∧ r ≤ 792 ∧ (r ≠ 0 → RM 8 d m' g' ∧ Iv g' ∧ g' 4 = g 4 ∧ g' 0 0 = g 0 0 ∧ tn (g' 2) (g 0 0) + r ≤ tn (g 2) (g 0 0)) ∧ (r = 0 → RM 8 d m' g ∧ ∀ k, k < 107 → m' 1 k = m 1 k) := by
  have h8 := hi.1
  have h12 := hi.2.1
  have r8 : RM 8 d (crw m 8 0 1 0 107) g := RM_same hr (crw_off _ _ _ _ _ _ (by omega)) (crw_off _ _ _ _ _ _ (by omega))
  obtain ⟨r, g', m', p1, p2, p3, p4, p5, p6, p7, p8, p9, p10, p11⟩ := q_give r8 hi hu
  have l1 := l_ahead m (nI u) 107 0 lc_FU (by omega) (q_FUn (by omega))
  rw [crw_0, p2, q_bd2] at l1
  have l1' : P_X4_drawn (nI u) m = P_X4_drawn_34 lc_FU (nI r) (nI 0) m' := by
    rw [P_X4_drawn]
    exact l1
  by_cases hz : r = 0
  · subst hz
    have l2 := l_unahead m' 107 0 lc_FU (by omega) (q_FUn (by omega))
    rw [crw_0] at l2
    have e8 : m' 8 = crw m 8 0 1 0 107 8 := p5.1 8 (by omega)
    have e1 : ∀ k, k < 107 → crw m' 1 0 8 0 107 1 k = m 1 k := fun k hk => by
      have z1 := crw_in m' 1 0 8 0 107 k hk
      have z2 := crw_in m 8 0 1 0 107 k hk
      rw [Nat.zero_add] at z1 z2
      rw [z1, e8, z2]
    have e0 : crw m' 1 0 8 0 107 0 = m' 0 := crw_off _ _ _ _ _ _ (by omega)
    have c0 : crw m 8 0 1 0 107 0 = m 0 := crw_off _ _ _ _ _ _ (by omega)
    have w3 := p3.1.2.2.2.2.2.2.2.1
    rw [p8] at w3
    have w4 := p3.1.2.2.2.2.2.2.2.2
    rw [p9] at w4
    have t := RM_tr4 (m' := crw m' 1 0 8 0 107) hr hi e1 (by rw [e0]; exact w3) (by rw [e0]; exact w4)
    exact ⟨0, g', _, p1, l1'.trans l2, ((crw8_fr m 107).tr p5.w).tr (crw1_fr _ _ _).w, p11, fun q => absurd rfl q, fun _ => ⟨t, e1⟩⟩
  · refine ⟨r, g', m', p1, ?_, (crw8_fr m 107).tr p5.w, p11, fun _ => ⟨p3, p4, p6, p7, p10⟩, fun q => absurd q hz⟩
    rw [l1', q_FU, P_X4_drawn_34]
    simp (disch := omega) only [q_0, q_1, q_2, q_3, q_4, q_5, q_6, q_7, q_8, q_10, q_12, q_14, q_20, q_47, q_50, q_99, q_100, q_107, q_120, q_792, nI_ltI, nI_leI, nI_eq, q_okn, nI_clamp, nI_add, pk_mul, pk_sub, pk_div, q_nlt9, q_neg0, q_ne9, q_9ne, q_nle9, show ¬ 107 ≤ 0 by omega, hz, ↓reduceIte]
