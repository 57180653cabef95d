/-! ===== the pure claim: most ===== -/
variable {M M' : lc_MM} {s s' : lc_St}
/-- can u be given, the model standing at m -/
def sc (m : lc_St) (u : Nat) : Bool := match P_X4_drawn (nI u) m with | some (r, _) => decide (¬ r ≤ 0) | none => false
def bst (m : lc_St) : Nat → Nat
  | 0 => 0
  | n + 1 => if sc m (n + 1) then n + 1 else bst m n
theorem bst_le (m : lc_St) : ∀ n, bst m n ≤ n
  | 0 => Nat.le_refl _
  | n + 1 => by
    have := bst_le m n
    unfold bst
    split <;> omega
theorem sc_of {m m' : lc_St} {r u : Nat} (h : P_X4_drawn (nI u) m = some (nI r, m')) (hr : r ≤ 792) : sc m u = decide (r ≠ 0) := by
  unfold sc
  rw [h]
  by_cases q : r = 0
  · subst q; rfl
  · have := nI_nle (n := r) (by omega) (by omega)
    simp only [this, not_false_eq_true, decide_true, q, ne_eq]
theorem l_most0 (hm : ∀ t, ∃ g d, P_X0_copyFrom (M 0) t = some (nB g) ∧ Iv g ∧ RM 8 d s g) : ∀ k (M2 : lc_MM) n, k ≤ 99 → M2 0 = M 0 → k < n → ∃ b, P_X3_most_3 n (nI k) M2 = some (nI (bst s k), va_up M2 1 b) := by
  intro k
  induction k with
  | zero =>
    intro M2 n hk h0 h1
    obtain ⟨n, rfl⟩ : ∃ q, n = q + 1 := ⟨n - 1, by omega⟩
    refine ⟨M2 1, ?_⟩
    rw [P_X3_most_3, if_pos (by decide +kernel), lc_up_self]
    rfl
  | succ k ih =>
    intro M2 n hk h0 h1
    obtain ⟨n, rfl⟩ : ∃ q, n = q + 1 := ⟨n - 1, by omega⟩
    obtain ⟨g, d, e1, hi, hr⟩ := hm (M2 1)
    obtain ⟨r, g', m', p1, p2, p3, p4, p5, p6⟩ := q_drawn hr hi (show k + 1 ≤ 99 by omega)
    have hs := sc_of p2 p4
    have em : nI (k + 1) + -1 = nI k := pk_m1 k
    rw [P_X3_most_3, if_neg (by simp only [q_0, q_1, q_2, q_3, q_4, q_5, q_6, q_7, q_8, q_10, q_12, q_14, q_20, q_47, q_50, q_99, q_100, q_107, q_120, q_792]; rw [nI_ltI (by omega) (by omega)]; omega), h0, bE e1]
    simp only [lc_let]
    rw [lc_up_at, bE2 p1, lc_up_up]
    by_cases q : r = 0
    · subst q
      obtain ⟨b, z⟩ := ih (va_up M2 1 (nB g')) n (by omega) (by rw [lc_up_off _ _ (by omega)]; exact h0) (by omega)
      refine ⟨b, ?_⟩
      have eb : bst s (k + 1) = bst s k := by
        show (if sc s (k + 1) then k + 1 else bst s k) = _
        rw [hs]; rfl
      rw [if_pos le00, em, z, lc_up_up, eb]
    · refine ⟨nB g', ?_⟩
      have eb : bst s (k + 1) = k + 1 := by
        show (if sc s (k + 1) then k + 1 else bst s k) = _
        rw [hs, if_pos (decide_eq_true q)]
      rw [if_neg (nI_nle (by omega) (by omega)), eb]
theorem l_most4 {g : Nat → Nat → Nat} {d0 : Option Int32} (s0 : lc_St) (hi : Iv g) (hr0 : RM 8 d0 s0 g) (hput : ∀ k, k < 107 → s0 2 k = s0 1 k) : ∀ k u (m : lc_St) n, u + k = 100 → 1 ≤ u → Fw s0 m → (∀ j, j < 107 → m 1 j = s0 1 j) → k < n → ∃ m', P_X4_most_13 n (nI (bst s0 (u - 1))) (nI u) m = some (nI (bst s0 99), m') ∧ Fw s0 m' ∧ (∀ j, j < 107 → m' 1 j = s0 1 j) := by
  intro k
  induction k with
  | zero =>
    intro u m n hu h1 hf hrow hn
    obtain ⟨n, rfl⟩ : ∃ q, n = q + 1 := ⟨n - 1, by omega⟩
    have : u = 100 := by omega
    subst this
    refine ⟨m, ?_, hf, hrow⟩
    rw [P_X4_most_13]
    simp only [q_0, q_1, q_2, q_3, q_4, q_5, q_6, q_7, q_8, q_10, q_12, q_14, q_20, q_47, q_50, q_99, q_100, q_107, q_120, q_792]
    rw [if_pos (by rw [nI_leI (by omega) (by omega)]; omega)]
  | succ k ih =>
    intro u m n hu h1 hf hrow hn
    obtain ⟨n, rfl⟩ : ∃ q, n = q + 1 := ⟨n - 1, by omega⟩
    have hr := RM_tr hr0 hi hrow
    obtain ⟨r, g', m', p1, p2, p3, p4, p5, p6⟩ := q_drawn hr hi (show u ≤ 99 by omega)
    obtain ⟨r2, g2, m2, q1, q2, q3, q4, q5, q6⟩ := q_drawn hr0 hi (show u ≤ 99 by omega)
    have er : r = r2 := by
      rw [p1] at q1
      have := (Prod.mk.inj (Option.some.inj q1)).1
      exact (nI_eq (by omega) (by omega)).mp this
    subst er
    have hs := sc_of q2 q4
    have hf2 : Fw s0 (crw m' 1 0 2 0 107) := (hf.tr p3).tr (crw1_fr _ _ _).w
    have hrow2 : ∀ j, j < 107 → crw m' 1 0 2 0 107 1 j = s0 1 j := fun j hj => by
      have z := crw_in m' 1 0 2 0 107 j hj
      rw [Nat.zero_add] at z
      rw [z, (hf.tr p3).1 2 (by omega), hput j hj]
    obtain ⟨m3, z1, z2, z3⟩ := ih (u + 1) (crw m' 1 0 2 0 107) n (by omega) (by omega) hf2 hrow2 (by omega)
    rw [Nat.add_sub_cancel] at z1
    have eb : bst s0 u = if sc s0 u then u else bst s0 (u - 1) := by
      obtain ⟨v, rfl⟩ : ∃ v, u = v + 1 := ⟨u - 1, by omega⟩
      rfl
    refine ⟨m3, ?_, z2, z3⟩
    rw [P_X4_most_13]
    simp only [q_0, q_1, q_2, q_3, q_4, q_5, q_6, q_7, q_8, q_10, q_12, q_14, q_20, q_47, q_50, q_99, q_100, q_107, q_120, q_792]
    rw [if_neg (by rw [nI_leI (by omega) (by omega)]; omega), bE2 p2, ← z1, eb, hs]
    unfold P_X4_most_32
    by_cases q : r = 0
    · subst q
      rw [if_pos (by decide +kernel), bE (x4_putBack m')]
      simp only [lc_let, q_0, q_1, q_2, q_3, q_4, q_5, q_6, q_7, q_8, q_10, q_12, q_14, q_20, q_47, q_50, q_99, q_100, q_107, q_120, q_792, nI_add]
      rfl
    · rw [if_neg (by have := nI_nle (n := r) (by omega) (by omega); exact this), bE (x4_putBack m'), if_pos (decide_eq_true q)]
      simp only [lc_let, q_0, q_1, q_2, q_3, q_4, q_5, q_6, q_7, q_8, q_10, q_12, q_14, q_20, q_47, q_50, q_99, q_100, q_107, q_120, q_792, nI_add]
theorem r_most (h : Rel M s) : ∃ r M' s', P_X3_most M = some (r, M') ∧ P_X4_most s = some (r, s') ∧ M' 22 = M 22 ∧ Rel M' s' := by
  obtain ⟨g, d, hcp, hi, hr, -⟩ := q_try h (M 1)
  obtain ⟨b, z1⟩ := l_most0 (M := M) (s := crw (lc_ss s 0 0 (nI 0)) 2 0 1 0 107) (fun t => by
    obtain ⟨g, d, hcp, hi, hr, -⟩ := q_try h t
    exact ⟨g, d, hcp, hi, hr⟩) 99 M lc_FU (Nat.le_refl _) rfl (q_FUn (by omega))
  have p1 : crw (lc_ss s 0 0 (nI 0)) 2 0 1 0 107 1 = s 1 := q_putf s (by omega) (by omega)
  obtain ⟨m', y1, y2, y3⟩ := l_most4 (crw (lc_ss s 0 0 (nI 0)) 2 0 1 0 107) hi hr (fun k hk => by rw [p1, q_put s k hk]) 99 1 _ lc_FU (by omega) (by omega) (Fw.rf _) (fun _ _ => rfl) (q_FUn (by omega))
  refine ⟨_, _, m', z1, ?_, lc_up_off _ _ (by omega), ?_⟩
  · unfold P_X4_most
    simp only [lc_let, q_0, q_1, q_2, q_3, q_4, q_5, q_6, q_7, q_8, q_10, q_12, q_14, q_20, q_47, q_50, q_99, q_100, q_107, q_120, q_792]
    rw [bE (x4_layPut _)]
    exact y1
  · refine h.try (fun k hk => lc_up_off _ _ (by omega)) (by rw [lc_up_off _ _ (by omega)]) (by rw [lc_up_off _ _ (by omega)]) (fun k hk => by rw [y3 k hk, p1]) (fun r h3 h6 => by rw [y2.1 r (by omega), q_putf s (by omega) (by omega)]) (fun k hk => ?_)
    rw [y2.2.1 k (by omega) (by omega), q_put0 s (by omega)]
