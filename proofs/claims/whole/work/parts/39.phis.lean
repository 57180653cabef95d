/-! ===== the pure claim: remembering ===== -/
variable {M M' : lc_MM} {s s' : lc_St}
theorem l_shift (s : lc_St) : ∀ k i n, i + k = 1391 → k < n → P_X4_remember_11 n (nI i) (crw s 5 0 5 107 i) = P_X4_remember_49 (lc_ss (crw s 5 0 5 107 1391) 0 1 (s 0 1 - 1)) := by
  have q1391 : (1391 : Int32) = nI 1391 := by decide +kernel
  intro k
  induction k with
  | zero =>
    intro i n h h1
    obtain ⟨n, rfl⟩ : ∃ q, n = q + 1 := ⟨n - 1, by omega⟩
    have : i = 1391 := by omega
    subst this
    rw [P_X4_remember_11, q1391, if_pos (by rw [nI_leI (by omega) (by omega)]; omega)]
    simp only [lc_let]
    rw [crw_off _ _ _ _ _ _ (show (0 : Nat) ≠ 5 by omega)]
  | succ k ih =>
    intro i n h h1
    obtain ⟨n, rfl⟩ : ∃ q, n = q + 1 := ⟨n - 1, by omega⟩
    have z := ih (i + 1) n (by omega) (by omega)
    have st := crw_step s (a := 5) (b := 5) 0 107 i
    have rd := crw_out s 5 0 5 107 i (i + 107) (by omega)
    rw [Nat.zero_add, Nat.add_comm 107 i] at st
    rw [P_X4_remember_11, q1391]
    simp (disch := omega) only [q_0, q_1, q_2, q_3, q_4, q_5, q_6, q_7, q_8, q_10, q_12, q_14, q_20, q_47, q_50, q_99, q_100, q_107, q_120, q_792, nI_ltI, nI_leI, nI_eq, q_okn, nI_clamp, nI_add, pk_mul, pk_sub, pk_div, q_nlt9, q_neg0, q_ne9, q_9ne, q_nle9, show ¬ 1391 ≤ i by omega, ↓reduceIte, q_ift, q_ifT, lc_let, rd, st]
    exact z
theorem l_rem (s : lc_St) {a : Nat} (ha : a < 14) (h : s 0 1 = nI a) : ∀ k i n, i + k = 107 → k < n → P_X4_remember_51 n (nI i) (crw s 5 (107 * a) 1 0 i) = some (lc_ss (crw s 5 (107 * a) 1 0 107) 0 1 (nI (a + 1))) := by
  intro k
  induction k with
  | zero =>
    intro i n h1 h2
    obtain ⟨n, rfl⟩ : ∃ q, n = q + 1 := ⟨n - 1, by omega⟩
    have : i = 107 := by omega
    subst this
    rw [P_X4_remember_51]
    simp only [q_0, q_1, q_2, q_3, q_4, q_5, q_6, q_7, q_8, q_10, q_12, q_14, q_20, q_47, q_50, q_99, q_100, q_107, q_120, q_792]
    rw [if_pos (by rw [nI_leI (by omega) (by omega)]; omega)]
    simp only [lc_let]
    rw [crw_off _ _ _ _ _ _ (show (0 : Nat) ≠ 5 by omega), h, nI_add]
  | succ k ih =>
    intro i n h1 h2
    obtain ⟨n, rfl⟩ : ∃ q, n = q + 1 := ⟨n - 1, by omega⟩
    have z := ih (i + 1) n (by omega) (by omega)
    have st := crw_step s (a := 5) (b := 1) (107 * a) 0 i
    rw [Nat.zero_add] at st
    have c0 : crw s 5 (107 * a) 1 0 i 0 1 = nI a := by rw [crw_off _ _ _ _ _ _ (by omega), h]
    have c1 : crw s 5 (107 * a) 1 0 i 1 i = s 1 i := by rw [crw_off _ _ _ _ _ _ (by omega)]
    rw [P_X4_remember_51]
    simp (disch := omega) only [q_0, q_1, q_2, q_3, q_4, q_5, q_6, q_7, q_8, q_10, q_12, q_14, q_20, q_47, q_50, q_99, q_100, q_107, q_120, q_792, nI_ltI, nI_leI, nI_eq, q_okn, nI_clamp, nI_add, pk_mul, pk_sub, pk_div, q_nlt9, q_neg0, q_ne9, q_9ne, q_nle9, show ¬ 107 ≤ i by omega, ↓reduceIte, q_ift, q_ifT, lc_let, c0, c1, st]
    exact z
theorem x4_rem (s : lc_St) {a : Nat} (ha : a < 14) (h : s 0 1 = nI a) : P_X4_remember_49 s = some (lc_ss (crw s 5 (107 * a) 1 0 107) 0 1 (nI (a + 1))) := by
  have := l_rem s ha h 107 0 lc_FU (by omega) (q_FUn (by omega))
  rw [crw_0] at this
  exact this
theorem q_mod14 {n : Nat} (hn : n < 1000) : nI n - nI n / nI 14 * nI 14 = nI (n % 14) := pk_rem (by omega) (by omega) (by omega)
/-- both remember what stands -/
theorem q_rem (h : Rel M s) : ∃ M1 s1, P_X1_remember 0 M = some M1 ∧ P_X4_remember s = some s1 ∧ Rel M1 s1 ∧ (∀ k, k < 5 ∨ k = 19 ∨ k = 21 ∨ k = 22 ∨ k = 23 → M1 k = M k) ∧ (∀ r, r ≠ 0 → r ≠ 5 → s1 r = s r) ∧ (∀ k, k ≠ 1 → s1 0 k = s 0 k) := by
  obtain ⟨hp, h3, hsl, ⟨f, n, hf, hn, e1, e2, e3, hh⟩, htx⟩ := h
  obtain ⟨b', c1, c2⟩ := hp.cp (M (5 + (f + n) % 14))
  have hj : (f + n) % 14 < 14 := Nat.mod_lt _ (by omega)
  have C : P_X1_remember 0 M = (if 14 ≤ n then some (va_up (va_up M (5 + (f + n) % 14) b') 20 (lc_ss (M 20) 0 0 (nI ((f + 1) % 14)))) else some (va_up (va_up M (5 + (f + n) % 14) b') 20 (lc_ss (M 20) 0 1 (nI (n + 1))))) := by
    have o20 : va_up M (5 + (f + n) % 14) b' 20 = M 20 := lc_up_off _ _ (by omega)
    unfold P_X1_remember
    simp only [q_0, q_1, q_2, q_3, q_4, q_5, q_6, q_7, q_8, q_10, q_12, q_14, q_20, q_47, q_50, q_99, q_100, q_107, q_120, q_792, lc_let, e1, e2, nI_add]
    rw [q_mod14 (by omega), q_ift ((q_okn (by omega)).mpr hj), nI_clamp (by omega), bE c1]
    simp only [o20, e1, e2, nI_add]
    rw [q_mod14 (by omega)]
    by_cases q : 14 ≤ n
    · rw [if_pos q, if_pos (by rw [nI_leI (by omega) (by omega)]; exact q)]
    · rw [if_neg q, if_neg (by rw [nI_leI (by omega) (by omega)]; exact q)]
  rw [C]
  by_cases q : 14 ≤ n
  · have hn14 : n = 14 := by omega
    subst hn14
    have ef : (f + 14) % 14 = f := by omega
    rw [ef] at c1 ⊢
    have k1 := l_shift s 1391 0 lc_FU (by omega) (q_FUn (by omega))
    rw [crw_0] at k1
    have k2 := x4_rem (lc_ss (crw s 5 0 5 107 1391) 0 1 (s 0 1 - 1)) (a := 13) (by omega) (by rw [ss_eq, e3]; simp only [q_0, q_1, q_2, q_3, q_4, q_5, q_6, q_7, q_8, q_10, q_12, q_14, q_20, q_47, q_50, q_99, q_100, q_107, q_120, q_792]; rw [pk_sub (by omega)])
    have D : P_X4_remember s = P_X4_remember_49 (lc_ss (crw s 5 0 5 107 1391) 0 1 (s 0 1 - 1)) := by
      unfold P_X4_remember
      simp only [q_0, q_1, q_2, q_3, q_4, q_5, q_6, q_7, q_8, q_10, q_12, q_14, q_20, q_47, q_50, q_99, q_100, q_107, q_120, q_792, e3, ↓reduceIte]
      rw [e3] at k1
      exact k1
    refine ⟨_, _, if_pos q, D.trans k2, ⟨?_, ?_, fun k hk => ?_, ⟨(f + 1) % 14, 14, Nat.mod_lt _ (by omega), by omega, ?_, ?_, ?_, fun i hi => ?_⟩, ?_⟩, fun k hk => ?_, fun r hr0 hr5 => ?_, fun k hk => ?_⟩
    · rw [lc_up_off _ _ (by omega), lc_up_off _ _ (by omega), ss_off _ _ _ (by omega), crw_off _ _ _ _ _ _ (by omega), ss_off _ _ _ (by omega), crw_off _ _ _ _ _ _ (by omega)]
      exact hp
    · rw [ss_ne _ _ _ (by omega), crw_off _ _ _ _ _ _ (by omega), ss_ne _ _ _ (by omega), crw_off _ _ _ _ _ _ (by omega)]
      exact h3
    · have := hsl k hk
      unfold Sl at this ⊢
      rw [lc_up_off _ _ (by omega), lc_up_off _ _ (by omega), lc_up_off _ _ (by omega), lc_up_off _ _ (by omega)]
      simp only [ss_off _ _ _ (show (4 : Nat) ≠ 0 by omega), ss_off _ _ _ (show (3 : Nat) ≠ 0 by omega), crw_off _ _ _ _ _ _ (show (4 : Nat) ≠ 5 by omega), crw_off _ _ _ _ _ _ (show (3 : Nat) ≠ 5 by omega)]
      exact this
    · rw [lc_up_at, ss_eq]
    · rw [lc_up_at, ss_ne _ _ _ (by omega)]; exact e2
    · rw [ss_eq]
    · by_cases qi : i = 13
      · subst qi
        rw [show ((f + 1) % 14 + 13) % 14 = f by omega, lc_up_off _ _ (by omega), lc_up_at]
        refine c2.row (fun k hk => ?_)
        rw [ss_off _ _ _ (by omega), crw_in _ _ _ _ _ _ _ hk, ss_off _ _ _ (by omega), crw_off _ _ _ _ _ _ (by omega), Nat.zero_add]
      · have := hh (i + 1) (by omega)
        rw [lc_up_off _ _ (by omega), lc_up_off _ _ (by omega), show ((f + 1) % 14 + i) % 14 = (f + (i + 1)) % 14 by omega]
        refine this.row (fun k hk => ?_)
        have z := crw_in s 5 0 5 107 1391 (107 * i + k) (by omega)
        rw [Nat.zero_add] at z
        rw [ss_off _ _ _ (by omega), crw_out _ _ _ _ _ _ _ (by omega), ss_off _ _ _ (by omega), z, show 107 + (107 * i + k) = 107 * (i + 1) + k by omega]
    · obtain ⟨len, t1, t2, t3, t4⟩ := htx
      refine ⟨len, t1, by rw [lc_up_off _ _ (by omega), lc_up_off _ _ (by omega)]; exact t2, ?_, fun i hi => ?_⟩
      · rw [ss_ne _ _ _ (by omega), crw_off _ _ _ _ _ _ (by omega), ss_ne _ _ _ (by omega), crw_off _ _ _ _ _ _ (by omega)]; exact t3
      · rw [lc_up_off _ _ (by omega), lc_up_off _ _ (by omega), ss_off _ _ _ (by omega), crw_off _ _ _ _ _ _ (by omega), ss_off _ _ _ (by omega), crw_off _ _ _ _ _ _ (by omega)]
        exact t4 i hi
    · rw [lc_up_off _ _ (by omega), lc_up_off _ _ (by omega)]
    · rw [ss_off _ _ _ hr0, crw_off _ _ _ _ _ _ hr5, ss_off _ _ _ hr0, crw_off _ _ _ _ _ _ hr5]
    · rw [ss_ne _ _ _ hk, crw_off _ _ _ _ _ _ (by omega), ss_ne _ _ _ hk, crw_off _ _ _ _ _ _ (by omega)]
  · have k2 := x4_rem s (a := n) (by omega) e3
    have D : P_X4_remember s = P_X4_remember_49 s := by
      unfold P_X4_remember
      simp only [q_0, q_1, q_2, q_3, q_4, q_5, q_6, q_7, q_8, q_10, q_12, q_14, q_20, q_47, q_50, q_99, q_100, q_107, q_120, q_792, e3]
      rw [if_neg (by rw [nI_eq (by omega) (by omega)]; omega)]
    refine ⟨_, _, if_neg q, D.trans k2, ⟨?_, ?_, fun k hk => ?_, ⟨f, n + 1, hf, by omega, ?_, ?_, ?_, fun i hi => ?_⟩, ?_⟩, fun k hk => ?_, fun r hr0 hr5 => ?_, fun k hk => ?_⟩
    · rw [lc_up_off _ _ (by omega), lc_up_off _ _ (by omega), ss_off _ _ _ (by omega), crw_off _ _ _ _ _ _ (by omega)]
      exact hp
    · rw [ss_ne _ _ _ (by omega), crw_off _ _ _ _ _ _ (by omega)]
      exact h3
    · have := hsl k hk
      unfold Sl at this ⊢
      rw [lc_up_off _ _ (by omega), lc_up_off _ _ (by omega), lc_up_off _ _ (by omega), lc_up_off _ _ (by omega)]
      simp only [ss_off _ _ _ (show (4 : Nat) ≠ 0 by omega), ss_off _ _ _ (show (3 : Nat) ≠ 0 by omega), crw_off _ _ _ _ _ _ (show (4 : Nat) ≠ 5 by omega), crw_off _ _ _ _ _ _ (show (3 : Nat) ≠ 5 by omega)]
      exact this
    · rw [lc_up_at, ss_ne _ _ _ (by omega)]; exact e1
    · rw [lc_up_at, ss_eq]
    · rw [ss_eq]
    · by_cases qi : i = n
      · subst qi
        rw [lc_up_off _ _ (by omega), lc_up_at]
        refine c2.row (fun k hk => ?_)
        rw [ss_off _ _ _ (by omega), crw_in _ _ _ _ _ _ _ hk, Nat.zero_add]
      · have := hh i (by omega)
        rw [lc_up_off _ _ (by omega), lc_up_off _ _ (by omega)]
        refine this.row (fun k hk => ?_)
        rw [ss_off _ _ _ (by omega), crw_out _ _ _ _ _ _ _ (by omega)]
    · obtain ⟨len, t1, t2, t3, t4⟩ := htx
      refine ⟨len, t1, by rw [lc_up_off _ _ (by omega), lc_up_off _ _ (by omega)]; exact t2, ?_, fun i hi => ?_⟩
      · rw [ss_ne _ _ _ (by omega), crw_off _ _ _ _ _ _ (by omega)]; exact t3
      · rw [lc_up_off _ _ (by omega), lc_up_off _ _ (by omega), ss_off _ _ _ (by omega), crw_off _ _ _ _ _ _ (by omega)]
        exact t4 i hi
    · rw [lc_up_off _ _ (by omega), lc_up_off _ _ (by omega)]
    · rw [ss_off _ _ _ hr0, crw_off _ _ _ _ _ _ hr5]
    · rw [ss_ne _ _ _ hk, crw_off _ _ _ _ _ _ (by omega)]
