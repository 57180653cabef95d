/-! ===== the pure claim: the law's actions ===== -/
variable {e : Nat} {m : lc_St} {g : Nat → Nat → Nat} {M M' : lc_MM}
/-- both sides, between two actions -/
def St (M : lc_MM) (g : Nat → Nat → Nat) : Prop := M 0 = nB g ∧ Iv g ∧ Cn g ∧ Hk M ∧ QM 8 (M 22) g
def Good (M : lc_MM) (g : Nat → Nat → Nat) (X : Option (Int32 × lc_MM)) : Prop := ∃ g' M', X = some (nI 1, M') ∧ St M' g' ∧ g 0 0 ≤ g' 0 0
theorem St.no (h : St M g) {k : Nat} {X : Option (Int32 × lc_MM)} (hX : No M k X) : ∃ M', X = some (nI k, M') ∧ St M' g := by
  obtain ⟨M', a, b, c, d⟩ := hX
  exact ⟨M', a, by rw [b]; exact h.1, h.2.1, h.2.2.1, c, by rw [d]; exact h.2.2.2.2⟩
/-- the law has gone ahead, the class follows -/
theorem St.ok {g' : Nat → Nat → Nat} {r : Nat} {X : Option (Int32 × lc_MM)} (hX : Ok M g' r X) (hq : QM 8 (M 22) g') (hi : Iv g') (hn : Cn g') : ∃ M', X = some (nI 0, M') ∧ St M' g' ∧ M' 24 0 0 = nI r := by
  obtain ⟨M', a, b, c, d, f⟩ := hX
  exact ⟨M', a, ⟨b, hi, hn, c, by rw [d]; exact hq⟩, f⟩
/-! ===== a new cell ===== -/
theorem QM_nc (hr : QM 8 m g) (h6 : g 0 0 < 6) (h12 : g 0 1 ≤ 12) (a b c : Nat) : QM 8 (lc_ss (lc_ss (lc_ss (lc_ss (lc_ss m 1 (5 * g 0 0) (nI a)) 1 (5 * g 0 0 + 1) (nI b)) 1 (5 * g 0 0 + 2) (nI c)) 0 1 (nI (g 0 0 + 1))) 0 3 (nI (g 0 3 + b))) (ncS g a b c) := by
  obtain ⟨⟨a0, a1, a2, a3, a4, a5, a6⟩, hcc, hll, hz, h6'⟩ := hr
  unfold ncS
  refine ⟨⟨by simp (disch := omega) only [ss_eq, ss_ne, ss_off, gs_at, gs_r, gs_i, a0], by simp (disch := omega) only [ss_eq, ss_ne, ss_off, gs_at, gs_r, gs_i, a1], by simp (disch := omega) only [ss_eq, ss_ne, ss_off, gs_at, gs_r, gs_i, a2], by simp (disch := omega) only [ss_eq, ss_ne, ss_off, gs_at, gs_r, gs_i, a3], by simp (disch := omega) only [ss_eq, ss_ne, ss_off, gs_at, gs_r, gs_i, a4], by simp (disch := omega) only [ss_eq, ss_ne, ss_off, gs_at, gs_r, gs_i, a5], by simp (disch := omega) only [ss_eq, ss_ne, ss_off, gs_at, gs_r, gs_i, a6]⟩, fun x hx => ?_, fun j hj => ?_, fun k hk hk2 => ?_, by rw [gs_at]; omega⟩
  · rw [gs_at] at hx
    by_cases q : x = g 0 0
    · subst q
      have z3 := hz (5 * g 0 0 + 3) (by omega) (by omega)
      have z4 := hz (5 * g 0 0 + 4) (by omega) (by omega)
      exact ⟨by simp (disch := omega) only [ss_eq, ss_ne, ss_off, gs_at, gs_r, gs_i, a0], by simp (disch := omega) only [ss_eq, ss_ne, ss_off, gs_at, gs_r, gs_i, a0], by simp (disch := omega) only [ss_eq, ss_ne, ss_off, gs_at, gs_r, gs_i, a0], by simp (disch := omega) only [ss_eq, ss_ne, ss_off, gs_at, gs_r, gs_i, z3], fun _ => by simp (disch := omega) only [ss_ne, ss_off, gs_at, gs_r, gs_i, z4]; rfl⟩
    · obtain ⟨b0, b1, b2, b3, b4⟩ := hcc x (by omega)
      exact ⟨by simp (disch := omega) only [ss_eq, ss_ne, ss_off, gs_at, gs_r, gs_i, b0], by simp (disch := omega) only [ss_eq, ss_ne, ss_off, gs_at, gs_r, gs_i, b1], by simp (disch := omega) only [ss_eq, ss_ne, ss_off, gs_at, gs_r, gs_i, b2], by simp (disch := omega) only [ss_eq, ss_ne, ss_off, gs_at, gs_r, gs_i, b3], fun z => by simp (disch := omega) only [ss_eq, ss_ne, ss_off, gs_at, gs_r, gs_i, b4 z]⟩
  · replace hj : j < g 0 1 := by simpa (disch := omega) only [gs_i, gs_r] using hj
    obtain ⟨b0, b1, b2, b3, b4⟩ := hll j hj
    exact ⟨by simp (disch := omega) only [ss_eq, ss_ne, ss_off, gs_at, gs_r, gs_i, b0], by simp (disch := omega) only [ss_eq, ss_ne, ss_off, gs_at, gs_r, gs_i, b1], by simp (disch := omega) only [ss_eq, ss_ne, ss_off, gs_at, gs_r, gs_i, b2], by simp (disch := omega) only [ss_eq, ss_ne, ss_off, gs_at, gs_r, gs_i, b3], by simp (disch := omega) only [ss_eq, ss_ne, ss_off, gs_at, gs_r, gs_i, b4]⟩
  · rw [gs_at] at hk
    have hzk := hz k (by omega) hk2
    simp (disch := omega) only [ss_ne, ss_off, hzk]
theorem Cn_nc (hn : Cn g) (a b c : Nat) : Cn (ncS g a b c) := by
  unfold Cn at hn ⊢
  have e2 : tn (ncS g a b c 2) (g 0 0 + 1) = tn (g 2) (g 0 0) + b := by
    show tn (ncS g a b c 2) (g 0 0) + ncS g a b c 2 (g 0 0) = _
    rw [tn_cong (h := ncS g a b c 2) (h' := g 2) (fun x hx => by unfold ncS; simp (disch := omega) only [gs_r, gs_i])]
    unfold ncS
    simp (disch := omega) only [gs_r, gs_at]
  have e0 : ncS g a b c 0 0 = g 0 0 + 1 := by unfold ncS; rw [gs_at]
  rw [e0, e2]
  unfold ncS
  simp (disch := omega) only [gs_r, gs_i, gs_at]
  omega
theorem a_added (h : St M g) (x : Int32) : Good M g (P_L_isAdded x M) ∧ (g 0 0 < 6 → ∃ g' M', P_L_isAdded x M = some (nI 1, M') ∧ St M' g' ∧ g' 0 0 = g 0 0 + 1) := by
  obtain ⟨h0, hi, hn, hk, hq⟩ := h
  have h6 := hq.2.2.2.2
  have h12 := hi.2.1
  have nc := qm_nc hq
  by_cases q6 : g 0 0 = 6
  · refine ⟨?_, fun z => absurd z (by omega)⟩
    obtain ⟨M1, a1, s1⟩ := St.no ⟨h0, hi, hn, hk, hq⟩ (w_add1 hk (a := 10) (b := 11) (c := 0) (by omega) (by omega) (by omega) (by omega))
    obtain ⟨M2, a2, s2⟩ := s1.no (w_add1 s1.2.2.2.1 (a := 9) (b := 0) (c := 0) (by omega) (by omega) (by omega) (by omega))
    obtain ⟨M3, a3, s3⟩ := s2.no (w_add1 s2.2.2.2.1 (a := 10) (b := 0) (c := 4) (by omega) (by omega) (by omega) (by omega))
    refine ⟨g, M3, ?_, s3, Nat.le_refl _⟩
    unfold P_L_isAdded
    simp only [q_0, q_1, q_2, q_3, q_4, q_5, q_6, q_7, q_8, q_10, q_11, q_12, q_13, q_14, q_20, q_26, q_30, q_40, q_50, q_51, q_56, q_60, q_90, q_99, q_100, q_19, q_9L, lc_let, nc, q6, ↓reduceIte]
    rw [bE2 a1, if_pos rfl, bE2 a2, if_pos rfl, bE2 a3, if_pos rfl]
  · have h6' : g 0 0 < 6 := by omega
    obtain ⟨ra, la, ea⟩ := l_low x (n := 90) (by omega) (by omega)
    obtain ⟨rb, lb, eb⟩ := l_low (x >>> ((nI 7) &&& 31)) (n := 10 + ra + 1) (by omega) (by omega)
    obtain ⟨rc, lc, ec⟩ := l_low (x >>> ((nI 14) &&& 31)) (n := 4) (by omega) (by omega)
    have hqn := QM_nc hq h6' h12 (10 + ra) rb rc
    have hin := Iv_nc hi (by omega) (show 10 ≤ 10 + ra by omega) (by omega) (show rb ≤ 10 + ra by omega) (show rc ≤ 3 by omega)
    have hcn := Cn_nc hn (10 + ra) rb rc
    obtain ⟨m', hm'⟩ : ∃ m', m' = lc_ss (lc_ss (lc_ss (lc_ss (lc_ss (M 22) 1 (5 * g 0 0) (nI (10 + ra))) 1 (5 * g 0 0 + 1) (nI rb)) 1 (5 * g 0 0 + 2) (nI rc)) 0 1 (nI (g 0 0 + 1))) 0 3 (nI (g 0 3 + rb)) := ⟨_, rfl⟩
    rw [← hm'] at hqn
    have k0 : Hk (va_up M 22 m') := hk.of (lc_up_off _ _ (by omega))
    have hok := w_add (M := va_up M 22 m') (g := g) (by rw [lc_up_off _ _ (by omega)]; exact h0) k0 (by omega) (a := 10 + ra) (b := rb) (c := rc) (by omega) (by omega) (by omega) (by omega)
    obtain ⟨M3, a3, s3, s4⟩ := St.ok hok (by rw [lc_up_at]; exact hqn) hin hcn
    have e0 : ncS g (10 + ra) rb rc 0 0 = g 0 0 + 1 := by unfold ncS; rw [gs_at]
    have E : P_L_isAdded x M = some (nI 1, M3) := by
      have hpi := qm_pi hq
      unfold P_L_isAdded
      simp only [q_0, q_1, q_2, q_3, q_4, q_5, q_6, q_7, q_8, q_10, q_11, q_12, q_13, q_14, q_20, q_26, q_30, q_40, q_50, q_51, q_56, q_60, q_90, q_99, q_100, q_19]
      simp (disch := omega) only [nI_ltI, nI_leI, nI_eq, q_okn, nI_clamp, nI_add, pk_mul, pk_sub, pk_div, q_nlt9, q_neg0, q_ne9, q_9ne, q_nle9, nc, lc_let, q6, ↓reduceIte]
      rw [bE ea]
      simp (disch := omega) only [nI_ltI, nI_leI, nI_eq, q_okn, nI_clamp, nI_add, pk_mul, pk_sub, pk_div, q_nlt9, q_neg0, q_ne9, q_9ne, q_nle9, q_0, q_1, q_2, q_3, q_4, q_5, q_6, q_7, q_8, q_10, q_11, q_12, q_13, q_14, q_20, q_26, q_30, q_40, q_50, q_51, q_56, q_60, q_90, q_99, q_100, q_19, lc_let, lc_up_at, lc_up_up, q_ift, ss_eq]
      rw [bE eb, bE ec]
      simp (disch := omega) only [nI_ltI, nI_leI, nI_eq, q_okn, nI_clamp, nI_add, pk_mul, pk_sub, pk_div, q_nlt9, q_neg0, q_ne9, q_9ne, q_nle9, q_0, q_1, q_2, q_3, q_4, q_5, q_6, q_7, q_8, q_10, q_11, q_12, q_13, q_14, q_20, q_26, q_30, q_40, q_50, q_51, q_56, q_60, q_90, q_99, q_100, q_19, lc_let, lc_up_at, lc_up_up, q_ift, ss_eq, ss_ne, ss_off, nc, hpi]
      rw [← hm', bE2 a3, if_pos rfl, s4, if_pos rfl]
    exact ⟨⟨_, M3, E, s3, by rw [e0]; omega⟩, fun _ => ⟨_, M3, E, s3, e0⟩⟩
/-! ===== a loan ===== -/
theorem a_lent193 (h : St M g) {a b n r : Nat} (ha : a < g 0 0) (hb : b < g 0 0) (hab : a ≠ b) (hn1 : 1 ≤ n) (hn : n ≤ 99) (hr : r ≤ 50) : (¬ clG g a b n → Good M g (P_L_isLent_193 (nI a) (nI b) (nI n) (nI r) (nI 0) M)) ∧ (clG g a b n → Good M g (P_L_isLent_193 (nI a) (nI b) (nI n) (nI r) (nI 1) M)) := by
  have hs := h
  obtain ⟨h0, hi, hc, hk, hq⟩ := h
  have h8 := hi.1
  constructor
  · intro hno
    obtain ⟨M1, a1, s1⟩ := hs.no (w_lend3 h0 hi hk ha hb hab hn1 hn hr hno)
    obtain ⟨M2, a2, s2⟩ := s1.no (w_lend2 s1.1 hi s1.2.2.2.1 ha hb (u := 0) (r := r) (by omega) (by omega) (by omega))
    obtain ⟨M3, a3, s3⟩ := s2.no (w_lend2 s2.1 hi s2.2.2.2.1 ha hb (u := n) (r := 51) (by omega) (by omega) (by omega))
    refine ⟨g, M3, ?_, s3, Nat.le_refl _⟩
    unfold P_L_isLent_193
    simp only [q_0, q_1, q_2, q_3, q_4, q_5, q_6, q_7, q_8, q_10, q_11, q_12, q_13, q_14, q_20, q_26, q_30, q_40, q_50, q_51, q_56, q_60, q_90, q_99, q_100, q_19, ↓reduceIte]
    rw [bE2 a1, if_pos rfl, bE2 a2, if_pos rfl, bE2 a3, if_pos rfl]
  · intro hyes
    obtain ⟨m', p1, p2, p3⟩ := l_lends hq hi ha hb hab hn1 hn hr hyes
    have k0 : Hk (va_up M 22 m') := hk.of (lc_up_off _ _ (by omega))
    have hok := w_lend (M := va_up M 22 m') (g := g) (by rw [lc_up_off _ _ (by omega)]; exact h0) hi k0 ha hb hab hn1 hn hr hyes
    obtain ⟨M3, a3, s3, s4⟩ := St.ok hok (by rw [lc_up_at]; exact p2) p3 (Cn_lend hc ha hb hab hyes.2.2.2.1)
    refine ⟨_, M3, ?_, s3, by rw [lendS_0 _ _ _ _ _ (by omega) (by omega)]; exact Nat.le_refl _⟩
    unfold P_L_isLent_193
    simp only [q_0, q_1, q_2, q_3, q_4, q_5, q_6, q_7, q_8, q_10, q_11, q_12, q_13, q_14, q_20, q_26, q_30, q_40, q_50, q_51, q_56, q_60, q_90, q_99, q_100, q_19]
    rw [if_neg (show ¬ nI 1 = nI 0 by decide +kernel), bE2 p1]
    simp only [lc_let]
    rw [bE2 a3, if_pos rfl, s4, if_pos rfl]
theorem a_lent60 (h : St M g) {a b n w : Nat} (ha : a < g 0 0) (hb : b < g 0 0) (hn1 : 1 ≤ n) (hn : n ≤ 99) (t0 : Int32) (hw0 : 0 < w) (hw : w ≤ 51) : Good M g (P_L_isLent_60 (nI a) (nI b) (nI n) t0 (nI w) M) := by
  have hs := h
  obtain ⟨h0, hi, hc, hk, hq⟩ := h
  have h8 := hi.1
  have h6 := hq.2.2.2.2
  have h12 := hi.2.1
  obtain ⟨r, lr, er⟩ := l_low t0 hw0 (show w < 2 ^ 31 by omega)
  have nc := qm_nc hq
  have nl := qm_nl hq
  have la := hi.2.2.1 a ha
  have lb := hi.2.2.1 b hb
  have fa := qm_c4 hq ha
  have fb := qm_c4 hq hb
  have ca := qm_c1 hq ha
  have cb := qm_c1 hq hb
  have kb := qm_c0 hq hb
  have har := arr_le n a b
  unfold P_L_isLent_60
  rw [bE er]
  by_cases hab : a = b
  · obtain ⟨M1, a1, s1⟩ := hs.no (w_lend2 h0 hi hk ha hb (u := n) (r := r) (by omega) (by omega) (Or.inl hab))
    obtain ⟨M2, a2, s2⟩ := s1.no (w_lend1 s1.1 hi s1.2.2.2.1 (x := a) (y := g 0 0) (u := n) (r := 51) (by omega) (by omega) (by omega))
    have nc1 := qm_nc s1.2.2.2.2
    refine ⟨g, M2, ?_, s2, Nat.le_refl _⟩
    rw [if_pos (by rw [hab]), bE2 a1]
    simp only [q_0, q_1, q_2, q_3, q_4, q_5, q_6, q_7, q_8, q_10, q_11, q_12, q_13, q_14, q_20, q_26, q_30, q_40, q_50, q_51, q_56, q_60, q_90, q_99, q_100, q_19, nc1, ↓reduceIte]
    rw [bE2 a2, if_pos rfl]
  · obtain ⟨no, yes⟩ := a_lent193 hs ha hb hab hn1 hn (show r ≤ 50 by omega)
    have e1 := l_lost (x := n) (y := a) (z := b) (by omega) (by omega) (by omega)
    rw [if_neg (by rw [nI_eq (by omega) (by omega)]; exact hab)]
    simp only [q_0, q_1, q_2, q_3, q_4, q_5, q_6, q_7, q_8, q_10, q_11, q_12, q_13, q_14, q_20, q_26, q_30, q_40, q_50, q_51, q_56, q_60, q_90, q_99, q_100, q_19, P_L_isLent_192]
    by_cases h1 : g 4 a < 3
    · rw [if_pos h1] at fa
      by_cases h2 : g 4 b < 3
      · rw [if_pos h2] at fb
        simp (disch := omega) only [nI_ltI, nI_leI, nI_eq, q_okn, nI_clamp, nI_add, pk_mul, pk_sub, pk_div, q_nlt9, q_neg0, q_ne9, q_9ne, q_nle9, q_0, q_1, q_2, q_3, q_4, q_5, q_6, q_7, q_8, q_10, q_11, q_12, q_13, q_14, q_20, q_26, q_30, q_40, q_50, q_51, q_56, q_60, q_90, q_99, q_100, q_19, fa, fb, ca, cb, kb, q_ift, q_ifT, ↓reduceIte]
        by_cases h4 : g 2 a < n
        · rw [if_pos h4]
          exact no (fun q => by have := q.2.2.2.1; omega)
        · rw [if_neg h4, bE e1]
          simp (disch := omega) only [nI_ltI, nI_leI, nI_eq, q_okn, nI_clamp, nI_add, pk_mul, pk_sub, pk_div, q_nlt9, q_neg0, q_ne9, q_9ne, q_nle9, q_0, q_1, q_2, q_3, q_4, q_5, q_6, q_7, q_8, q_10, q_11, q_12, q_13, q_14, q_20, q_26, q_30, q_40, q_50, q_51, q_56, q_60, q_90, q_99, q_100, q_19, cb, kb, nl, q_ift, q_ifT, show g 2 b + n - (n - arr n a b) = g 2 b + arr n a b by omega]
          by_cases h5 : g 1 b < g 2 b + arr n a b
          · rw [if_pos h5]
            exact no (fun q => by have := q.2.2.2.2; omega)
          · rw [if_neg h5]
            by_cases h7 : 12 ≤ g 0 1
            · rw [if_pos h7]
              exact no (fun q => by have := q.2.2.1; omega)
            · rw [if_neg h7]
              exact yes ⟨h1, h2, by omega, by omega, by omega⟩
      · rw [if_neg h2] at fb
        simp (disch := omega) only [nI_ltI, nI_leI, nI_eq, q_okn, nI_clamp, nI_add, pk_mul, pk_sub, pk_div, q_nlt9, q_neg0, q_ne9, q_9ne, q_nle9, q_0, q_1, q_2, q_3, q_4, q_5, q_6, q_7, q_8, q_10, q_11, q_12, q_13, q_14, q_20, q_26, q_30, q_40, q_50, q_51, q_56, q_60, q_90, q_99, q_100, q_19, fa, fb, q_ift, q_ifT, ↓reduceIte, Nat.one_ne_zero]
        exact no (fun q => h2 q.2.1)
    · rw [if_neg h1] at fa
      simp (disch := omega) only [nI_ltI, nI_leI, nI_eq, q_okn, nI_clamp, nI_add, pk_mul, pk_sub, pk_div, q_nlt9, q_neg0, q_ne9, q_9ne, q_nle9, q_0, q_1, q_2, q_3, q_4, q_5, q_6, q_7, q_8, q_10, q_11, q_12, q_13, q_14, q_20, q_26, q_30, q_40, q_50, q_51, q_56, q_60, q_90, q_99, q_100, q_19, fa, q_ift, q_ifT, ↓reduceIte, Nat.one_ne_zero]
      exact no (fun q => h1 q.1)
theorem a_lent (h : St M g) (h1 : 1 ≤ g 0 0) (x : Int32) : Good M g (P_L_isLent x M) := by
  have h6 := h.2.2.2.2.2.2.2.2
  have nc := qm_nc h.2.2.2.2
  obtain ⟨a, la, ea⟩ := l_low x (n := g 0 0) (by omega) (by omega)
  obtain ⟨b, lb, eb⟩ := l_low (x >>> ((nI 3) &&& 31)) (n := g 0 0) (by omega) (by omega)
  obtain ⟨n, ln, en⟩ := l_low (x >>> ((nI 6) &&& 31)) (n := 40) (by omega) (by omega)
  obtain ⟨t, lt, et⟩ := l_low (x >>> ((nI 19) &&& 31)) (n := 2) (by omega) (by omega)
  have A := a_lent60 h la lb (n := 1 + n) (by omega) (by omega) (x >>> ((nI 12) &&& 31)) (w := 51) (by omega) (by omega)
  have B := a_lent60 h la lb (n := 1 + n) (by omega) (by omega) (x >>> ((nI 12) &&& 31)) (w := 12) (by omega) (by omega)
  unfold P_L_isLent
  simp only [q_0, q_1, q_2, q_3, q_4, q_5, q_6, q_7, q_8, q_10, q_11, q_12, q_13, q_14, q_20, q_26, q_30, q_40, q_50, q_51, q_56, q_60, q_90, q_99, q_100, q_19, nc]
  rw [bE ea, bE eb, bE en]
  simp only [lc_let, nI_add]
  rw [bE et]
  by_cases q : t = 0
  · rw [if_pos (by rw [q])]; exact A
  · rw [if_neg (by rw [nI_eq (by omega) (by omega)]; exact q)]; exact B
/-! ===== paying back ===== -/
theorem a_repaid102 (h : St M g) {i u : Nat} (hii : i < g 0 1) (hu1 : 1 ≤ u) (hu : u ≤ 99) : Good M g (P_L_isRepaid_102 (nI i) (nI (g 6 i)) (nI (g 5 i)) (nI (g 7 i)) (nI u) M) := by
  have hs := h
  obtain ⟨h0, hi, hc, hk, hq⟩ := h
  have h8 := hi.1
  have h6 := hq.2.2.2.2
  have h12 := hi.2.1
  have hl := hi.2.2.2 i hii
  have lx := hi.2.2.1 _ hl.1
  have ly := hi.2.2.1 _ hl.2.1
  have cf := qm_c1 hq hl.2.1
  have ct := qm_c1 hq hl.1
  have kt := qm_c0 hq hl.1
  have har := arr_le u (g 6 i) (g 5 i)
  have e1 := l_lost (x := u) (y := g 6 i) (z := g 5 i) (by omega) (by omega) (by omega)
  have no : ¬ cpG g i u → Good M g (P_L_isRepaid_159 (nI i) (nI (g 6 i)) (nI (g 5 i)) (nI (g 7 i)) (nI u) (nI 0) M) := by
    intro hno
    obtain ⟨M1, a1, s1⟩ := hs.no (w_repay3 h0 hi hk hii hu1 hu hno)
    obtain ⟨M2, a2, s2⟩ := s1.no (w_repay2 s1.1 hi s1.2.2.2.1 hii (u := 100) (by omega) (by omega))
    obtain ⟨M3, a3, s3⟩ := s2.no (w_repay1 s2.1 hi s2.2.2.2.1 (i := g 0 1) (u := 0) (by omega) (by omega))
    have nl2 := qm_nl s2.2.2.2.2
    refine ⟨g, M3, ?_, s3, Nat.le_refl _⟩
    unfold P_L_isRepaid_159
    simp only [q_0, q_1, q_2, q_3, q_4, q_5, q_6, q_7, q_8, q_10, q_11, q_12, q_13, q_14, q_20, q_26, q_30, q_40, q_50, q_51, q_56, q_60, q_90, q_99, q_100, q_19, ↓reduceIte]
    rw [bE2 a1, if_pos rfl, bE2 a2, if_pos rfl]
    simp only [nl2]
    rw [bE2 a3, if_pos rfl]
  have yes : cpG g i u → Good M g (P_L_isRepaid_159 (nI i) (nI (g 6 i)) (nI (g 5 i)) (nI (g 7 i)) (nI u) (nI 1) M) := by
    intro hyes
    have hu7 := hyes.1
    obtain ⟨g', c1, c2, c3, c4, c5⟩ := q_pay hi hc hii hu1 hu hyes
    obtain ⟨m1, m', d1, d2, d3, d4⟩ := c2 (M 22) hq
    have k0 : Hk (va_up M 22 m') := hk.of (lc_up_off _ _ (by omega))
    have hok := w_repay (M := va_up M 22 m') (g := g) (by rw [lc_up_off _ _ (by omega)]; exact h0) hi k0 hii hu1 hu hyes c1
    obtain ⟨M3, a3, s3, s4⟩ := St.ok hok (by rw [lc_up_at]; exact d4) c3 c4
    refine ⟨_, M3, ?_, s3, by rw [c5]; exact Nat.le_refl _⟩
    unfold P_L_isRepaid_159
    simp only [q_0, q_1, q_2, q_3, q_4, q_5, q_6, q_7, q_8, q_10, q_11, q_12, q_13, q_14, q_20, q_26, q_30, q_40, q_50, q_51, q_56, q_60, q_90, q_99, q_100, q_19]
    rw [if_neg (show ¬ nI 1 = nI 0 by decide +kernel), bE2 d1]
    simp (disch := omega) only [nI_ltI, nI_leI, nI_eq, q_okn, nI_clamp, nI_add, pk_mul, pk_sub, pk_div, q_nlt9, q_neg0, q_ne9, q_9ne, q_nle9, q_0, q_1, q_2, q_3, q_4, q_5, q_6, q_7, q_8, q_10, q_11, q_12, q_13, q_14, q_20, q_26, q_30, q_40, q_50, q_51, q_56, q_60, q_90, q_99, q_100, q_19, lc_let, lc_up_at, lc_up_up, q_ift, q_ifT, d2]
    rw [bE d3, bE2 a3, if_pos rfl, s4, if_pos rfl]
  unfold P_L_isRepaid_102
  simp only [q_0, q_1, q_2, q_3, q_4, q_5, q_6, q_7, q_8, q_10, q_11, q_12, q_13, q_14, q_20, q_26, q_30, q_40, q_50, q_51, q_56, q_60, q_90, q_99, q_100, q_19, P_L_isRepaid_158]
  simp (disch := omega) only [nI_ltI, nI_leI, nI_eq, q_okn, nI_clamp, nI_add, pk_mul, pk_sub, pk_div, q_nlt9, q_neg0, q_ne9, q_9ne, q_nle9, q_0, q_1, q_2, q_3, q_4, q_5, q_6, q_7, q_8, q_10, q_11, q_12, q_13, q_14, q_20, q_26, q_30, q_40, q_50, q_51, q_56, q_60, q_90, q_99, q_100, q_19, cf, q_ift, q_ifT]
  by_cases q1 : g 7 i < u
  · rw [if_pos q1]
    exact no (fun q => by have := q.1; omega)
  · rw [if_neg q1]
    by_cases q2 : g 2 (g 6 i) < u
    · rw [if_pos q2]
      exact no (fun q => by have := q.2.1; omega)
    · rw [if_neg q2, bE e1]
      simp (disch := omega) only [nI_ltI, nI_leI, nI_eq, q_okn, nI_clamp, nI_add, pk_mul, pk_sub, pk_div, q_nlt9, q_neg0, q_ne9, q_9ne, q_nle9, q_0, q_1, q_2, q_3, q_4, q_5, q_6, q_7, q_8, q_10, q_11, q_12, q_13, q_14, q_20, q_26, q_30, q_40, q_50, q_51, q_56, q_60, q_90, q_99, q_100, q_19, ct, kt, q_ift, q_ifT, show g 2 (g 5 i) + u - (u - arr u (g 6 i) (g 5 i)) = g 2 (g 5 i) + arr u (g 6 i) (g 5 i) by omega]
      by_cases q3 : g 1 (g 5 i) < g 2 (g 5 i) + arr u (g 6 i) (g 5 i)
      · rw [if_pos q3]
        exact no (fun q => by have := q.2.2; omega)
      · rw [if_neg q3]
        exact yes ⟨by omega, by omega, by omega⟩
theorem a_repaid (h : St M g) (x : Int32) : Good M g (P_L_isRepaid x M) := by
  have hs := h
  obtain ⟨h0, hi, hc, hk, hq⟩ := h
  have h12 := hi.2.1
  have nl := qm_nl hq
  unfold P_L_isRepaid
  simp only [q_0, q_1, q_2, q_3, q_4, q_5, q_6, q_7, q_8, q_10, q_11, q_12, q_13, q_14, q_20, q_26, q_30, q_40, q_50, q_51, q_56, q_60, q_90, q_99, q_100, q_19, nl]
  by_cases q0 : g 0 1 = 0
  · obtain ⟨M1, a1, s1⟩ := hs.no (w_repay1 h0 hi hk (i := 0) (u := 1) (by omega) (by omega))
    refine ⟨g, M1, ?_, s1, Nat.le_refl _⟩
    rw [if_pos (by rw [q0]), bE2 a1, if_pos rfl]
  · rw [if_neg (by rw [nI_eq (by omega) (by omega)]; exact q0)]
    obtain ⟨i, li, ei⟩ := l_low x (n := g 0 1) (by omega) (by omega)
    obtain ⟨t, lt, et⟩ := l_low (x >>> ((nI 4) &&& 31)) (n := 3) (by omega) (by omega)
    obtain ⟨n, ln, en⟩ := l_low (x >>> ((nI 6) &&& 31)) (n := 30) (by omega) (by omega)
    have hl := hi.2.2.2 i li
    have b0 := qm_l0 hq li
    have b1 := qm_l1 hq li
    have b2 := qm_l2 hq li
    rw [bE ei]
    simp (disch := omega) only [nI_ltI, nI_leI, nI_eq, q_okn, nI_clamp, nI_add, pk_mul, pk_sub, pk_div, q_nlt9, q_neg0, q_ne9, q_9ne, q_nle9, q_0, q_1, q_2, q_3, q_4, q_5, q_6, q_7, q_8, q_10, q_11, q_12, q_13, q_14, q_20, q_26, q_30, q_40, q_50, q_51, q_56, q_60, q_90, q_99, q_100, q_19, b0, b1, b2, q_ift, q_ifT, lc_let]
    rw [bE et]
    by_cases q1 : t = 0
    · rw [if_pos (by rw [q1])]
      by_cases q2 : 100 ≤ g 7 i
      · rw [if_pos q2]
        exact a_repaid102 hs li (u := 99) (by omega) (by omega)
      · rw [if_neg q2]
        exact a_repaid102 hs li (u := g 7 i) (by omega) (by omega)
    · rw [if_neg (by rw [nI_eq (by omega) (by omega)]; exact q1), bE en]
      simp only [nI_add]
      exact a_repaid102 hs li (u := 1 + n) (by omega) (by omega)
/-! ===== charging ===== -/
theorem a_charged34 (h : St M g) {u : Nat} (hu1 : 1 ≤ u) (hu : u ≤ 99) : Good M g (P_L_isCharged_34 lc_FU (nI u) (nI 0) (nI 0) M) := by
  obtain ⟨h0, hi, hc, hk, hq⟩ := h
  have h8 := hi.1
  obtain ⟨r, g1, m1, z1, z2, z3, z4, z5, z6, z7⟩ := l_fill hu (g 0 0) 0 0 g (M 22) lc_FU hq hi (by omega) (by unfold Cn at hc; omega) (by omega) (q_FUn (by omega))
  have w := z2 M lc_FU rfl (q_FUn (by omega))
  rw [w, P_L_isCharged_34]
  have nc1 := qm_nc z3
  have ht1 := qm_ht z3
  rw [z6] at nc1
  have r1 := QM_a5 z3 (g1 0 5 + r)
  obtain ⟨m', hm'⟩ : ∃ m', m' = lc_ss m1 0 5 (nI (g1 0 5 + r)) := ⟨_, rfl⟩
  rw [← hm'] at r1
  have k0 : Hk (va_up M 22 m') := hk.of (lc_up_off _ _ (by omega))
  have hok := w_charge (M := va_up M 22 m') (g := g) (by rw [lc_up_off _ _ (by omega)]; exact h0) k0 hu1 hu z1
  obtain ⟨M1, a1, s1, s1'⟩ := St.ok hok (by rw [lc_up_at]; exact r1) (Iv_a z4 (by omega) _) (by
    unfold Cn
    simp (disch := omega) only [gs_r, gs_i, gs_at]
    omega)
  obtain ⟨M2, a2, s2⟩ := s1.no (w_charge1 s1.2.2.2.1 (u := 0) (by omega) (by omega))
  obtain ⟨M3, a3, s3⟩ := s2.no (w_charge1 s2.2.2.2.1 (u := 100) (by omega) (by omega))
  refine ⟨_, M3, ?_, s3, by rw [gs_i _ _ _ (by omega), z6]; exact Nat.le_refl _⟩
  simp only [q_0, q_1, q_2, q_3, q_4, q_5, q_6, q_7, q_8, q_10, q_11, q_12, q_13, q_14, q_20, q_26, q_30, q_40, q_50, q_51, q_56, q_60, q_90, q_99, q_100, q_19]
  simp (disch := omega) only [nI_ltI, nI_leI, nI_eq, q_okn, nI_clamp, nI_add, pk_mul, pk_sub, pk_div, q_nlt9, q_neg0, q_ne9, q_9ne, q_nle9, q_0, q_1, q_2, q_3, q_4, q_5, q_6, q_7, q_8, q_10, q_11, q_12, q_13, q_14, q_20, q_26, q_30, q_40, q_50, q_51, q_56, q_60, q_90, q_99, q_100, q_19, lc_up_at, lc_up_up, nc1, ht1, Nat.le_refl, ↓reduceIte, lc_let]
  rw [← hm', bE2 a1, if_pos rfl, s1', if_pos rfl, bE2 a2, if_pos rfl, bE2 a3, if_pos rfl]
theorem a_charged (h : St M g) (x : Int32) : Good M g (P_L_isCharged x M) := by
  obtain ⟨t, lt, et⟩ := l_low (x >>> ((nI 8) &&& 31)) (n := 3) (by omega) (by omega)
  obtain ⟨a, la, ea⟩ := l_low x (n := 99) (by omega) (by omega)
  obtain ⟨b, lb, eb⟩ := l_low x (n := 20) (by omega) (by omega)
  unfold P_L_isCharged P_L_isCharged_22
  simp only [q_0, q_1, q_2, q_3, q_4, q_5, q_6, q_7, q_8, q_10, q_11, q_12, q_13, q_14, q_20, q_26, q_30, q_40, q_50, q_51, q_56, q_60, q_90, q_99, q_100, q_19]
  rw [bE et]
  by_cases q : t = 0
  · rw [if_pos (by rw [q]), bE ea]
    simp only [lc_let, nI_add]
    exact a_charged34 h (u := 1 + a) (by omega) (by omega)
  · rw [if_neg (by rw [nI_eq (by omega) (by omega)]; exact q), bE eb]
    simp only [lc_let, nI_add]
    exact a_charged34 h (u := 1 + b) (by omega) (by omega)
/-! ===== rounds ===== -/
theorem a_passed (h : St M g) {N : Nat} (hN1 : 1 ≤ N) (hN : N ≤ 50) : Good M g (P_L_isPassed (nI N) M) := by
  obtain ⟨h0, hi, hc, hk, hq⟩ := h
  obtain ⟨r, g', m', z1, z2, z3, z4, z5, z6⟩ := l_rounds (N := N) (by omega) N 0 0 g (M 22) lc_FU hq hi hc (by omega) (q_FUn (by omega))
  obtain ⟨M', w1, w2⟩ := z2 M lc_FU rfl (q_FUn (by omega))
  subst w2
  have k0 : Hk (va_up M 22 m') := hk.of (lc_up_off _ _ (by omega))
  have hok := w_pass (M := va_up M 22 m') (g := g) (by rw [lc_up_off _ _ (by omega)]; exact h0) k0 hN1 hN (r := r) (g' := g') z1
  obtain ⟨M1, a1, s1, s1'⟩ := St.ok hok (by rw [lc_up_at]; exact z3) z4 z5
  obtain ⟨M2, a2, s2⟩ := s1.no (w_pass1 s1.2.2.2.1 (u := 51) (by omega) (by omega))
  refine ⟨g', M2, ?_, s2, by rw [z6]; exact Nat.le_refl _⟩
  have e : P_L_isPassed (nI N) M = P_L_isPassed_6 lc_FU (nI N) (nI 0) (nI 0) M := rfl
  rw [e, w1, P_L_isPassed_6, if_pos (by rw [nI_leI (by omega) (by omega)]; exact Nat.le_refl _), bE2 a1]
  simp only [q_0, q_1, q_2, q_3, q_4, q_5, q_6, q_7, q_8, q_10, q_11, q_12, q_13, q_14, q_20, q_26, q_30, q_40, q_50, q_51, q_56, q_60, q_90, q_99, q_100, q_19, ↓reduceIte]
  rw [s1', if_pos rfl, bE2 a2, if_pos rfl]
/-! ===== a leak ===== -/
theorem a_leak (h : St M g) (h1 : 1 ≤ g 0 0) (K : Int32 → lc_MM → Option Int32) (x9 x : Int32) : ∃ g' M', P_L_law_300 K x9 x M = P_L_law_413 K x9 (nI 1) M' ∧ St M' g' ∧ g 0 0 ≤ g' 0 0 := by
  obtain ⟨h0, hi, hc, hk, hq⟩ := h
  have h6 := hq.2.2.2.2
  have h8 := hi.1
  have nc := qm_nc hq
  obtain ⟨c, lc, ec⟩ := l_low x (n := g 0 0) (by omega) (by omega)
  obtain ⟨k, lk, ek⟩ := l_low (x >>> ((nI 4) &&& 31)) (n := 4) (by omega) (by omega)
  have c2 := qm_c2 hq lc
  have hcl := hi.2.2.1 c lc
  have r1 := QM_c2 hq lc k
  obtain ⟨m', hm'⟩ : ∃ m', m' = lc_ss (M 22) 1 (5 * c + 2) (nI k) := ⟨_, rfl⟩
  have em : m' 1 (5 * c + 2) = nI k := by rw [hm', ss_eq]
  rw [← hm'] at r1
  have k0 : Hk (va_up M 22 m') := hk.of (lc_up_off _ _ (by omega))
  have hok := w_leak (M := va_up M 22 m') (g := g) (by rw [lc_up_off _ _ (by omega)]; exact h0) hi k0 lc (show k ≤ 3 by omega)
  obtain ⟨M1, a1, s1, s1'⟩ := St.ok hok (by rw [lc_up_at]; exact r1) (Iv_c2 hi lc (by omega)) (by unfold Cn at hc ⊢; simpa (disch := omega) only [gs_r] using hc)
  have e00 : gs g 3 c k 0 0 = g 0 0 := by rw [gs_r _ _ _ (by omega)]
  obtain ⟨M2, a2, s2⟩ := s1.no (w_leak2 s1.1 s1.2.1 s1.2.2.2.1 (c := c) (k := 4) (by rw [e00]; exact lc) (by omega) (by omega))
  obtain ⟨M3, a3, s3⟩ := s2.no (w_leak1 s2.1 s2.2.1 s2.2.2.2.1 (c := g 0 0) (k := 4) (by omega) (by rw [e00]; omega))
  have nc2 := qm_nc s2.2.2.2.2
  rw [e00] at nc2
  refine ⟨_, M3, ?_, s3, by rw [e00]; exact Nat.le_refl _⟩
  unfold P_L_law_300
  simp only [q_0, q_1, q_2, q_3, q_4, q_5, q_6, q_7, q_8, q_10, q_11, q_12, q_13, q_14, q_20, q_26, q_30, q_40, q_50, q_51, q_56, q_60, q_90, q_99, q_100, q_19, nc]
  rw [bE ec]
  simp (disch := omega) only [nI_ltI, nI_leI, nI_eq, q_okn, nI_clamp, nI_add, pk_mul, pk_sub, pk_div, q_nlt9, q_neg0, q_ne9, q_9ne, q_nle9, q_0, q_1, q_2, q_3, q_4, q_5, q_6, q_7, q_8, q_10, q_11, q_12, q_13, q_14, q_20, q_26, q_30, q_40, q_50, q_51, q_56, q_60, q_90, q_99, q_100, q_19, c2, q_ift, q_ifT, lc_let]
  rw [bE ek]
  simp (disch := omega) only [nI_ltI, nI_leI, nI_eq, q_okn, nI_clamp, nI_add, pk_mul, pk_sub, pk_div, q_nlt9, q_neg0, q_ne9, q_9ne, q_nle9, q_0, q_1, q_2, q_3, q_4, q_5, q_6, q_7, q_8, q_10, q_11, q_12, q_13, q_14, q_20, q_26, q_30, q_40, q_50, q_51, q_56, q_60, q_90, q_99, q_100, q_19, q_ift, q_ifT, lc_let, lc_up_at, ← hm', em]
  rw [bE2 a1, if_pos rfl, s1', if_pos rfl, bE2 a2, if_pos rfl]
  simp only [nc2]
  rw [bE2 a3, if_pos rfl]
