/-! ===== the pure claim: a loan is paid back ===== -/
variable {e : Nat} {m : lc_St} {g : Nat → Nat → Nat}
theorem q_pay (hi : Iv g) (hn : Cn g) {i u : Nat} (hii : i < g 0 1) (hu1 : 1 ≤ u) (hu : u ≤ 99) (h : cpG g i u) : ∃ g', P_X0_payBack (nI i) (nI u) (nB g) = some (nI (g 7 i - u), nB g') ∧ (∀ m, QM 8 m g → ∃ m1 m', P_L_goes (nI u) (nI (g 6 i)) (nI (g 5 i)) m = some (nI (arr u (g 6 i) (g 5 i)), m1) ∧ m1 2 (5 * i + 2) = nI (g 7 i) ∧ P_L_clears (lc_ss m1 2 (5 * i + 2) (nI (g 7 i - u))) = some m' ∧ QM 8 m' g') ∧ Iv g' ∧ Cn g' ∧ g' 0 0 = g 0 0 := by
  have h8 := hi.1
  have h12 := hi.2.1
  have hl := hi.2.2.2 i hii
  have hxl := hi.2.2.1 _ hl.1
  have hyl := hi.2.2.1 _ hl.2.1
  have hc := x0_canPay hi hii (show u ≤ 1000 by omega)
  rw [if_pos h] at hc
  have hL := x0_hasL hi (show i < 2 ^ 31 by omega)
  rw [if_pos hii] at hL
  have hu7 := h.1
  have c1 := x0_shuttle (g := g) (u := u) (x := g 6 i) (y := g 5 i) h8 hl.2.1 hl.1 (by omega) h.2.1 (by omega)
  have E : ∀ r k, r ≠ 2 → r ≠ 0 → shS g u (g 6 i) (g 5 i) r k = g r k := fun r k h2 h0 => by rw [shS_r _ _ _ _ h0 h2]
  have E1 : shS g u (g 6 i) (g 5 i) 0 1 = g 0 1 := shS_0 _ _ _ _ (by omega)
  have E0 : shS g u (g 6 i) (g 5 i) 0 0 = g 0 0 := shS_0 _ _ _ _ (by omega)
  have iS : Iv (shS g u (g 6 i) (g 5 i)) := by
    refine Iv_a (Iv_c1 (Iv_c1 hi hl.2.1 (by omega)) ?_ ?_) (by omega) _
    · simpa (disch := omega) only [gs_r] using hl.1
    · simp (disch := omega) only [gs_r]; have := h.2.2; omega
  have nS := Cn_sh hn (u := u) hl.2.1 hl.1 (fun z => hl.2.2.1 z.symm) h.2.1
  have C : P_X0_payBack (nI i) (nI u) (nB g) = (if g 7 i - u = 0 then lc_bd (P_X0_removeLoan (nI i) (nB (gs (shS g u (g 6 i) (g 5 i)) 7 i (g 7 i - u)))) (fun s3 => some (nI (g 7 i - u), s3)) else some (nI (g 7 i - u), nB (gs (shS g u (g 6 i) (g 5 i)) 7 i (g 7 i - u)))) := by
    unfold P_X0_payBack
    simp only [q_0, q_1, q_2, q_3, q_4, q_5, q_6, q_7, q_8, q_10, q_11, q_12, q_13, q_14, q_20, q_26, q_30, q_40, q_50, q_51, q_56, q_60, q_90, q_99, q_100, q_19]
    rw [bE hL]
    simp (disch := omega) only [nI_eq, Nat.one_ne_zero, ↓reduceIte]
    rw [bE hc]
    simp (disch := omega) only [nI_ltI, nI_leI, nI_eq, q_okn, nI_clamp, nI_add, pk_mul, pk_sub, pk_div, q_nlt9, q_neg0, q_ne9, q_9ne, q_nle9, Nat.one_ne_zero, ↓reduceIte, q_ift, nB_at]
    rw [bE2 c1]
    simp (disch := omega) only [nI_ltI, nI_leI, nI_eq, q_okn, nI_clamp, nI_add, pk_mul, pk_sub, pk_div, q_nlt9, q_neg0, q_ne9, q_9ne, q_nle9, Nat.one_ne_zero, ↓reduceIte, q_ift, nB_at, E, nB_ss, lc_let, gs_at]
  -- the law, for whatever the class makes of it
  obtain ⟨g1, hg1⟩ : ∃ g1, g1 = gs (shS g u (g 6 i) (g 5 i)) 7 i (g 7 i - u) := ⟨_, rfl⟩
  have G1 : g1 0 1 = g 0 1 := by rw [hg1, gs_r _ _ _ (by omega), E1]
  have G7 : ∀ j, j ≠ i → g1 7 j = g 7 j := fun j hj => by rw [hg1, gs_i _ _ _ hj, E 7 j (by omega) (by omega)]
  have G7i : g1 7 i = g 7 i - u := by rw [hg1, gs_at]
  obtain ⟨p, hp⟩ : ∃ p : Nat → Bool, p = fun j => decide (0 < g1 7 j) := ⟨_, rfl⟩
  have hpd : ∀ j, p j = true ↔ 0 < g1 7 j := fun j => by rw [hp]; simp
  have law : ∀ g', Fl p g1 g' → (∀ k, k ≤ 6 → k ≠ 1 → g' 0 k = g1 0 k) → (∀ r, 0 < r → r < 5 → g' r = g1 r) → ∀ m, QM 8 m g → ∃ m1 m', P_L_goes (nI u) (nI (g 6 i)) (nI (g 5 i)) m = some (nI (arr u (g 6 i) (g 5 i)), m1) ∧ m1 2 (5 * i + 2) = nI (g 7 i) ∧ P_L_clears (lc_ss m1 2 (5 * i + 2) (nI (g 7 i - u))) = some m' ∧ QM 8 m' g' := by
    intro g' hf h0 h1 m hr
    obtain ⟨s1, s2, -⟩ := l_goes (u := u) (x := g 6 i) (y := g 5 i) hr hi hl.2.1 hl.1 (fun z => hl.2.2.1 z.symm) h.2.1 (by have := h.2.2; omega)
    have r2 := QM_l2 s2 (i := i) (g 7 i - u)
    rw [← hg1] at r2
    have hlt2 : ∀ j, j < g1 0 1 → g1 7 j < 2 ^ 31 := fun j hj => by
      rw [G1] at hj
      have := hi.2.2.2 j hj
      by_cases q : j = i
      · subst q; rw [G7i]; omega
      · rw [G7 j q]; omega
    obtain ⟨m', z1, z2⟩ := l_clears r2 (by rw [G1]; exact h12) hlt2 (fun j _ => hpd j) hf h0 h1
    refine ⟨_, m', s1, ?_, z1, z2⟩
    unfold goM
    rw [ss_off _ _ _ (by omega), ss_off _ _ _ (by omega), ss_off _ _ _ (by omega), qm_l2 hr hii]
  have R : ∀ r, 0 < r → r < 5 → g1 r = shS g u (g 6 i) (g 5 i) r := fun r h0 h5 => by rw [hg1, gs_r _ _ _ (by omega)]
  have R0 : g1 0 = shS g u (g 6 i) (g 5 i) 0 := by rw [hg1, gs_r _ _ _ (by omega)]
  have R5 : ∀ r, r = 5 ∨ r = 6 ∨ r = 8 → g1 r = g r := fun r hr => by rw [hg1, gs_r _ _ _ (by omega), shS_r _ _ _ _ (by omega) (by omega)]
  have cells : ∀ c, c < g1 0 0 → 10 ≤ g1 1 c ∧ g1 1 c ≤ 99 ∧ g1 2 c ≤ g1 1 c ∧ g1 3 c ≤ 3 ∧ g1 4 c ≤ 3 := fun c hc => by
    rw [R0] at hc
    rw [R 1 (by omega) (by omega), R 2 (by omega) (by omega), R 3 (by omega) (by omega), R 4 (by omega) (by omega)]
    exact iS.2.2.1 c hc
  have g00 : g1 0 0 = g 0 0 := by rw [R0, E0]
  have loans : ∀ j, j < g1 0 1 → p j = true → g1 5 j < g1 0 0 ∧ g1 6 j < g1 0 0 ∧ g1 5 j ≠ g1 6 j ∧ 1 ≤ g1 7 j ∧ g1 7 j ≤ 99 ∧ g1 8 j ≤ 50 := fun j hj hpj => by
    rw [G1] at hj
    have := hi.2.2.2 j hj
    have h7 := (hpd j).mp hpj
    rw [R5 5 (by omega), R5 6 (by omega), R5 8 (by omega), g00]
    by_cases q : j = i
    · subst q; rw [G7i] at h7 ⊢; omega
    · rw [G7 j q]; omega
  have cn : ∀ g' : Nat → Nat → Nat, (∀ k, k ≤ 6 → k ≠ 1 → g' 0 k = g1 0 k) → g' 2 = g1 2 → Cn g' := fun g' h0 h2 => by
    unfold Cn at nS ⊢
    rw [h2, h0 0 (by omega) (by omega), h0 3 (by omega) (by omega), h0 4 (by omega) (by omega), h0 5 (by omega) (by omega), R 2 (by omega) (by omega), R0]
    exact nS
  rw [C, ← hg1]
  by_cases hz : g 7 i - u = 0
  · have hpi : ¬ p i = true := fun q => by have := (hpd i).mp q; omega
    have hpn : ∀ j, j < g1 0 1 → j ≠ i → p j = true := fun j hj hji => (hpd j).mpr (by
      rw [G1] at hj
      have := hi.2.2.2 j hj
      rw [G7 j hji]; omega)
    obtain ⟨g', p1, p2, p3, p4, p5⟩ := x0_rem (g := g1) (i := i) (by rw [g00]; exact h8) (by rw [G1]; exact h12) (by rw [G1]; exact hii)
    have hf : Fl p g1 g' := by
      refine ⟨?_, fun j hj hpj r h5 h9 => ?_⟩
      · rw [p2, kN_one p hpi _ hpn, if_neg (by rw [G1]; omega)]
      · have hji : j ≠ i := fun q => hpi (q ▸ hpj)
        rw [kN_one p hpi j (fun q hq => hpn q (by omega))]
        by_cases q : j ≤ i
        · rw [if_pos q, p5 r j h5 h9 (by rw [G1] at hj ⊢; omega), if_pos (by omega)]
        · rw [if_neg q, p5 r (j - 1) h5 h9 (by omega), if_neg (by omega), show j - 1 + 1 = j by omega]
    have h0 : ∀ k, k ≤ 6 → k ≠ 1 → g' 0 k = g1 0 k := fun k h1 h2 => p3 k h2 (by omega)
    rw [if_pos hz, p1]
    exact ⟨g', rfl, law g' hf h0 p4, Iv_fl hf (h0 0 (by omega) (by omega)) p4 (by rw [g00]; exact h8) (by rw [G1]; exact h12) cells loans, cn g' h0 (p4 2 (by omega) (by omega)), by rw [h0 0 (by omega) (by omega), g00]⟩
  · have hpa : ∀ j, j < g1 0 1 → p j = true := fun j hj => (hpd j).mpr (by
      rw [G1] at hj
      have := hi.2.2.2 j hj
      by_cases q : j = i
      · subst q; rw [G7i]; omega
      · rw [G7 j q]; omega)
    have hf : Fl p g1 g1 := ⟨(kN_all p _ hpa).symm, fun j hj _ r _ _ => by rw [kN_all p j (fun q hq => hpa q (by omega))]⟩
    rw [if_neg hz]
    exact ⟨g1, rfl, law g1 hf (fun _ _ _ => rfl) (fun _ _ _ => rfl), Iv_fl hf rfl (fun _ _ _ => rfl) (by rw [g00]; exact h8) (by rw [G1]; exact h12) cells loans, cn g1 (fun _ _ _ => rfl) rfl, g00⟩
