/-! ===== the pure claim: a cell goes bankrupt ===== -/
variable {e : Nat} {d : Option Int32} {m : lc_St} {g : Nat → Nat → Nat}
theorem gs_gs (g : Nat → Nat → Nat) (r i v w : Nat) : gs (gs g r i v) r i w = gs g r i w := by
  funext a b
  by_cases h : a = r
  · subst h; rw [gs_if, gs_if, gs_if]; split <;> rfl
  · rw [gs_r _ _ _ h, gs_r _ _ _ h, gs_r _ _ _ h]
theorem gs_swr (g : Nat → Nat → Nat) {r r' : Nat} (i v i' v' : Nat) (h : r ≠ r') : gs (gs g r i v) r' i' v' = gs (gs g r' i' v') r i v := by
  funext a b
  by_cases h1 : a = r
  · subst h1; rw [gs_r _ _ _ h, gs_if, gs_if, gs_r _ _ _ h]
  · by_cases h2 : a = r'
    · subst h2; rw [gs_r _ _ _ h1, gs_if, gs_if, gs_r _ _ _ h1]
    · rw [gs_r _ _ _ h2, gs_r _ _ _ h1, gs_r _ _ _ h1, gs_r _ _ _ h2]
theorem gs_swi (g : Nat → Nat → Nat) (r : Nat) {i i' : Nat} (v v' : Nat) (h : i ≠ i') : gs (gs g r i v) r i' v' = gs (gs g r i' v') r i v := by
  funext a b
  by_cases h1 : a = r
  · subst h1
    by_cases h2 : b = i
    · subst h2; rw [gs_i _ _ _ h, gs_at, gs_at]
    · by_cases h3 : b = i'
      · subst h3; rw [gs_at, gs_i _ _ _ h2, gs_at]
      · rw [gs_i _ _ _ h3, gs_i _ _ _ h2, gs_i _ _ _ h2, gs_i _ _ _ h3]
  · rw [gs_r _ _ _ h1, gs_r _ _ _ h1, gs_r _ _ _ h1, gs_r _ _ _ h1]
theorem ow_cong {g g' : Nat → Nat → Nat} (f c : Nat) (h : g f = g' f) (h7 : g 7 = g' 7) : ∀ n, ow g f c n = ow g' f c n
  | 0 => rfl
  | n + 1 => by
    show ow g f c n + _ = ow g' f c n + _
    rw [ow_cong f c h h7 n, h, h7]
theorem ow_mono (g : Nat → Nat → Nat) (f c : Nat) {a : Nat} : ∀ {b}, a ≤ b → ow g f c a ≤ ow g f c b
  | 0, h => by rw [Nat.le_zero.mp h]; exact Nat.le_refl _
  | b + 1, h => by
    by_cases q : a = b + 1
    · rw [q]; exact Nat.le_refl _
    · have := ow_mono g f c (a := a) (b := b) (by omega)
      show ow g f c a ≤ ow g f c b + _
      omega
theorem sh_arith {q r T s o w : Nat} (hT : 0 < T) (hr : r ≤ q) (h1 : (q - r) * T ≤ q * s) (hw : w = q * o / T) (h2 : s + o ≤ T) : w ≤ r ∧ (q - (r - w)) * T ≤ q * (s + o) := by
  have hwT : w * T ≤ q * o := by rw [hw]; exact Nat.div_mul_le_self _ _
  have h3 : (q - r + w) * T ≤ q * (s + o) := by
    rw [Nat.add_mul, Nat.mul_add]; omega
  have h4 : q * (s + o) ≤ q * T := Nat.mul_le_mul_left _ h2
  have h5 : q - r + w ≤ q := Nat.le_of_mul_le_mul_right (Nat.le_trans h3 h4) hT
  have h6 : w ≤ r := by omega
  refine ⟨h6, ?_⟩
  rw [show q - (r - w) = q - r + w by omega]
  exact h3
theorem l_share {c q0 T : Nat} : ∀ k i (g : Nat → Nat → Nat) (m : lc_St) n1 n2, RM c d m (gs g 2 c q0) → Iv g → c < g 0 0 → q0 ≤ g 1 c → g 2 c ≤ q0 → T = ow g 6 c (g 0 1) → (q0 - g 2 c) * T ≤ q0 * ow g 6 c i → m 1 (7 + 5 * c + 4) = nI 0 → g 4 c = 3 → i + k = g 0 1 → k < n1 → k < n2 → ∃ g' m', P_X0_shareOut_24 n1 (nI c) (nI q0) (nI T) (nI i) (nB g) = some (nB g') ∧ P_X4_breaks_20 n2 (nI c) (nI q0) (nI T) (nI (g 2 c)) (nI i) m = P_X4_breaks_176 lc_FU (nI c) (nI (g' 0 1) - nI 1) m' ∧ RM 8 d m' g' ∧ Iv g' ∧ Fr m m' ∧ g' 4 = g 4 ∧ g' 0 0 = g 0 0 ∧ m' 7 = m 7 := by
  intro k
  induction k with
  | zero =>
    intro i g m n1 n2 hr hi hc hq hrq hT hsum hf h4 hik h1 h2
    have h8 := hi.1
    have h12 := hi.2.1
    have hcl := hi.2.2.1 c hc
    obtain ⟨n1, rfl⟩ : ∃ q, n1 = q + 1 := ⟨n1 - 1, by omega⟩; obtain ⟨n2, rfl⟩ : ∃ q, n2 = q + 1 := ⟨n2 - 1, by omega⟩
    have hle : g 0 1 ≤ i := by omega
    have nl : m 1 2 = nI (g 0 1) := by rw [rm_nl hr, gs_r _ _ _ (by omega)]
    have ha := x0_lose h8 hc (Nat.le_refl (g 2 c))
    have h5 : m 1 5 = nI (g 0 5) := by rw [hr.1.2.2.2.2.2.1, gs_r _ _ _ (by omega)]
    have hq0 : m 1 (7 + 5 * c + 1) = nI q0 := by rw [(hr.2.1 c (by rw [gs_r _ _ _ (by omega)]; exact hc)).2.1, gs_at]
    have r1 := RM_c1 (RM_a5 hr (g 0 5 + g 2 c)) (show c < 8 by omega) 0
    rw [gs_swr _ _ _ _ _ (show (0 : Nat) ≠ 2 by omega), gs_gs] at r1
    have eS : gs (gs g 2 c 0) 0 5 (g 0 5 + g 2 c) = loS g c (g 2 c) := by unfold loS; rw [Nat.sub_self]
    rw [eS] at r1
    have r2 := RM_flag r1 (by omega) (by rw [loS_r _ _ _ (by omega) (by omega)]; exact h4)
    refine ⟨_, _, ?_, ?_, r2, Iv_lo hi hc _, (((Fr.rf m).s1 _ _).s1 _ _).s1 _ _, by rw [loS_r _ _ _ (by omega) (by omega)], by rw [loS_0 _ _ _ (by omega)], by rw [ss_off _ _ _ (by omega), ss_off _ _ _ (by omega), ss_off _ _ _ (by omega)]⟩
    · rw [P_X0_shareOut_24]
      simp (disch := omega) only [nB_at, nI_ltI, nI_leI, nI_eq, q_okn, nI_clamp, nI_add, pk_mul, pk_sub, pk_div, q_nlt9, q_neg0, q_ne9, q_9ne, q_nle9, hle, ↓reduceIte]
      rw [bE (x0_charge hi hc), bE ha]
    · rw [P_X4_breaks_20]
      simp only [q_0, q_1, q_2, q_3, q_4, q_5, q_6, q_7, q_8, q_10, q_12, q_14, q_20, q_47, q_50, q_99, q_100, q_107, q_120, q_792]
      simp (disch := omega) only [nl, h5, nI_ltI, nI_leI, nI_eq, q_okn, nI_clamp, nI_add, pk_mul, pk_sub, pk_div, q_nlt9, q_neg0, q_ne9, q_9ne, q_nle9, hle, ↓reduceIte, lc_let]
      rw [bE (x4_more _ (show c < 8 by omega) (show 1 < 5 by omega)), ss_ne _ _ _ (show 7 + 5 * c + 1 ≠ 5 by omega), hq0, q_neg (Nat.le_refl _), Nat.sub_self, bE (x4_more _ (show c < 8 by omega) (show 4 < 5 by omega)), ss_ne _ _ _ (show 7 + 5 * c + 4 ≠ 7 + 5 * c + 1 by omega), ss_ne _ _ _ (show 7 + 5 * c + 4 ≠ 5 by omega), hf]
      rw [ss_ne _ _ _ (show 2 ≠ 7 + 5 * c + 4 by omega), ss_ne _ _ _ (show 2 ≠ 7 + 5 * c + 1 by omega), ss_ne _ _ _ (show 2 ≠ 5 by omega), nl, loS_0 _ _ _ (show 1 ≠ 5 by omega)]
      rfl
  | succ k ih =>
    intro i g m n1 n2 hr hi hc hq hrq hT hsum hf h4 hik h1 h2
    have h8 := hi.1
    have h12 := hi.2.1
    have hcl := hi.2.2.1 c hc
    have hiG := Iv_c1 hi hc hq
    obtain ⟨n1, rfl⟩ : ∃ q, n1 = q + 1 := ⟨n1 - 1, by omega⟩; obtain ⟨n2, rfl⟩ : ∃ q, n2 = q + 1 := ⟨n2 - 1, by omega⟩
    have hlt : i < g 0 1 := by omega
    have hl := hi.2.2.2 i hlt
    have hltG : i < gs g 2 c q0 0 1 := by rw [gs_r _ _ _ (by omega)]; exact hlt
    have nl : m 1 2 = nI (g 0 1) := by rw [rm_nl hr, gs_r _ _ _ (by omega)]
    have o1 := x4_ol1 hr hiG hltG
    have o0 := x4_ol0 hr hiG hltG
    have o2 := x4_ol2 hr hiG hltG
    rw [gs_r _ _ _ (by omega)] at o0 o1 o2
    by_cases hm : g 6 i = c
    · have hb := hl.1
      have hb8 : g 5 i < 8 := by omega
      have hbc : g 5 i ≠ c := by omega
      have hbl := hi.2.2.1 _ hb
      have hTi : ow g 6 c i + g 7 i ≤ T := by
        have := ow_mono g 6 c (a := i + 1) (b := g 0 1) (by omega)
        rw [hT]
        rw [show ow g 6 c (i + 1) = ow g 6 c i + (if g 6 i = c then g 7 i else 0) from rfl, if_pos hm] at this
        exact this
      have hT99 := ow_le hi 6 c (g 0 1) (Nat.le_refl _)
      have hmul : q0 * g 7 i ≤ 99 * 99 := Nat.mul_le_mul (by omega) (by omega)
      obtain ⟨w, hw⟩ : ∃ w, w = q0 * g 7 i / T := ⟨_, rfl⟩
      obtain ⟨hw1, hw2⟩ := sh_arith (by omega) hrq hsum hw hTi
      have c0 := x4_of0 hr hiG (c := g 5 i) (by rw [gs_r _ _ _ (by omega)]; exact hb)
      have c1 := x4_of1 hr hiG (c := g 5 i) (by rw [gs_r _ _ _ (by omega)]; exact hb)
      rw [gs_r _ _ _ (by omega)] at c0
      rw [gs_i _ _ _ hbc] at c1
      have p1 : m 1 (7 + 5 * g 5 i + 1) = nI (g 2 (g 5 i)) := by rw [(hr.2.1 (g 5 i) (by rw [gs_r _ _ _ (by omega)]; exact hb)).2.1, gs_i _ _ _ hbc]
      have h5 : m 1 5 = nI (g 0 5) := by rw [hr.1.2.2.2.2.2.1, gs_r _ _ _ (by omega)]
      -- what both do once the amount t that the lender gets is known
      have fin : ∀ t, t ≤ w → g 2 (g 5 i) + t ≤ g 1 (g 5 i) → ∃ g' m', P_X0_shareOut_24 n1 (nI c) (nI q0) (nI T) (nI (i + 1)) (nB (gs (gs (gs g 2 (g 5 i) (g 2 (g 5 i) + t)) 0 5 (g 0 5 + (w - t))) 2 c (g 2 c - w))) = some (nB g') ∧ P_X4_breaks_20 n2 (nI c) (nI q0) (nI T) (nI (g 2 c - w)) (nI (i + 1)) (lc_ss (lc_ss m 1 (7 + 5 * g 5 i + 1) (nI (g 2 (g 5 i) + t))) 1 5 (nI (g 0 5 + (w - t)))) = P_X4_breaks_176 lc_FU (nI c) (nI (g' 0 1) - nI 1) m' ∧ RM 8 d m' g' ∧ Iv g' ∧ Fr m m' ∧ g' 4 = g 4 ∧ g' 0 0 = g 0 0 ∧ m' 7 = m 7 := by
        intro t ht hcap
        have r1 := RM_a5 (RM_c1 hr hb8 (g 2 (g 5 i) + t)) (g 0 5 + (w - t))
        have eg : gs (gs (gs (gs g 2 c q0) 2 (g 5 i) (g 2 (g 5 i) + t)) 0 5 (g 0 5 + (w - t))) 2 c q0 = gs (gs (gs g 2 c q0) 2 (g 5 i) (g 2 (g 5 i) + t)) 0 5 (g 0 5 + (w - t)) := by
          rw [gs_swr _ _ _ _ _ (show (0 : Nat) ≠ 2 by omega), gs_swi _ _ _ _ hbc, gs_gs]
        have eg2 : gs (gs (gs (gs g 2 (g 5 i) (g 2 (g 5 i) + t)) 0 5 (g 0 5 + (w - t))) 2 c (g 2 c - w)) 2 c q0 = gs (gs (gs g 2 c q0) 2 (g 5 i) (g 2 (g 5 i) + t)) 0 5 (g 0 5 + (w - t)) := by
          rw [gs_gs, gs_swr _ _ _ _ _ (show (0 : Nat) ≠ 2 by omega), gs_swi _ _ _ _ hbc]
        rw [← eg2] at r1
        have i1 : Iv (gs (gs (gs g 2 (g 5 i) (g 2 (g 5 i) + t)) 0 5 (g 0 5 + (w - t))) 2 c (g 2 c - w)) := Iv_c1 (Iv_a (Iv_c1 hi hb hcap) (by omega) _) (by simpa (disch := omega) only [gs_i, gs_r] using hc) (by simp (disch := omega) only [gs_r]; omega)
        have G : ∀ r, r ≠ 0 → r ≠ 2 → gs (gs (gs g 2 (g 5 i) (g 2 (g 5 i) + t)) 0 5 (g 0 5 + (w - t))) 2 c (g 2 c - w) r = g r := fun r h0 h2 => by rw [gs_r _ _ _ h2, gs_r _ _ _ h0, gs_r _ _ _ h2]
        have G0 : ∀ k, k ≠ 5 → gs (gs (gs g 2 (g 5 i) (g 2 (g 5 i) + t)) 0 5 (g 0 5 + (w - t))) 2 c (g 2 c - w) 0 k = g 0 k := fun k hk => by simp (disch := omega) only [gs_r, gs_i]
        have hS : ∀ n, ow (gs (gs (gs g 2 (g 5 i) (g 2 (g 5 i) + t)) 0 5 (g 0 5 + (w - t))) 2 c (g 2 c - w)) 6 c n = ow g 6 c n := ow_cong 6 c (G 6 (by omega) (by omega)) (G 7 (by omega) (by omega))
        obtain ⟨g', m', z1, z2, z3, z4, z5, z6, z7, z8⟩ := ih (i + 1) _ _ n1 n2 r1 i1 (by rw [G0 0 (by omega)]; exact hc) (by rw [G 1 (by omega) (by omega)]; exact hq) (by rw [gs_at]; omega) (by rw [hS, G0 1 (by omega)]; exact hT) (by
          rw [gs_at, hS]
          show _ ≤ q0 * (ow g 6 c i + (if g 6 i = c then g 7 i else 0))
          rw [if_pos hm]; exact hw2) (by rw [ss_ne _ _ _ (by omega), ss_ne _ _ _ (by omega)]; exact hf) (by rw [G 4 (by omega) (by omega)]; exact h4) (by rw [G0 1 (by omega)]; omega) (by omega) (by omega)
        rw [gs_at] at z2
        exact ⟨g', m', z1, z2, z3, z4, (((Fr.rf m).s1 _ _).s1 _ _).tr z5, by rw [z6, G 4 (by omega) (by omega)], by rw [z7, G0 0 (by omega)], by rw [z8, ss_off _ _ _ (by omega), ss_off _ _ _ (by omega)]⟩
      have hT0 : ¬ T = 0 := by omega
      have eroom := x0_room hi hb
      have ehas := x0_has8 h8 hb
      rw [P_X0_shareOut_24, P_X4_breaks_20]
      simp only [q_0, q_1, q_2, q_3, q_4, q_5, q_6, q_7, q_8, q_10, q_12, q_14, q_20, q_47, q_50, q_99, q_100, q_107, q_120, q_792]
      by_cases hA : g 1 (g 5 i) - g 2 (g 5 i) ≤ w
      · obtain ⟨g', m', z⟩ := fin (g 1 (g 5 i) - g 2 (g 5 i)) hA (by omega)
        refine ⟨g', m', ?_, ?_, z.2.2⟩
        · rw [← z.1]
          have emin : (if g 1 (g 5 i) - g 2 (g 5 i) < w then nI (g 1 (g 5 i) - g 2 (g 5 i)) else nI w) = nI (g 1 (g 5 i) - g 2 (g 5 i)) := by
            split
            · rfl
            · congr 1; omega
          simp (disch := omega) only [nI_ltI, nI_leI, nI_eq, q_okn, nI_clamp, nI_add, pk_mul, pk_sub, pk_div, q_nlt9, q_neg0, q_ne9, q_9ne, q_nle9, ↓bE ehas, ↓bE eroom, nB_at, Nat.not_le.mpr hlt, hm, ↓reduceIte, q_ift, q_ifT, lc_let, Nat.one_ne_zero, hT0, Nat.le_zero_eq, not_false_eq_true, ← hw, emin, nB_ss, gs_r, gs_i, gs_at, P_X0_shareOut_129, q_0, q_1, q_2, q_3, q_4, q_5, q_6, q_7, q_8, q_10, q_12, q_14, q_20, q_47, q_50, q_99, q_100, q_107, q_120, q_792]
        · rw [← z.2.1]
          simp (disch := omega) only [nI_ltI, nI_leI, nI_eq, q_okn, nI_clamp, nI_add, pk_mul, pk_sub, pk_div, q_nlt9, q_neg0, q_ne9, q_9ne, q_nle9, ↓bE o0, ↓bE o1, ↓bE o2, ↓bE c0, ↓bE c1, nl, Nat.not_le.mpr hlt, hm, ↓reduceIte, q_ift, q_ifT, lc_let, hT0, not_false_eq_true, ← hw, hA, P_X4_breaks_106, P_X4_breaks_132, P_X4_breaks_134, q_0, q_1, q_2, q_3, q_4, q_5, q_6, q_7, q_8, q_10, q_12, q_14, q_20, q_47, q_50, q_99, q_100, q_107, q_120, q_792, ↓bE (x4_more (m := m) (nI (g 1 (g 5 i) - g 2 (g 5 i))) hb8 (show 1 < 5 by omega)), p1, ss_ne, h5]
      · obtain ⟨g', m', z⟩ := fin w (Nat.le_refl _) (by omega)
        refine ⟨g', m', ?_, ?_, z.2.2⟩
        · rw [← z.1]
          simp (disch := omega) only [nI_ltI, nI_leI, nI_eq, q_okn, nI_clamp, nI_add, pk_mul, pk_sub, pk_div, q_nlt9, q_neg0, q_ne9, q_9ne, q_nle9, ↓bE ehas, ↓bE eroom, nB_at, Nat.not_le.mpr hlt, hm, ↓reduceIte, q_ift, q_ifT, lc_let, Nat.one_ne_zero, hT0, Nat.le_zero_eq, not_false_eq_true, ← hw, show ¬ g 1 (g 5 i) - g 2 (g 5 i) < w by omega, nB_ss, gs_r, gs_i, gs_at, P_X0_shareOut_129, q_0, q_1, q_2, q_3, q_4, q_5, q_6, q_7, q_8, q_10, q_12, q_14, q_20, q_47, q_50, q_99, q_100, q_107, q_120, q_792]
        · rw [← z.2.1]
          simp (disch := omega) only [nI_ltI, nI_leI, nI_eq, q_okn, nI_clamp, nI_add, pk_mul, pk_sub, pk_div, q_nlt9, q_neg0, q_ne9, q_9ne, q_nle9, ↓bE o0, ↓bE o1, ↓bE o2, ↓bE c0, ↓bE c1, nl, Nat.not_le.mpr hlt, hm, ↓reduceIte, q_ift, q_ifT, lc_let, hT0, not_false_eq_true, ← hw, hA, P_X4_breaks_106, P_X4_breaks_132, P_X4_breaks_134, q_0, q_1, q_2, q_3, q_4, q_5, q_6, q_7, q_8, q_10, q_12, q_14, q_20, q_47, q_50, q_99, q_100, q_107, q_120, q_792, ↓bE (x4_more (m := m) (nI w) hb8 (show 1 < 5 by omega)), p1, ss_ne, h5, Nat.sub_self]
    · obtain ⟨g', m', z1, z2⟩ := ih (i + 1) g m n1 n2 hr hi hc hq hrq hT (by
        show _ ≤ q0 * (ow g 6 c i + (if g 6 i = c then g 7 i else 0))
        rw [if_neg hm]; exact hsum) hf h4 (by omega) (by omega) (by omega)
      refine ⟨g', m', ?_, ?_, z2.2⟩
      · rw [P_X0_shareOut_24, ← z1]
        simp only [q_0, q_1, q_2, q_3, q_4, q_5, q_6, q_7, q_8, q_10, q_12, q_14, q_20, q_47, q_50, q_99, q_100, q_107, q_120, q_792]
        simp (disch := omega) only [nI_ltI, nI_leI, nI_eq, q_okn, nI_clamp, nI_add, pk_mul, pk_sub, pk_div, q_nlt9, q_neg0, q_ne9, q_9ne, q_nle9, nB_at, Nat.not_le.mpr hlt, hm, ↓reduceIte, q_ift, q_ifT, lc_let, P_X0_shareOut_129, q_0, q_1, q_2, q_3, q_4, q_5, q_6, q_7, q_8, q_10, q_12, q_14, q_20, q_47, q_50, q_99, q_100, q_107, q_120, q_792]
      · rw [P_X4_breaks_20, ← z2.1]
        simp only [q_0, q_1, q_2, q_3, q_4, q_5, q_6, q_7, q_8, q_10, q_12, q_14, q_20, q_47, q_50, q_99, q_100, q_107, q_120, q_792]
        simp (disch := omega) only [nI_ltI, nI_leI, nI_eq, q_okn, nI_clamp, nI_add, pk_mul, pk_sub, pk_div, q_nlt9, q_neg0, q_ne9, q_9ne, q_nle9, ↓bE o1, nl, Nat.not_le.mpr hlt, hm, ↓reduceIte, lc_let, P_X4_breaks_134, q_0, q_1, q_2, q_3, q_4, q_5, q_6, q_7, q_8, q_10, q_12, q_14, q_20, q_47, q_50, q_99, q_100, q_107, q_120, q_792]
