/-! ===== the pure claim: a bankrupt cell's shares ===== -/
variable {e : Nat} {m : lc_St} {g : Nat → Nat → Nat}
/-- the law's side of a battery in which c has q0 still, and the heat is h0 -/
def shG (g : Nat → Nat → Nat) (c q0 h0 : Nat) : Nat → Nat → Nat := gs (gs g 2 c q0) 0 5 h0
theorem shG_r (g : Nat → Nat → Nat) (c q0 h0 : Nat) {r : Nat} (h : r ≠ 0) (h2 : r ≠ 2) : shG g c q0 h0 r = g r := by
  unfold shG; rw [gs_r _ _ _ h, gs_r _ _ _ h2]
theorem shG_0 (g : Nat → Nat → Nat) (c q0 h0 : Nat) {k : Nat} (h : k ≠ 5) : shG g c q0 h0 0 k = g 0 k := by
  unfold shG; rw [gs_i _ _ _ h, gs_r _ _ _ (by omega)]
theorem shG_5 (g : Nat → Nat → Nat) (c q0 h0 : Nat) : shG g c q0 h0 0 5 = h0 := by unfold shG; rw [gs_at]
theorem shG_2 (g : Nat → Nat → Nat) (c q0 h0 : Nat) {x : Nat} (h : x ≠ c) : shG g c q0 h0 2 x = g 2 x := by
  unfold shG; rw [gs_r _ _ _ (by omega), gs_i _ _ _ h]
/-- one share: the lender b gets t of w -/
def s1G (g : Nat → Nat → Nat) (c b t w : Nat) : Nat → Nat → Nat := gs (gs (gs g 2 b (g 2 b + t)) 0 5 (g 0 5 + (w - t))) 2 c (g 2 c - w)
theorem s1G_sh (g : Nat → Nat → Nat) {c b : Nat} (t w q0 h0 : Nat) (hbc : b ≠ c) : shG (s1G g c b t w) c q0 h0 = gs (shG g c q0 h0) 2 b (g 2 b + t) := by
  unfold shG s1G
  rw [gs_gs, gs_swr _ _ _ _ _ (show (2 : Nat) ≠ 0 by omega), gs_gs]
  rw [gs_swr (gs g 2 c q0) _ _ _ _ (show (0 : Nat) ≠ 2 by omega), gs_swi _ _ _ _ (show c ≠ b from fun z => hbc z.symm), gs_swr _ _ _ _ _ (show (2 : Nat) ≠ 0 by omega)]
  rw [gs_swr (gs g 2 b (g 2 b + t)) c q0 5 h0 (show (2 : Nat) ≠ 0 by omega), gs_swr g b _ 5 h0 (show (2 : Nat) ≠ 0 by omega)]
theorem s1G_r (g : Nat → Nat → Nat) (c b t w : Nat) {r : Nat} (h : r ≠ 0) (h2 : r ≠ 2) : s1G g c b t w r = g r := by
  unfold s1G; rw [gs_r _ _ _ h2, gs_r _ _ _ h, gs_r _ _ _ h2]
theorem s1G_0 (g : Nat → Nat → Nat) (c b t w : Nat) {k : Nat} (h : k ≠ 5) : s1G g c b t w 0 k = g 0 k := by
  unfold s1G; simp (disch := omega) only [gs_r, gs_i]
theorem s1G_5 (g : Nat → Nat → Nat) (c b t w : Nat) : s1G g c b t w 0 5 = g 0 5 + (w - t) := by
  unfold s1G; simp (disch := omega) only [gs_r, gs_at]
theorem s1G_c (g : Nat → Nat → Nat) (c b t w : Nat) : s1G g c b t w 2 c = g 2 c - w := by unfold s1G; rw [gs_at]
theorem s1G_t (g : Nat → Nat → Nat) {c b t w n : Nat} (hc : c < n) (hb : b < n) (hbc : b ≠ c) (hw : w ≤ g 2 c) (ht : t ≤ w) : tn (s1G g c b t w 2) n + s1G g c b t w 0 5 = tn (g 2) n + g 0 5 := by
  have t1 := tn_gs g 2 b (g 2 b + t) hb
  have t2 := tn_gs (gs (gs g 2 b (g 2 b + t)) 0 5 (g 0 5 + (w - t))) 2 c (g 2 c - w) hc
  rw [gs_r _ _ _ (show (2 : Nat) ≠ 0 by omega), gs_i _ _ _ (show c ≠ b from fun z => hbc z.symm)] at t2
  rw [s1G_5]
  have e : s1G g c b t w 2 = gs (gs (gs g 2 b (g 2 b + t)) 0 5 (g 0 5 + (w - t))) 2 c (g 2 c - w) 2 := rfl
  rw [e]; omega
theorem l_share {c q0 T h0 : Nat} : ∀ k i (g : Nat → Nat → Nat) (m : lc_St) gv n1 n2, QM c m (shG g c q0 h0) → Iv g → c < g 0 0 → q0 ≤ g 1 c → g 2 c ≤ q0 → T = ow g 6 c (g 0 1) → (q0 - g 2 c) * T ≤ q0 * ow g 6 c i → g 0 5 + g 2 c + gv = h0 + q0 → h0 ≤ g 0 5 → i + k = g 0 1 → k < n1 → k < n2 → ∃ g' m' gv', P_X0_shareOut_24 n1 (nI c) (nI q0) (nI T) (nI i) (nB g) = some (nB g') ∧ P_L_breaks_24 n2 (nI c) (nI q0) (nI T) (nI gv) (nI i) m = P_L_breaks_131 lc_FU (nI c) (nI q0) (nI gv') (nI 0) m' ∧ QM c m' (shG g' c q0 h0) ∧ Iv g' ∧ g' 2 c = 0 ∧ g' 0 5 + gv' = h0 + q0 ∧ h0 ≤ g' 0 5 ∧ (∀ k, k ≠ 5 → g' 0 k = g 0 k) ∧ (∀ r, r ≠ 0 → r ≠ 2 → g' r = g r) ∧ tn (g' 2) (g 0 0) + g' 0 5 = tn (g 2) (g 0 0) + g 0 5 := by
  intro k
  induction k with
  | zero =>
    intro i g m gv n1 n2 hr hi hc hq hrq hT hsum hgv hh hik h1 h2
    have h8 := hi.1
    have h12 := hi.2.1
    have hcl := hi.2.2.1 c hc
    obtain ⟨n1, rfl⟩ : ∃ q, n1 = q + 1 := ⟨n1 - 1, by omega⟩; obtain ⟨n2, rfl⟩ : ∃ q, n2 = q + 1 := ⟨n2 - 1, by omega⟩
    have hle : g 0 1 ≤ i := by omega
    have nl : m 0 2 = nI (g 0 1) := by rw [qm_nl hr, shG_0 _ _ _ _ (by omega)]
    have ha := x0_lose h8 hc (Nat.le_refl (g 2 c))
    have e5 : loS g c (g 2 c) 0 5 = g 0 5 + g 2 c := by unfold loS; rw [gs_at]
    have t1 := tn_gs g 2 c (g 2 c - g 2 c) hc
    have e2 : loS g c (g 2 c) 2 = gs g 2 c (g 2 c - g 2 c) 2 := by unfold loS; rw [gs_r _ _ _ (by omega)]
    refine ⟨loS g c (g 2 c), m, gv, ?_, ?_, ?_, Iv_lo hi hc _, ?_, by rw [e5]; omega, by rw [e5]; omega, fun k hk => loS_0 _ _ _ hk, fun r h0 h2 => loS_r _ _ _ h0 h2, by rw [e2, e5]; omega⟩
    · rw [P_X0_shareOut_24]
      simp (disch := omega) only [nB_at, nI_ltI, nI_leI, nI_eq, q_okn, nI_clamp, nI_add, pk_mul, pk_sub, pk_div, q_nlt9, q_neg0, q_ne9, q_9ne, q_nle9, hle, ↓reduceIte]
      rw [bE (x0_charge hi hc), bE ha]
    · rw [P_L_breaks_24]
      simp (disch := omega) only [nl, nI_ltI, nI_leI, nI_eq, q_okn, nI_clamp, nI_add, pk_mul, pk_sub, pk_div, q_nlt9, q_neg0, q_ne9, q_9ne, q_nle9, q_0, q_1, q_2, q_3, q_4, q_5, q_6, q_7, q_8, q_10, q_11, q_12, q_13, q_14, q_20, q_26, q_30, q_40, q_50, q_51, q_56, q_60, q_90, q_99, q_100, q_19, hle, ↓reduceIte]
    · have e : shG (loS g c (g 2 c)) c q0 h0 = shG g c q0 h0 := by
        unfold shG loS
        rw [gs_swr _ _ _ _ _ (show (0 : Nat) ≠ 2 by omega), gs_gs, gs_gs]
      rw [e]; exact hr
    · rw [e2, gs_at]; omega
  | succ k ih =>
    intro i g m gv n1 n2 hr hi hc hq hrq hT hsum hgv hh hik h1 h2
    have h8 := hi.1
    have h12 := hi.2.1
    have h6 := hr.2.2.2.2
    rw [shG_0 _ _ _ _ (show 0 ≠ 5 by omega)] at h6
    have hcl := hi.2.2.1 c hc
    obtain ⟨n1, rfl⟩ : ∃ q, n1 = q + 1 := ⟨n1 - 1, by omega⟩; obtain ⟨n2, rfl⟩ : ∃ q, n2 = q + 1 := ⟨n2 - 1, by omega⟩
    have hlt : i < g 0 1 := by omega
    have hl := hi.2.2.2 i hlt
    have hltG : i < shG g c q0 h0 0 1 := by rw [shG_0 _ _ _ _ (by omega)]; exact hlt
    have nl : m 0 2 = nI (g 0 1) := by rw [qm_nl hr, shG_0 _ _ _ _ (by omega)]
    have o0 := qm_l0 hr hltG
    have o1 := qm_l1 hr hltG
    have o2 := qm_l2 hr hltG
    rw [shG_r _ _ _ _ (by omega) (by omega)] at o0 o1 o2
    by_cases hm : g 6 i = c
    · have hb := hl.1
      have hb8 : g 5 i < 8 := by omega
      have hbc : g 5 i ≠ c := by omega
      have hbl := hi.2.2.1 _ hb
      have hTi : ow g 6 c i + g 7 i ≤ T := by
        have := ow_mono g 6 c (a := i + 1) (b := g 0 1) (by omega)
        rw [hT]
        rw [show ow g 6 c (i + 1) = ow g 6 c i + (if g 6 i = c then g 7 i else 0) from rfl, if_pos hm] at this
        exact this
      have hT99 := ow_le hi 6 c (g 0 1) (Nat.le_refl _)
      have hmul : q0 * g 7 i ≤ 99 * 99 := Nat.mul_le_mul (by omega) (by omega)
      obtain ⟨w, hw⟩ : ∃ w, w = q0 * g 7 i / T := ⟨_, rfl⟩
      obtain ⟨hw1, hw2⟩ := sh_arith (by omega) hrq hsum hw hTi
      have hbG : g 5 i < shG g c q0 h0 0 0 := by rw [shG_0 _ _ _ _ (by omega)]; exact hb
      have c0 := qm_c0 hr hbG
      have c1 := qm_c1 hr hbG
      rw [shG_r _ _ _ _ (by omega) (by omega)] at c0
      rw [shG_2 _ _ _ _ hbc] at c1
      -- what both do once the amount t that the lender gets is known
      have fin : ∀ t, t ≤ w → g 2 (g 5 i) + t ≤ g 1 (g 5 i) → ∃ g' m' gv', P_X0_shareOut_24 n1 (nI c) (nI q0) (nI T) (nI (i + 1)) (nB (s1G g c (g 5 i) t w)) = some (nB g') ∧ P_L_breaks_102 (fun x3 x4 x5 x6 x7 s => P_L_breaks_24 n2 x3 x4 x5 x6 x7 s) (nI c) (nI q0) (nI T) (nI gv) (nI i) (nI (5 * g 5 i)) (nI t) m = P_L_breaks_131 lc_FU (nI c) (nI q0) (nI gv') (nI 0) m' ∧ QM c m' (shG g' c q0 h0) ∧ Iv g' ∧ g' 2 c = 0 ∧ g' 0 5 + gv' = h0 + q0 ∧ h0 ≤ g' 0 5 ∧ (∀ k, k ≠ 5 → g' 0 k = g 0 k) ∧ (∀ r, r ≠ 0 → r ≠ 2 → g' r = g r) ∧ tn (g' 2) (g 0 0) + g' 0 5 = tn (g 2) (g 0 0) + g 0 5 := by
        intro t ht hcap
        have r1 := QM_c1 hr hbG (g 2 (g 5 i) + t)
        rw [← s1G_sh g t w q0 h0 hbc] at r1
        have i1 : Iv (s1G g c (g 5 i) t w) := Iv_c1 (Iv_a (Iv_c1 hi hb hcap) (by omega) _) (by simpa (disch := omega) only [gs_i, gs_r] using hc) (by simp (disch := omega) only [gs_r]; omega)
        have S0 := fun k (hk : k ≠ 5) => s1G_0 g c (g 5 i) t w hk
        have hS : ∀ n, ow (s1G g c (g 5 i) t w) 6 c n = ow g 6 c n := ow_cong 6 c (s1G_r _ _ _ _ _ (by omega) (by omega)) (s1G_r _ _ _ _ _ (by omega) (by omega))
        obtain ⟨g', m', gv', z1, z2, z3, z4, z5, z6, z7, z8, z9, z10⟩ := ih (i + 1) _ _ (gv + t) n1 n2 r1 i1 (by rw [S0 0 (by omega)]; exact hc) (by rw [s1G_r _ _ _ _ _ (by omega) (by omega)]; exact hq) (by rw [s1G_c]; omega) (by rw [hS, S0 1 (by omega)]; exact hT) (by
          rw [s1G_c, hS]
          show _ ≤ q0 * (ow g 6 c i + (if g 6 i = c then g 7 i else 0))
          rw [if_pos hm]; exact hw2) (by rw [s1G_5, s1G_c]; omega) (by rw [s1G_5]; omega) (by rw [S0 1 (by omega)]; omega) (by omega) (by omega)
        rw [S0 0 (by omega), s1G_t g hc hb hbc hw1 ht] at z10
        refine ⟨g', m', gv', z1, ?_, z3, z4, z5, z6, z7, fun k hk => by rw [z8 k hk, S0 k hk], fun r h0 h2 => by rw [z9 r h0 h2, s1G_r _ _ _ _ _ h0 h2], z10⟩
        rw [← z2]
        unfold P_L_breaks_102 P_L_breaks_122
        simp only [q_0, q_1, q_2, q_3, q_4, q_5, q_6, q_7, q_8, q_10, q_11, q_12, q_13, q_14, q_20, q_26, q_30, q_40, q_50, q_51, q_56, q_60, q_90, q_99, q_100, q_19]
        simp (disch := omega) only [nI_ltI, nI_leI, nI_eq, q_okn, nI_clamp, nI_add, pk_mul, pk_sub, pk_div, q_nlt9, q_neg0, q_ne9, q_9ne, q_nle9, q_0, q_1, q_2, q_3, q_4, q_5, q_6, q_7, q_8, q_10, q_11, q_12, q_13, q_14, q_20, q_26, q_30, q_40, q_50, q_51, q_56, q_60, q_90, q_99, q_100, q_19, q_ift, lc_let, c1]
      have hT0 : ¬ T = 0 := by omega
      have eroom := x0_room hi hb
      have ehas := x0_has8 h8 hb
      have L : ∀ t, (if w ≤ g 1 (g 5 i) - g 2 (g 5 i) then t = w else t = g 1 (g 5 i) - g 2 (g 5 i)) → P_L_breaks_24 (n2 + 1) (nI c) (nI q0) (nI T) (nI gv) (nI i) m = P_L_breaks_102 (fun x3 x4 x5 x6 x7 s => P_L_breaks_24 n2 x3 x4 x5 x6 x7 s) (nI c) (nI q0) (nI T) (nI gv) (nI i) (nI (5 * g 5 i)) (nI t) m := by
        intro t ht
        rw [P_L_breaks_24]
        simp only [q_0, q_1, q_2, q_3, q_4, q_5, q_6, q_7, q_8, q_10, q_11, q_12, q_13, q_14, q_20, q_26, q_30, q_40, q_50, q_51, q_56, q_60, q_90, q_99, q_100, q_19]
        simp (disch := omega) only [nI_ltI, nI_leI, nI_eq, q_okn, nI_clamp, nI_add, pk_mul, pk_sub, pk_div, q_nlt9, q_neg0, q_ne9, q_9ne, q_nle9, q_0, q_1, q_2, q_3, q_4, q_5, q_6, q_7, q_8, q_10, q_11, q_12, q_13, q_14, q_20, q_26, q_30, q_40, q_50, q_51, q_56, q_60, q_90, q_99, q_100, q_19, nl, o0, o1, o2, c0, c1, Nat.not_le.mpr hlt, hm, ↓reduceIte, q_ift, lc_let, hT0, not_false_eq_true, ← hw]
        by_cases hA : w ≤ g 1 (g 5 i) - g 2 (g 5 i)
        · rw [if_pos hA] at ht ⊢
          rw [ht, q_ifT]
        · rw [if_neg hA] at ht ⊢
          rw [ht, q_ifT]
      by_cases hA : w ≤ g 1 (g 5 i) - g 2 (g 5 i)
      · obtain ⟨g', m', gv', z⟩ := fin w (Nat.le_refl _) (by omega)
        refine ⟨g', m', gv', ?_, by rw [L w (by rw [if_pos hA])]; exact z.2.1, z.2.2⟩
        rw [← z.1, P_X0_shareOut_24]
        simp only [q_0, q_1, q_2, q_3, q_4, q_5, q_6, q_7, q_8, q_10, q_11, q_12, q_13, q_14, q_20, q_26, q_30, q_40, q_50, q_51, q_56, q_60, q_90, q_99, q_100, q_19]
        simp (disch := omega) only [nI_ltI, nI_leI, nI_eq, q_okn, nI_clamp, nI_add, pk_mul, pk_sub, pk_div, q_nlt9, q_neg0, q_ne9, q_9ne, q_nle9, ↓bE ehas, ↓bE eroom, nB_at, Nat.not_le.mpr hlt, hm, ↓reduceIte, q_ift, q_ifT, lc_let, Nat.one_ne_zero, hT0, Nat.le_zero_eq, not_false_eq_true, ← hw, show ¬ g 1 (g 5 i) - g 2 (g 5 i) < w by omega, nB_ss, gs_r, gs_i, gs_at, P_X0_shareOut_129, q_0, q_1, q_2, q_3, q_4, q_5, q_6, q_7, q_8, q_10, q_11, q_12, q_13, q_14, q_20, q_26, q_30, q_40, q_50, q_51, q_56, q_60, q_90, q_99, q_100, q_19]
        rfl
      · obtain ⟨g', m', gv', z⟩ := fin (g 1 (g 5 i) - g 2 (g 5 i)) (by omega) (by omega)
        refine ⟨g', m', gv', ?_, by rw [L (g 1 (g 5 i) - g 2 (g 5 i)) (by rw [if_neg hA])]; exact z.2.1, z.2.2⟩
        rw [← z.1, P_X0_shareOut_24]
        simp only [q_0, q_1, q_2, q_3, q_4, q_5, q_6, q_7, q_8, q_10, q_11, q_12, q_13, q_14, q_20, q_26, q_30, q_40, q_50, q_51, q_56, q_60, q_90, q_99, q_100, q_19]
        simp (disch := omega) only [nI_ltI, nI_leI, nI_eq, q_okn, nI_clamp, nI_add, pk_mul, pk_sub, pk_div, q_nlt9, q_neg0, q_ne9, q_9ne, q_nle9, ↓bE ehas, ↓bE eroom, nB_at, Nat.not_le.mpr hlt, hm, ↓reduceIte, q_ift, q_ifT, lc_let, Nat.one_ne_zero, hT0, Nat.le_zero_eq, not_false_eq_true, ← hw, show g 1 (g 5 i) - g 2 (g 5 i) < w by omega, nB_ss, gs_r, gs_i, gs_at, P_X0_shareOut_129, q_0, q_1, q_2, q_3, q_4, q_5, q_6, q_7, q_8, q_10, q_11, q_12, q_13, q_14, q_20, q_26, q_30, q_40, q_50, q_51, q_56, q_60, q_90, q_99, q_100, q_19]
        rfl
    · obtain ⟨g', m', gv', z1, z2⟩ := ih (i + 1) g m gv n1 n2 hr hi hc hq hrq hT (by
        show _ ≤ q0 * (ow g 6 c i + (if g 6 i = c then g 7 i else 0))
        rw [if_neg hm]; exact hsum) hgv hh (by omega) (by omega) (by omega)
      refine ⟨g', m', gv', ?_, ?_, z2.2⟩
      · rw [P_X0_shareOut_24, ← z1]
        simp only [q_0, q_1, q_2, q_3, q_4, q_5, q_6, q_7, q_8, q_10, q_11, q_12, q_13, q_14, q_20, q_26, q_30, q_40, q_50, q_51, q_56, q_60, q_90, q_99, q_100, q_19]
        simp (disch := omega) only [nI_ltI, nI_leI, nI_eq, q_okn, nI_clamp, nI_add, pk_mul, pk_sub, pk_div, q_nlt9, q_neg0, q_ne9, q_9ne, q_nle9, nB_at, Nat.not_le.mpr hlt, hm, ↓reduceIte, q_ift, q_ifT, lc_let, P_X0_shareOut_129, q_0, q_1, q_2, q_3, q_4, q_5, q_6, q_7, q_8, q_10, q_11, q_12, q_13, q_14, q_20, q_26, q_30, q_40, q_50, q_51, q_56, q_60, q_90, q_99, q_100, q_19]
      · rw [P_L_breaks_24, ← z2.1]
        simp only [q_0, q_1, q_2, q_3, q_4, q_5, q_6, q_7, q_8, q_10, q_11, q_12, q_13, q_14, q_20, q_26, q_30, q_40, q_50, q_51, q_56, q_60, q_90, q_99, q_100, q_19]
        simp (disch := omega) only [nI_ltI, nI_leI, nI_eq, q_okn, nI_clamp, nI_add, pk_mul, pk_sub, pk_div, q_nlt9, q_neg0, q_ne9, q_9ne, q_nle9, q_0, q_1, q_2, q_3, q_4, q_5, q_6, q_7, q_8, q_10, q_11, q_12, q_13, q_14, q_20, q_26, q_30, q_40, q_50, q_51, q_56, q_60, q_90, q_99, q_100, q_19, o1, nl, Nat.not_le.mpr hlt, hm, ↓reduceIte, q_ift, lc_let, P_L_breaks_122]
