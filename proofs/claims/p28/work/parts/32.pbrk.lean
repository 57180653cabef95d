/-! ===== the pure claim: a bankrupt cell's loans are dropped ===== -/
variable {e : Nat} {m : lc_St} {g : Nat → Nat → Nat}
/-- what is owed of those that are not kept -/
def wN (p : Nat → Bool) (g : Nat → Nat → Nat) : Nat → Nat
  | 0 => 0
  | n + 1 => wN p g n + (if p n = true then 0 else g 7 n)
/-- the class: down to j the loans not kept are gone -/
def Dq (p : Nat → Bool) (g : Nat → Nat → Nat) (j : Nat) (h : Nat → Nat → Nat) : Prop := h 0 1 + kN p j = j + kN p (g 0 1) ∧ (∀ r i, 5 ≤ r → r ≤ 9 → i < j → h r i = g r i) ∧ (∀ r i, 5 ≤ r → r ≤ 9 → j ≤ i → i < g 0 1 → p i = true → h r (j + kN p i - kN p j) = g r i) ∧ h 0 6 + wN p g j = g 0 6 + wN p g (g 0 1) ∧ (∀ k, k ≠ 1 → k ≠ 6 → k ≠ 7 → h 0 k = g 0 k) ∧ (∀ r, 0 < r → r < 5 → h r = g r)
theorem l_drop (p : Nat → Bool) (g : Nat → Nat → Nat) {c : Nat} (hc8 : c < 8) (h8 : g 0 0 ≤ 8) (h12 : g 0 1 ≤ 12) (hs : ∀ i, i < g 0 1 → g 5 i < 8 ∧ g 6 i < 8 ∧ g 7 i ≤ 99) (hp : ∀ i, i < g 0 1 → (p i = true ↔ g 5 i ≠ c ∧ g 6 i ≠ c)) : ∀ j (h : Nat → Nat → Nat) n, Dq p g j h → j ≤ g 0 1 → j < n → ∃ g', P_X0_dropLoansOf_7 n (nI c) (nI j - nI 1) (nB h) = some (nB g') ∧ Dq p g 0 g' := by
  intro j
  induction j with
  | zero =>
    intro h n hq hj h1
    obtain ⟨n, rfl⟩ : ∃ q, n = q + 1 := ⟨n - 1, by omega⟩
    rw [P_X0_dropLoansOf_7]
    rw [if_pos q_m1]
    exact ⟨h, rfl, hq⟩
  | succ j ih =>
    intro h n hq hj h1
    obtain ⟨n, rfl⟩ : ∃ q, n = q + 1 := ⟨n - 1, by omega⟩
    obtain ⟨q1, q2, q3, q4, q5, q6⟩ := hq
    have hlt : j < g 0 1 := by omega
    have hsj := hs j hlt
    have kl := kN_le p (j + 1)
    have km := kN_mono p (a := j + 1) (b := g 0 1) (by omega)
    have kn := kN_le p (g 0 1)
    have h1j : j < h 0 1 := by omega
    have h12' : h 0 1 ≤ 12 := by
      have kd : ∀ n, n ≤ g 0 1 → n - kN p n ≤ g 0 1 - kN p (g 0 1) + 0 → True := fun _ _ _ => trivial
      have : ∀ d, kN p (j + 1 + d) ≤ kN p (j + 1) + d := by
        intro d
        induction d with
        | zero => exact Nat.le_refl _
        | succ d ihd =>
          show kN p (j + 1 + d) + _ ≤ _
          split <;> omega
      have := this (g 0 1 - (j + 1))
      rw [show j + 1 + (g 0 1 - (j + 1)) = g 0 1 by omega] at this
      omega
    have e5 : h 5 j = g 5 j := q2 5 j (by omega) (by omega) (by omega)
    have e6 : h 6 j = g 6 j := q2 6 j (by omega) (by omega) (by omega)
    have e7 : h 7 j = g 7 j := q2 7 j (by omega) (by omega) (by omega)
    have h0 : h 0 0 = g 0 0 := q5 0 (by omega) (by omega) (by omega)
    have drop : ¬ p j = true → ∃ g', P_X0_dropLoansOf_31 (fun x1 x2 s => P_X0_dropLoansOf_7 n x1 x2 s) (nI c) (nI j) (nB h) = some (nB g') ∧ Dq p g 0 g' := by
      intro hnp
      obtain ⟨g1, p1, p2, p3, p4, p5⟩ := x0_rem (g := gs h 0 6 (h 0 6 + h 7 j)) (i := j) (by rw [gs_i _ _ _ (by omega), h0]; exact h8) (by rw [gs_i _ _ _ (by omega)]; exact h12') (by rw [gs_i _ _ _ (by omega)]; exact h1j)
      rw [gs_i _ _ _ (show 1 ≠ 6 by omega)] at p2 p5
      have hkf := kN_f p hnp
      have hwf : wN p g (j + 1) = wN p g j + g 7 j := by
        show wN p g j + _ = _
        rw [if_neg hnp]
      have hr : ∀ r i, 5 ≤ r → gs h 0 6 (h 0 6 + h 7 j) r i = h r i := fun r i hr => by rw [gs_r _ _ _ (by omega)]
      have D : Dq p g j g1 := by
        refine ⟨by rw [p2]; omega, fun r i h5 h9 hi => ?_, fun r i h5 h9 hji hi hpi => ?_, ?_, fun k k1 k6 k7 => ?_, fun r r0 r5 => ?_⟩
        · rw [p5 r i h5 h9 (by omega), if_pos hi, hr r i h5]
          exact q2 r i h5 h9 (by omega)
        · have hij : j ≠ i := fun q => hnp (q ▸ hpi)
          have hkm := kN_mono p (a := j) (b := i) hji
          have hkl := kN_lt p hi hpi
          have := q3 r i h5 h9 (by omega) hi hpi
          rw [hkf] at this
          rw [p5 r _ h5 h9 (by omega), if_neg (by omega), hr r _ h5, show j + kN p i - kN p j + 1 = j + 1 + kN p i - kN p j by omega]
          exact this
        · rw [p3 6 (by omega) (by omega), gs_at, e7]; omega
        · rw [p3 k k1 k7, gs_i _ _ _ k6]; exact q5 k k1 k6 k7
        · rw [p4 r r0 r5, gs_r _ _ _ (by omega)]; exact q6 r r0 r5
      obtain ⟨g', z1, z2⟩ := ih g1 n D (by omega) (by omega)
      refine ⟨g', ?_, z2⟩
      unfold P_X0_dropLoansOf_31
      simp (disch := omega) only [nI_ltI, nI_leI, nI_eq, q_okn, nI_clamp, nI_add, pk_mul, pk_sub, pk_div, q_nlt9, q_neg0, q_ne9, q_9ne, q_nle9, q_ift, lc_let, nB_at, nB_ss]
      rw [bE p1, P_X0_dropLoansOf_51]
      simp only [q_0, q_1, q_2, q_3, q_4, q_5, q_6, q_7, q_8, q_10, q_11, q_12, q_13, q_14, q_20, q_26, q_30, q_40, q_50, q_51, q_56, q_60, q_90, q_99, q_100, q_19, lc_let, q_em]
      exact z1
    have keep : p j = true → ∃ g', P_X0_dropLoansOf_51 (fun x1 x2 s => P_X0_dropLoansOf_7 n x1 x2 s) (nI c) (nI j) (nB h) = some (nB g') ∧ Dq p g 0 g' := by
      intro hpj
      have hkt := kN_t p hpj
      have hwt : wN p g (j + 1) = wN p g j := by
        show wN p g j + _ = _
        rw [if_pos hpj, Nat.add_zero]
      have D : Dq p g j h := by
        refine ⟨by omega, fun r i h5 h9 hi => q2 r i h5 h9 (by omega), fun r i h5 h9 hji hi hpi => ?_, by rw [← hwt]; exact q4, q5, q6⟩
        by_cases q : i = j
        · subst q
          rw [Nat.add_sub_cancel]; exact q2 r i h5 h9 (by omega)
        · have hkm := kN_mono p (a := j + 1) (b := i) (by omega)
          have := q3 r i h5 h9 (by omega) hi hpi
          rw [hkt] at this
          rw [show j + kN p i - kN p j = j + 1 + kN p i - (kN p j + 1) by omega]
          exact this
      obtain ⟨g', z1, z2⟩ := ih h n D (by omega) (by omega)
      refine ⟨g', ?_, z2⟩
      rw [P_X0_dropLoansOf_51]
      simp only [q_0, q_1, q_2, q_3, q_4, q_5, q_6, q_7, q_8, q_10, q_11, q_12, q_13, q_14, q_20, q_26, q_30, q_40, q_50, q_51, q_56, q_60, q_90, q_99, q_100, q_19, lc_let, q_em]
      exact z1
    rw [P_X0_dropLoansOf_7]
    simp only [q_0, q_1, q_2, q_3, q_4, q_5, q_6, q_7, q_8, q_10, q_11, q_12, q_13, q_14, q_20, q_26, q_30, q_40, q_50, q_51, q_56, q_60, q_90, q_99, q_100, q_19]
    simp (disch := omega) only [nI_ltI, nI_leI, nI_eq, q_okn, nI_clamp, nI_add, pk_mul, pk_sub, pk_div, q_nlt9, q_neg0, q_ne9, q_9ne, q_nle9, Nat.not_lt_zero, nB_at, ↓reduceIte, q_ift, Nat.add_sub_cancel, e5, e6]
    by_cases h5 : g 5 j = c
    · simp only [h5, ↓reduceIte]
      exact drop (fun q => ((hp j hlt).mp q).1 h5)
    · by_cases h6 : g 6 j = c
      · simp only [h5, h6, ↓reduceIte]
        exact drop (fun q => ((hp j hlt).mp q).2 h6)
      · simp only [h5, h6, ↓reduceIte]
        exact keep ((hp j hlt).mpr ⟨h5, h6⟩)
/-- the law: of the first i, those not kept owe nothing -/
def zS (p : Nat → Bool) (g : Nat → Nat → Nat) : Nat → Nat → Nat → Nat
  | 0 => g
  | n + 1 => if p n = true then zS p g n else gs (gs (zS p g n) 0 6 (zS p g n 0 6 + g 7 n)) 7 n 0
theorem zS_s (p : Nat → Bool) (g : Nat → Nat → Nat) (n : Nat) : zS p g (n + 1) = if p n = true then zS p g n else gs (gs (zS p g n) 0 6 (zS p g n 0 6 + g 7 n)) 7 n 0 := rfl
theorem zS_r (p : Nat → Bool) (g : Nat → Nat → Nat) {r : Nat} (h0 : r ≠ 0) (h7 : r ≠ 7) : ∀ n, zS p g n r = g r
  | 0 => rfl
  | n + 1 => by
    rw [zS_s]
    split
    · exact zS_r p g h0 h7 n
    · rw [gs_r _ _ _ h7, gs_r _ _ _ h0]; exact zS_r p g h0 h7 n
theorem zS_0 (p : Nat → Bool) (g : Nat → Nat → Nat) {k : Nat} (h6 : k ≠ 6) : ∀ n, zS p g n 0 k = g 0 k
  | 0 => rfl
  | n + 1 => by
    rw [zS_s]
    split
    · exact zS_0 p g h6 n
    · rw [gs_r _ _ _ (by omega), gs_i _ _ _ h6]; exact zS_0 p g h6 n
theorem zS_6 (p : Nat → Bool) (g : Nat → Nat → Nat) : ∀ n, zS p g n 0 6 = g 0 6 + wN p g n
  | 0 => rfl
  | n + 1 => by
    have ih := zS_6 p g n
    rw [zS_s]
    show _ = g 0 6 + (wN p g n + (if p n = true then 0 else g 7 n))
    by_cases q : p n = true
    · rw [if_pos q, if_pos q, ih]; rfl
    · rw [if_neg q, if_neg q, gs_r _ _ _ (by omega), gs_at, ih]; omega
theorem zS_7 (p : Nat → Bool) (g : Nat → Nat → Nat) (i : Nat) : ∀ n, zS p g n 7 i = if i < n ∧ ¬ p i = true then 0 else g 7 i
  | 0 => by rw [if_neg (by omega)]; rfl
  | n + 1 => by
    have ih := zS_7 p g i n
    rw [zS_s]
    by_cases q : p n = true
    · rw [if_pos q, ih]
      by_cases h : i < n ∧ ¬ p i = true
      · rw [if_pos h, if_pos ⟨by omega, h.2⟩]
      · rw [if_neg h, if_neg (fun z => h ⟨by
          by_cases hh : i = n
          · subst hh; exact absurd q z.2
          · omega, z.2⟩)]
    · rw [if_neg q]
      by_cases hh : i = n
      · subst hh
        rw [gs_at, if_pos ⟨by omega, q⟩]
      · rw [gs_i _ _ _ hh, gs_r _ _ _ (by omega), ih]
        by_cases h : i < n ∧ ¬ p i = true
        · rw [if_pos h, if_pos ⟨by omega, h.2⟩]
        · rw [if_neg h, if_neg (fun z => h ⟨by omega, z.2⟩)]
theorem l_zero (p : Nat → Bool) (g : Nat → Nat → Nat) {c : Nat} (hc8 : c < 8) (h12 : g 0 1 ≤ 12) (hs : ∀ i, i < g 0 1 → g 5 i < 8 ∧ g 6 i < 8 ∧ g 7 i ≤ 99) (hp : ∀ i, i < g 0 1 → (p i = true ↔ g 5 i ≠ c ∧ g 6 i ≠ c)) (X4 X6 : Int32) : ∀ k i (m : lc_St) n, QM c m (zS p g i) → i + k = g 0 1 → k < n → ∃ m', P_L_breaks_131 n (nI c) X4 X6 (nI i) m = P_L_breaks_131 (0 + 1) (nI c) X4 X6 (nI (g 0 1)) m' ∧ QM c m' (zS p g (g 0 1)) := by
  intro k
  induction k with
  | zero =>
    intro i m n hr hk h1
    obtain ⟨n, rfl⟩ : ∃ q, n = q + 1 := ⟨n - 1, by omega⟩
    have hle : g 0 1 ≤ i := by omega
    have hie : i = g 0 1 := by omega
    rw [hie] at hr ⊢
    have nl : m 0 2 = nI (g 0 1) := by rw [qm_nl hr, zS_0 _ _ (by omega)]
    refine ⟨m, ?_, hr⟩
    rw [P_L_breaks_131, P_L_breaks_131]
    simp only [nl]
    rw [if_pos (by rw [nI_leI (by omega) (by omega)]; exact Nat.le_refl _), if_pos (by rw [nI_leI (by omega) (by omega)]; exact Nat.le_refl _)]
  | succ k ih =>
    intro i m n hr hk h1
    obtain ⟨n, rfl⟩ : ∃ q, n = q + 1 := ⟨n - 1, by omega⟩
    have hlt : i < g 0 1 := by omega
    have hsi := hs i hlt
    have nl : m 0 2 = nI (g 0 1) := by rw [qm_nl hr, zS_0 _ _ (by omega)]
    have hltz : i < zS p g i 0 1 := by rw [zS_0 _ _ (by omega)]; exact hlt
    have o0 := qm_l0 hr hltz
    have o1 := qm_l1 hr hltz
    have o2 := qm_l2 hr hltz
    rw [zS_r _ _ (by omega) (by omega)] at o0 o1
    rw [zS_7, if_neg (by omega)] at o2
    have drop : ¬ p i = true → ∃ m', P_L_breaks_161 (fun x3 x4 x6 x7 s => P_L_breaks_131 n x3 x4 x6 x7 s) (nI c) X4 X6 (nI i) m = P_L_breaks_131 (0 + 1) (nI c) X4 X6 (nI (g 0 1)) m' ∧ QM c m' (zS p g (g 0 1)) := by
      intro hnp
      have r1 := QM_l2 (QM_a6 hr (zS p g i 0 6 + g 7 i)) (i := i) 0
      have e : zS p g (i + 1) = gs (gs (zS p g i) 0 6 (zS p g i 0 6 + g 7 i)) 7 i 0 := by
        rw [zS_s, if_neg hnp]
      rw [← e] at r1
      obtain ⟨m', z1, z2⟩ := ih (i + 1) _ n r1 (by omega) (by omega)
      refine ⟨m', ?_, z2⟩
      rw [← z1]
      unfold P_L_breaks_161 P_L_breaks_185
      simp only [q_0, q_1, q_2, q_3, q_4, q_5, q_6, q_7, q_8, q_10, q_11, q_12, q_13, q_14, q_20, q_26, q_30, q_40, q_50, q_51, q_56, q_60, q_90, q_99, q_100, q_19]
      simp (disch := omega) only [nI_ltI, nI_leI, nI_eq, q_okn, nI_clamp, nI_add, pk_mul, pk_sub, pk_div, q_nlt9, q_neg0, q_ne9, q_9ne, q_nle9, q_0, q_1, q_2, q_3, q_4, q_5, q_6, q_7, q_8, q_10, q_11, q_12, q_13, q_14, q_20, q_26, q_30, q_40, q_50, q_51, q_56, q_60, q_90, q_99, q_100, q_19, q_ift, lc_let, o2, qm_wo hr]
    have keep : p i = true → ∃ m', P_L_breaks_185 (fun x3 x4 x6 x7 s => P_L_breaks_131 n x3 x4 x6 x7 s) (nI c) X4 X6 (nI i) m = P_L_breaks_131 (0 + 1) (nI c) X4 X6 (nI (g 0 1)) m' ∧ QM c m' (zS p g (g 0 1)) := by
      intro hpi
      have e : zS p g (i + 1) = zS p g i := by
        rw [zS_s, if_pos hpi]
      obtain ⟨m', z1, z2⟩ := ih (i + 1) m n (by rw [e]; exact hr) (by omega) (by omega)
      refine ⟨m', ?_, z2⟩
      rw [← z1]
      unfold P_L_breaks_185
      simp only [lc_let, q_0, q_1, q_2, q_3, q_4, q_5, q_6, q_7, q_8, q_10, q_11, q_12, q_13, q_14, q_20, q_26, q_30, q_40, q_50, q_51, q_56, q_60, q_90, q_99, q_100, q_19, nI_add]
    rw [P_L_breaks_131]
    simp only [q_0, q_1, q_2, q_3, q_4, q_5, q_6, q_7, q_8, q_10, q_11, q_12, q_13, q_14, q_20, q_26, q_30, q_40, q_50, q_51, q_56, q_60, q_90, q_99, q_100, q_19]
    simp (disch := omega) only [nI_ltI, nI_leI, nI_eq, q_okn, nI_clamp, nI_add, pk_mul, pk_sub, pk_div, q_nlt9, q_neg0, q_ne9, q_9ne, q_nle9, q_0, q_1, q_2, q_3, q_4, q_5, q_6, q_7, q_8, q_10, q_11, q_12, q_13, q_14, q_20, q_26, q_30, q_40, q_50, q_51, q_56, q_60, q_90, q_99, q_100, q_19, nl, o0, o1, Nat.not_le.mpr hlt, ↓reduceIte, q_ift]
    by_cases h5 : g 5 i = c
    · simp only [h5, ↓reduceIte]
      exact drop (fun q => ((hp i hlt).mp q).1 h5)
    · by_cases h6 : g 6 i = c
      · simp only [h5, h6, ↓reduceIte]
        exact drop (fun q => ((hp i hlt).mp q).2 h6)
      · simp only [h5, h6, ↓reduceIte]
        exact keep ((hp i hlt).mpr ⟨h5, h6⟩)
/-- c becomes bankrupt -/
theorem q_breaks (hi : Iv g) (hn : Cn g) {c : Nat} (hr : QM c m g) (hc : c < g 0 0) (h43 : g 4 c = 3) : ∃ g1 g' m', P_X0_shareOut (nI c) (nB g) = some (nB g1) ∧ P_X0_dropLoansOf (nI c) (nB g1) = some (nB g') ∧ P_L_breaks (nI c) m = some m' ∧ QM 8 m' g' ∧ Iv g' ∧ Cn g' ∧ g' 0 0 = g 0 0 := by
  have h8 := hi.1
  have h6 := hr.2.2.2.2
  have h12 := hi.2.1
  have hcl := hi.2.2.1 c hc
  have hT := x0_owedBy hi (show c < 8 by omega)
  have hT4 := l_owes hr hi (show c < 8 by omega)
  have hch := x0_charge hi hc
  have e0 : shG g c (g 2 c) (g 0 5) = g := by unfold shG; rw [gs_self, gs_self]
  obtain ⟨g1, m1, gv, p1, p2, p3, p4, p5, p6, p7, p8, p9, p10⟩ := l_share (c := c) (q0 := g 2 c) (T := ow g 6 c (g 0 1)) (h0 := g 0 5) (g 0 1) 0 g m 0 lc_FU lc_FU (by rw [e0]; exact hr) hi hc (by omega) (Nat.le_refl _) rfl (by rw [Nat.sub_self, Nat.zero_mul]; exact Nat.zero_le _) (by omega) (Nat.le_refl _) (by omega) (q_FUn (by omega)) (q_FUn (by omega))
  have k0 : g1 0 0 = g 0 0 := p8 0 (by omega)
  have k1 : g1 0 1 = g 0 1 := p8 1 (by omega)
  obtain ⟨p, hp⟩ : ∃ p : Nat → Bool, p = fun i => decide (g1 5 i ≠ c ∧ g1 6 i ≠ c) := ⟨_, rfl⟩
  have hpd : ∀ i, p i = true ↔ g1 5 i ≠ c ∧ g1 6 i ≠ c := fun i => by rw [hp]; simp
  have hs : ∀ i, i < g1 0 1 → g1 5 i < 8 ∧ g1 6 i < 8 ∧ g1 7 i ≤ 99 := fun i hh => by
    have := p4.2.2.2 i hh; omega
  obtain ⟨g', d1, d2, d3, d4, d5, d6, d7⟩ := l_drop p g1 (c := c) (by omega) p4.1 p4.2.1 hs (fun i _ => hpd i) (g1 0 1) g1 lc_FU ⟨by omega, fun _ _ _ _ _ => rfl, fun r i _ _ h1 h2 _ => absurd h1 (by omega), rfl, fun _ _ _ _ => rfl, fun _ _ _ => rfl⟩ (Nat.le_refl _) (q_FUn (by omega))
  -- the law's second loop, over its own battery
  obtain ⟨G, hG⟩ : ∃ G, G = shG g1 c (g 2 c) (g 0 5) := ⟨_, rfl⟩
  have G1 : G 0 1 = g1 0 1 := by rw [hG, shG_0 _ _ _ _ (by omega)]
  have Gr : ∀ r, r ≠ 0 → r ≠ 2 → G r = g1 r := fun r h0 h2 => by rw [hG, shG_r _ _ _ _ h0 h2]
  rw [← hG] at p3
  obtain ⟨m2, l1, l2⟩ := l_zero p G (c := c) (by omega) (by rw [G1, k1]; exact h12) (fun i hh => by rw [Gr 5 (by omega) (by omega), Gr 6 (by omega) (by omega), Gr 7 (by omega) (by omega)]; exact hs i (by rw [← G1]; exact hh)) (fun i _ => by rw [Gr 5 (by omega) (by omega), Gr 6 (by omega) (by omega)]; exact hpd i) (nI (g 2 c)) (nI gv) (G 0 1) 0 m1 lc_FU p3 (by omega) (q_FUn (by rw [G1, k1]; omega))
  obtain ⟨Q, hQ⟩ : ∃ Q, Q = shG g' c (g 2 c) (g 0 5) := ⟨_, rfl⟩
  have hwn : ∀ n, wN p G n = wN p g1 n := by
    intro n
    induction n with
    | zero => rfl
    | succ n ihn => show wN p G n + _ = wN p g1 n + _; rw [ihn, Gr 7 (by omega) (by omega)]
  have z1 : zS p G (G 0 1) 0 1 = g1 0 1 := by rw [zS_0 _ _ (by omega), G1]
  have hf : Fl p (zS p G (G 0 1)) Q := by
    refine ⟨?_, fun i hh hpi r h5 h9 => ?_⟩
    · rw [z1, hQ, shG_0 _ _ _ _ (by omega)]
      have : kN p 0 = 0 := rfl
      omega
    · rw [z1] at hh
      have := d4 r i h5 h9 (Nat.zero_le _) hh hpi
      rw [show 0 + kN p i - kN p 0 = kN p i from by show 0 + kN p i - 0 = _; omega] at this
      rw [hQ, shG_r _ _ _ _ (by omega) (by omega), this]
      by_cases q7 : r = 7
      · subst q7
        rw [zS_7, if_neg (fun z => z.2 hpi), Gr 7 (by omega) (by omega)]
      · rw [zS_r _ _ (by omega) q7, Gr r (by omega) (by omega)]
  obtain ⟨m3, c1, c2⟩ := l_clears (e := c) l2 (by rw [z1, k1]; exact h12) (fun i hh => by
    rw [z1] at hh
    have := (hs i hh).2.2
    rw [zS_7, Gr 7 (by omega) (by omega)]
    split <;> omega) (p := p) (fun i hh => by
    rw [z1] at hh
    have := p4.2.2.2 i hh
    rw [zS_7, Gr 7 (by omega) (by omega)]
    by_cases q : p i = true
    · rw [if_neg (fun z => z.2 q)]
      exact ⟨fun _ => by omega, fun _ => q⟩
    · rw [if_pos ⟨by rw [G1]; exact hh, q⟩]
      exact ⟨fun z => absurd z q, fun z => absurd z (by omega)⟩) hf (fun k hk hk1 => by
    rw [hQ]
    by_cases q5 : k = 5
    · subst q5
      rw [shG_5, zS_0 _ _ (by omega), hG, shG_5]
    · rw [shG_0 _ _ _ _ q5]
      by_cases q6 : k = 6
      · subst q6
        have : wN p g1 0 = 0 := rfl
        rw [zS_6, hwn, G1, hG, shG_0 _ _ _ _ (by omega)]; omega
      · rw [zS_0 _ _ q6, hG, shG_0 _ _ _ _ q5, d6 k hk1 q6 (by omega)]) (fun r r0 r5 => by
    rw [zS_r _ _ (by omega) (by omega)]
    by_cases q2 : r = 2
    · subst q2
      rw [hQ, hG]
      unfold shG
      rw [gs_r _ _ _ (show (2 : Nat) ≠ 0 by omega), gs_r _ _ _ (show (2 : Nat) ≠ 0 by omega)]
      unfold gs
      rw [va_up_self, va_up_self, d7 2 (by omega) (by omega)]
    · rw [hQ, shG_r _ _ _ _ (by omega) q2, hG, shG_r _ _ _ _ (by omega) q2, d7 r r0 r5])
  have e5 : g' 0 5 = g1 0 5 := d6 5 (by omega) (by omega) (by omega)
  have ec : g' 2 c = 0 := by rw [d7 2 (by omega) (by omega)]; exact p5
  have f00 : g' 0 0 = g 0 0 := by rw [d6 0 (by omega) (by omega) (by omega), k0]
  have cQ : c < Q 0 0 := by rw [hQ, shG_0 _ _ _ _ (by omega), f00]; exact hc
  have r1 := QM_c1 (QM_a5 c2 (g' 0 5)) (c := c) (by rw [gs_i _ _ _ (by omega)]; exact cQ) 0
  have eB : gs (gs Q 0 5 (g' 0 5)) 2 c 0 = g' := by
    rw [hQ]
    unfold shG
    rw [gs_gs, gs_swr _ _ _ _ _ (show (0 : Nat) ≠ 2 by omega), gs_gs]
    have a := gs_self g' 2 c
    rw [ec] at a
    rw [a, gs_self]
  rw [eB] at r1
  have r2 := QM_flag r1 (by rw [f00]; exact hc) (by rw [d7 4 (by omega) (by omega), p9 4 (by omega) (by omega)]; exact h43)
  have hf' : Fl p g1 g' := by
    refine ⟨?_, fun i hh hpi r h5 h9 => ?_⟩
    · have : kN p 0 = 0 := rfl
      omega
    · have := d4 r i h5 h9 (Nat.zero_le _) hh hpi
      rw [show 0 + kN p i - kN p 0 = kN p i from by show 0 + kN p i - 0 = _; omega] at this
      exact this
  refine ⟨g1, g', _, ?_, ?_, ?_, r2, ?_, ?_, f00⟩
  · unfold P_X0_shareOut
    rw [bE (x0_has8 h8 hc)]
    simp only [q_0, q_1, q_2, q_3, q_4, q_5, q_6, q_7, q_8, q_10, q_11, q_12, q_13, q_14, q_20, q_26, q_30, q_40, q_50, q_51, q_56, q_60, q_90, q_99, q_100, q_19]
    simp (disch := omega) only [nI_ltI, nI_leI, nI_eq, q_okn, nI_clamp, nI_add, pk_mul, pk_sub, pk_div, q_nlt9, q_neg0, q_ne9, q_9ne, q_nle9, Nat.one_ne_zero, ↓reduceIte]
    rw [bE hch, bE hT]
    exact p1
  · unfold P_X0_dropLoansOf
    simp only [q_0, q_1, q_2, q_3, q_4, q_5, q_6, q_7, q_8, q_10, q_11, q_12, q_13, q_14, q_20, q_26, q_30, q_40, q_50, q_51, q_56, q_60, q_90, q_99, q_100, q_19, lc_let, nB_at]
    exact d1
  · unfold P_L_breaks
    simp only [q_0, q_1, q_2, q_3, q_4, q_5, q_6, q_7, q_8, q_10, q_11, q_12, q_13, q_14, q_20, q_26, q_30, q_40, q_50, q_51, q_56, q_60, q_90, q_99, q_100, q_19]
    simp (disch := omega) only [nI_ltI, nI_leI, nI_eq, q_okn, nI_clamp, nI_add, pk_mul, pk_sub, pk_div, q_nlt9, q_neg0, q_ne9, q_9ne, q_nle9, q_0, q_1, q_2, q_3, q_4, q_5, q_6, q_7, q_8, q_10, q_11, q_12, q_13, q_14, q_20, q_26, q_30, q_40, q_50, q_51, q_56, q_60, q_90, q_99, q_100, q_19, q_ift, lc_let, qm_c1 hr hc]
    rw [bE hT4, p2, l1, P_L_breaks_131]
    have nl : m2 0 2 = nI (G 0 1) := by rw [qm_nl l2, z1, G1]
    have hG12 : G 0 1 ≤ 12 := by rw [G1, k1]; exact h12
    have ht : m3 0 5 = nI (g 0 5) := by rw [qm_ht c2, hQ, shG_5]
    simp only [q_0, q_1, q_2, q_3, q_4, q_5, q_6, q_7, q_8, q_10, q_11, q_12, q_13, q_14, q_20, q_26, q_30, q_40, q_50, q_51, q_56, q_60, q_90, q_99, q_100, q_19]
    simp (disch := omega) only [nI_ltI, nI_leI, nI_eq, q_okn, nI_clamp, nI_add, pk_mul, pk_sub, pk_div, q_nlt9, q_neg0, q_ne9, q_9ne, q_nle9, q_0, q_1, q_2, q_3, q_4, q_5, q_6, q_7, q_8, q_10, q_11, q_12, q_13, q_14, q_20, q_26, q_30, q_40, q_50, q_51, q_56, q_60, q_90, q_99, q_100, q_19, nl, Nat.le_refl, ↓reduceIte, ↓bE c1, lc_let, q_ift, ht, show g 0 5 + (g 2 c - gv) = g' 0 5 by omega]
  · refine Iv_fl hf' (by rw [f00, k0]) d7 p4.1 p4.2.1 p4.2.2.1 (fun i hh _ => p4.2.2.2 i hh)
  · unfold Cn at hn ⊢
    rw [d7 2 (by omega) (by omega), d6 0 (by omega) (by omega) (by omega), d6 4 (by omega) (by omega) (by omega), d6 3 (by omega) (by omega) (by omega), e5, k0, p8 4 (by omega), p8 3 (by omega)]
    omega
