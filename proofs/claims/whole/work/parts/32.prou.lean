/-! ===== the pure claim: a round ===== -/
variable {e : Nat} {d : Option Int32} {m : lc_St} {g : Nat → Nat → Nat}
theorem l_drop {c : Nat} (hc8 : c < 8) : ∀ j (g : Nat → Nat → Nat) (m : lc_St) n1 n2, RM 8 d m g → Iv g → j ≤ g 0 1 → j < n1 → j < n2 → ∃ g' m', P_X0_dropLoansOf_7 n1 (nI c) (nI j - nI 1) (nB g) = some (nB g') ∧ P_X4_breaks_176 n2 (nI c) (nI j - nI 1) m = some m' ∧ RM 8 d m' g' ∧ Iv g' ∧ Fr m m' ∧ g' 4 = g 4 ∧ g' 0 0 = g 0 0 ∧ m' 7 = m 7 := by
  intro j
  induction j with
  | zero =>
    intro g m n1 n2 hr hi hj h1 h2
    obtain ⟨n1, rfl⟩ : ∃ q, n1 = q + 1 := ⟨n1 - 1, by omega⟩; obtain ⟨n2, rfl⟩ : ∃ q, n2 = q + 1 := ⟨n2 - 1, by omega⟩
    rw [P_X0_dropLoansOf_7, P_X4_breaks_176]
    rw [if_pos q_m1, if_pos q_m1]
    exact ⟨g, m, rfl, rfl, hr, hi, Fr.rf m, rfl, rfl, rfl⟩
  | succ j ih =>
    intro g m n1 n2 hr hi hj h1 h2
    have h8 := hi.1
    have h12 := hi.2.1
    obtain ⟨n1, rfl⟩ : ∃ q, n1 = q + 1 := ⟨n1 - 1, by omega⟩; obtain ⟨n2, rfl⟩ : ∃ q, n2 = q + 1 := ⟨n2 - 1, by omega⟩
    have hlt : j < g 0 1 := by omega
    have hl := hi.2.2.2 j hlt
    have em : ∀ a : Int32, a + -nI 1 = a - nI 1 := fun a => (Int32.sub_eq_add_neg a (nI 1)).symm
    have m1 : (-1 : Int32) = -nI 1 := by decide +kernel
    have drop : ∃ g' m', P_X0_dropLoansOf_31 (fun x1 x2 s => P_X0_dropLoansOf_7 n1 x1 x2 s) (nI c) (nI j) (nB g) = some (nB g') ∧ P_X4_breaks_203 (fun x1 x5 s => P_X4_breaks_176 n2 x1 x5 s) (nI c) (nI j) m = some m' ∧ RM 8 d m' g' ∧ Iv g' ∧ Fr m m' ∧ g' 4 = g 4 ∧ g' 0 0 = g 0 0 ∧ m' 7 = m 7 := by
      have r1 := RM_a6 hr (g 0 6 + g 7 j)
      obtain ⟨g1, m1', p1, p2, p3, p4, p5, p6, p7, p8, p9, p10⟩ := q_remove r1 ((Iv_a hi (show 2 ≤ 6 by omega) (g 0 6 + g 7 j)).x j) (i := j) (by rw [gs_i _ _ _ (by omega)]; exact hlt)
      rw [gs_i _ _ _ (by omega)] at p6
      obtain ⟨g', m', z1, z2, z3, z4, z5, z6, z7, z8⟩ := ih g1 m1' n1 n2 p3 p4 (by omega) (by omega) (by omega)
      refine ⟨g', m', ?_, ?_, z3, z4, (((Fr.rf m).s1 _ _).tr p5).tr z5, by rw [z6, p8 4 (by omega) (by omega), gs_r _ _ _ (by omega)], by rw [z7, p7 0 (by omega) (by omega), gs_i _ _ _ (by omega)], by rw [z8, p9, ss_off _ _ _ (by omega)]⟩
      · unfold P_X0_dropLoansOf_31
        simp (disch := omega) only [nI_ltI, nI_leI, nI_eq, q_okn, nI_clamp, nI_add, pk_mul, pk_sub, pk_div, q_nlt9, q_neg0, q_ne9, q_9ne, q_nle9, q_ift, lc_let, nB_at, nB_ss]
        rw [bE p1, P_X0_dropLoansOf_51, m1, em]
        exact z1
      · unfold P_X4_breaks_203
        simp only [q_0, q_1, q_2, q_3, q_4, q_5, q_6, q_7, q_8, q_10, q_12, q_14, q_20, q_47, q_50, q_99, q_100, q_107, q_120, q_792]
        rw [bE (x4_ol2 hr hi hlt)]
        have e6 : m 1 6 = nI (g 0 6) := hr.1.2.2.2.2.2.2.1
        simp only [lc_let, e6, nI_add]
        rw [bE p2, P_X4_breaks_226, m1, em]
        exact z2
    have keep : ∃ g' m', P_X0_dropLoansOf_51 (fun x1 x2 s => P_X0_dropLoansOf_7 n1 x1 x2 s) (nI c) (nI j) (nB g) = some (nB g') ∧ P_X4_breaks_226 (fun x1 x5 s => P_X4_breaks_176 n2 x1 x5 s) (nI c) (nI j) m = some m' ∧ RM 8 d m' g' ∧ Iv g' ∧ Fr m m' ∧ g' 4 = g 4 ∧ g' 0 0 = g 0 0 ∧ m' 7 = m 7 := by
      obtain ⟨g', m', z⟩ := ih g m n1 n2 hr hi (by omega) (by omega) (by omega)
      refine ⟨g', m', ?_, ?_, z.2.2⟩
      · rw [P_X0_dropLoansOf_51, m1, em]; exact z.1
      · rw [P_X4_breaks_226, m1, em]; exact z.2.1
    rw [P_X0_dropLoansOf_7, P_X4_breaks_176]
    simp only [q_0, q_1, q_2, q_3, q_4, q_5, q_6, q_7, q_8, q_10, q_12, q_14, q_20, q_47, q_50, q_99, q_100, q_107, q_120, q_792]
    simp (disch := omega) only [nI_ltI, nI_leI, nI_eq, q_okn, nI_clamp, nI_add, pk_mul, pk_sub, pk_div, q_nlt9, q_neg0, q_ne9, q_9ne, q_nle9, ↓bE (x4_ol1 hr hi hlt), ↓bE (x4_ol0 hr hi hlt), Nat.not_lt_zero, nB_at, ↓reduceIte, q_ift, Nat.add_sub_cancel]
    by_cases h5 : g 5 j = c
    · by_cases h6 : g 6 j = c
      · simp only [h5, h6, ↓reduceIte]; exact drop
      · simp only [h5, h6, ↓reduceIte]; exact drop
    · by_cases h6 : g 6 j = c
      · simp only [h5, h6, ↓reduceIte]; exact drop
      · simp only [h5, h6, ↓reduceIte]; exact keep
theorem bit_nI : ∀ c, c < 8 → bit c = nI (2 ^ c) := by decide +kernel
theorem nI_or8 : ∀ a, a < 256 → ∀ c, c < 8 → nI a ||| bit c = nI (a ||| 2 ^ c) ∧ a ||| 2 ^ c < 256 := by decide +kernel
/-- what a round says of who went bankrupt -/
def Bk (r : Int32) (rho : Nat) (g g' : Nat → Nat → Nat) (c : Nat) : Prop := ∃ s, r = nI (rho ||| s) ∧ rho ||| s < 256 ∧ s < 256 ∧ (∀ x, s.testBit x = true → c ≤ x ∧ x < g 0 0 ∧ g 4 x < 3 ∧ g' 4 x = 3) ∧ (∀ x, g 4 x = 3 → g' 4 x = 3) ∧ (∀ x, x < c → g' 4 x = g 4 x)
theorem l_late : ∀ k c x rho (g : Nat → Nat → Nat) (m : lc_St) n1 n2, RM 8 d m g → Iv g → Mk x m → rho < 256 → c + k = g 0 0 → k < n1 → k < n2 → ∃ r g' m', P_X0_countLateRounds_4 n1 x (nI rho) (nI c) (nB g) = some (r, nB g') ∧ P_X4_round_75 n2 (nI rho) (nI c) m = some (r, lc_ss m' 1 0 (nI (g' 0 2 + 1))) ∧ RM 8 d m' g' ∧ Iv g' ∧ Fr m m' ∧ g' 0 0 = g 0 0 ∧ Bk r rho g g' c := by
  intro k
  induction k with
  | zero =>
    intro c x rho g m n1 n2 hr hi hm hrho hc h1 h2
    have h8 := hi.1
    obtain ⟨n1, rfl⟩ : ∃ q, n1 = q + 1 := ⟨n1 - 1, by omega⟩; obtain ⟨n2, rfl⟩ : ∃ q, n2 = q + 1 := ⟨n2 - 1, by omega⟩
    have hle : g 0 0 ≤ c := by omega
    rw [P_X0_countLateRounds_4, P_X4_round_75]
    simp only [q_0, q_1, q_2, q_3, q_4, q_5, q_6, q_7, q_8, q_10, q_12, q_14, q_20, q_47, q_50, q_99, q_100, q_107, q_120, q_792]
    simp (disch := omega) only [nI_ltI, nI_leI, nI_eq, q_okn, nI_clamp, nI_add, pk_mul, pk_sub, pk_div, q_nlt9, q_neg0, q_ne9, q_9ne, q_nle9, nB_at, hle, rm_nc hr, ↓reduceIte, lc_let, hr.1.1]
    refine ⟨_, g, m, rfl, rfl, hr, hi, Fr.rf m, rfl, 0, by rw [Nat.or_zero], by rw [Nat.or_zero]; exact hrho, by omega, fun x hx => ?_, fun x hx => hx, fun x hx => rfl⟩
    rw [Nat.zero_testBit] at hx; exact absurd hx (by decide)
  | succ k ih =>
    intro c x rho g m n1 n2 hr hi hm hrho hc h1 h2
    have h8 := hi.1
    obtain ⟨n1, rfl⟩ : ∃ q, n1 = q + 1 := ⟨n1 - 1, by omega⟩; obtain ⟨n2, rfl⟩ : ∃ q, n2 = q + 1 := ⟨n2 - 1, by omega⟩
    have hlt : c < g 0 0 := by omega
    have hc8 : c < 8 := by omega
    have hcl := hi.2.2.1 c hlt
    -- on to the next cell, when c has not gone bankrupt
    have next : ∀ g1 m1, RM 8 d m1 g1 → Iv g1 → m1 7 = m 7 → Fr m m1 → g1 0 0 = g 0 0 → (∀ y, y ≠ c → g1 4 y = g 4 y) → (g 4 c = 3 → g1 4 c = 3) → g1 4 c ≤ 3 → ∃ r g' m', P_X0_countLateRounds_85 (fun x1 x2 x3 s => P_X0_countLateRounds_4 n1 x1 x2 x3 s) x (nI rho) (nI c) (nB g1) = some (r, nB g') ∧ P_X4_round_140 (fun x1 x2 s => P_X4_round_75 n2 x1 x2 s) (nI rho) (nI c) m1 = some (r, lc_ss m' 1 0 (nI (g' 0 2 + 1))) ∧ RM 8 d m' g' ∧ Iv g' ∧ Fr m m' ∧ g' 0 0 = g 0 0 ∧ (∃ s, r = nI (rho ||| s) ∧ rho ||| s < 256 ∧ s < 256 ∧ (∀ y, s.testBit y = true → c ≤ y ∧ y < g 0 0 ∧ g 4 y < 3 ∧ g' 4 y = 3) ∧ (∀ y, g 4 y = 3 → g' 4 y = 3) ∧ (∀ y, y < c → g' 4 y = g 4 y)) := by
      intro g1 m1 r1 i1 e7 f1 g00 g4 g4c g4l
      obtain ⟨r, g', m', z1, z2, z3, z4, z5, z6, s, s1, s2, s3, s4, s5, s6⟩ := ih (c + 1) x rho g1 m1 n1 n2 r1 i1 (Mk_of hm e7) hrho (by omega) (by omega) (by omega)
      refine ⟨r, g', m', ?_, ?_, z3, z4, f1.tr z5, by rw [z6, g00], s, s1, s2, s3, fun y hy => ?_, fun y hy => ?_, fun y hy => ?_⟩
      · unfold P_X0_countLateRounds_85
        simp only [lc_let, q_0, q_1, q_2, q_3, q_4, q_5, q_6, q_7, q_8, q_10, q_12, q_14, q_20, q_47, q_50, q_99, q_100, q_107, q_120, q_792, nI_add]; exact z1
      · unfold P_X4_round_140
        simp only [lc_let, q_0, q_1, q_2, q_3, q_4, q_5, q_6, q_7, q_8, q_10, q_12, q_14, q_20, q_47, q_50, q_99, q_100, q_107, q_120, q_792, nI_add]; exact z2
      · have := s4 y hy
        rw [g4 y (by omega)] at this
        exact ⟨by omega, by omega, this.2.2.1, this.2.2.2⟩
      · by_cases q : y = c
        · subst q; exact s5 y (g4c hy)
        · exact s5 y (by rw [g4 y q]; exact hy)
      · rw [s6 y (by omega), g4 y (by omega)]
    rw [P_X0_countLateRounds_4, P_X4_round_75]
    simp only [q_0, q_1, q_2, q_3, q_4, q_5, q_6, q_7, q_8, q_10, q_12, q_14, q_20, q_47, q_50, q_99, q_100, q_107, q_120, q_792]
    by_cases h3 : g 4 c < 3
    · have hx0 := hm c hc8
      have hflag : m 1 (7 + 5 * c + 4) = nI 0 := by
        have := (hr.2.1 c hlt).2.2.2.2 (by omega)
        rw [if_pos h3] at this; exact this
      have hlate := (hr.2.1 c hlt).2.2.2.1
      by_cases hmiss : m 7 c = 0
      · -- the interest was met: late falls to 0
        have r1 := RM_c3 hr hc8 0 (fun _ => hflag)
        have i1 := Iv_c3 hi hlt (show 0 ≤ 3 by omega)
        have o3 := x4_of (m := lc_ss m 1 (7 + 5 * c + 3) (nI 0)) hc8 (show 3 < 5 by omega)
        rw [ss_eq] at o3
        have hb := x0_bank (c := c) i1 (by rw [gs_r _ _ _ (by omega)]; exact hlt)
        rw [gs_at, if_pos (by omega)] at hb
        have hz : (x &&& bit c = nI 0) = True := eq_true (hx0.mpr hmiss)
        have hmz : (m 7 c = nI 0) = True := eq_true hmiss
        have := next _ _ r1 i1 (by rw [ss_off _ _ _ (by omega)]) ((Fr.rf m).s1 _ _) (by rw [gs_r _ _ _ (by omega)]) (fun y hy => gs_i _ _ _ hy) (fun q => by omega) (by rw [gs_at]; omega)
        have eb : (nI 1 <<< (nI c &&& 31)) = bit c := rfl
        simp (disch := omega) only [nI_ltI, nI_leI, nI_eq, q_okn, nI_clamp, nI_add, pk_mul, pk_sub, pk_div, q_nlt9, q_neg0, q_ne9, q_9ne, q_nle9, ↓bE (x0_bank hi hlt), ↓bE (x4_sound hr hi hlt), ↓bE (x4_of3 hr hi hlt), nB_at, rm_nc hr, Nat.not_le.mpr hlt, h3, ↓reduceIte, q_ift, q_ifT, lc_let, eb, hz, hmz, Nat.one_ne_zero, P_X0_countLateRounds_36, P_X0_countLateRounds_60, P_X4_round_116, q_0, q_1, q_2, q_3, q_4, q_5, q_6, q_7, q_8, q_10, q_12, q_14, q_20, q_47, q_50, q_99, q_100, q_107, q_120, q_792, nB_ss]
        rw [bE hb, bE (x4_more _ hc8 (show 3 < 5 by omega)), hlate, q_neg (Nat.le_refl _), Nat.sub_self, bE o3]
        simp (disch := omega) only [nI_ltI, nI_leI, nI_eq, q_okn, nI_clamp, nI_add, pk_mul, pk_sub, pk_div, q_nlt9, q_neg0, q_ne9, q_9ne, q_nle9, ↓reduceIte, Nat.reduceEqDiff]
        exact this
      · have hz : (x &&& bit c = nI 0) = False := eq_false (fun z => hmiss (hx0.mp z))
        have hmz : (m 7 c = nI 0) = False := eq_false hmiss
        have eb : (nI 1 <<< (nI c &&& 31)) = bit c := rfl
        have o3 := x4_of (m := lc_ss m 1 (7 + 5 * c + 3) (nI (g 4 c + 1))) hc8 (show 3 < 5 by omega)
        rw [ss_eq] at o3
        have i1 := Iv_c3 hi hlt (show g 4 c + 1 ≤ 3 by omega)
        have hcl' : c < gs g 4 c (g 4 c + 1) 0 0 := by rw [gs_r _ _ _ (by omega)]; exact hlt
        have hb := x0_bank (c := c) i1 hcl'
        rw [gs_at] at hb
        simp (disch := omega) only [nI_ltI, nI_leI, nI_eq, q_okn, nI_clamp, nI_add, pk_mul, pk_sub, pk_div, q_nlt9, q_neg0, q_ne9, q_9ne, q_nle9, ↓bE (x0_bank hi hlt), ↓bE (x4_sound hr hi hlt), nB_at, rm_nc hr, Nat.not_le.mpr hlt, h3, ↓reduceIte, q_ift, q_ifT, lc_let, eb, hz, hmz, Nat.one_ne_zero, P_X0_countLateRounds_36, P_X0_countLateRounds_60, P_X4_round_116, q_0, q_1, q_2, q_3, q_4, q_5, q_6, q_7, q_8, q_10, q_12, q_14, q_20, q_47, q_50, q_99, q_100, q_107, q_120, q_792, nB_ss]
        rw [bE hb, bE (x4_more _ hc8 (show 3 < 5 by omega)), hlate, nI_add, bE o3]
        by_cases h4 : g 4 c + 1 < 3
        · have r1 := RM_c3 hr hc8 (g 4 c + 1) (fun _ => by rw [if_pos h4]; exact hflag)
          have := next _ _ r1 i1 (by rw [ss_off _ _ _ (by omega)]) ((Fr.rf m).s1 _ _) (by rw [gs_r _ _ _ (by omega)]) (fun y hy => gs_i _ _ _ hy) (fun q => by omega) (by rw [gs_at]; omega)
          simp (disch := omega) only [nI_ltI, nI_leI, nI_eq, q_okn, nI_clamp, nI_add, pk_mul, pk_sub, pk_div, q_nlt9, q_neg0, q_ne9, q_9ne, q_nle9, h4, ↓reduceIte, show ¬ g 4 c + 1 = 3 by omega]
          exact this
        · -- the third time: c goes bankrupt
          have h43 : g 4 c + 1 = 3 := by omega
          rw [h43] at i1 hcl' o3 ⊢
          have r1 := RM_c3 (RM_ex hr h8 c) hc8 3 (fun z => absurd rfl z)
          have hT := x0_owedBy i1 hc8
          have hT4 := x4_owedBy r1 i1 hc8
          have hch := x0_charge i1 hcl'
          have hch4 := x4_of1 r1 i1 hcl'
          obtain ⟨g1, m1, p1, p2, p3, p4, p5, p6, p7, p8⟩ := l_share (d := d) (c := c) (q0 := gs g 4 c 3 2 c) (T := ow (gs g 4 c 3) 6 c (gs g 4 c 3 0 1)) (gs g 4 c 3 0 1) 0 (gs g 4 c 3) (lc_ss m 1 (7 + 5 * c + 3) (nI 3)) lc_FU lc_FU (by rw [gs_self]; exact r1) i1 hcl' (by simp (disch := omega) only [gs_r]; omega) (Nat.le_refl _) rfl (by rw [Nat.sub_self, Nat.zero_mul]; exact Nat.zero_le _) (by rw [ss_ne _ _ _ (by omega)]; exact hflag) (gs_at _ _ _ _) (by omega) (q_FUn (by rw [gs_r _ _ _ (by omega)]; have := hi.2.1; omega)) (q_FUn (by rw [gs_r _ _ _ (by omega)]; have := hi.2.1; omega))
          obtain ⟨g2, m2, q1, q2, q3, q4, q5, q6, q7, q8⟩ := l_drop (d := d) (c := c) hc8 (g1 0 1) g1 m1 lc_FU lc_FU p3 p4 (Nat.le_refl _) (q_FUn (by have := p4.2.1; omega)) (q_FUn (by have := p4.2.1; omega))
          have S : P_X0_shareOut (nI c) (nB (gs g 4 c 3)) = some (nB g1) := by
            unfold P_X0_shareOut
            rw [bE (x0_has8 i1.1 hcl')]
            simp only [q_0, q_1, q_2, q_3, q_4, q_5, q_6, q_7, q_8, q_10, q_12, q_14, q_20, q_47, q_50, q_99, q_100, q_107, q_120, q_792]
            simp (disch := omega) only [nI_ltI, nI_leI, nI_eq, q_okn, nI_clamp, nI_add, pk_mul, pk_sub, pk_div, q_nlt9, q_neg0, q_ne9, q_9ne, q_nle9, Nat.one_ne_zero, ↓reduceIte]
            rw [bE hch, bE hT]
            exact p1
          have D : P_X0_dropLoansOf (nI c) (nB g1) = some (nB g2) := q1
          have B : P_X4_breaks (nI c) (lc_ss m 1 (7 + 5 * c + 3) (nI 3)) = some m2 := by
            unfold P_X4_breaks
            simp only [q_0, q_1, q_2, q_3, q_4, q_5, q_6, q_7, q_8, q_10, q_12, q_14, q_20, q_47, q_50, q_99, q_100, q_107, q_120, q_792]
            rw [bE hch4, bE hT4, p2]
            exact q2
          obtain ⟨o1, o2⟩ := nI_or8 rho hrho c hc8
          have e4 : ∀ y, y ≠ c → g2 4 y = g 4 y := fun y hy => by rw [q6, p6, gs_i _ _ _ hy]
          have e4c : g2 4 c = 3 := by rw [q6, p6, gs_at]
          have e00 : g2 0 0 = g 0 0 := by rw [q7, p7, gs_r _ _ _ (by omega)]
          have e7 : m2 7 = m 7 := by rw [q8, p8, ss_off _ _ _ (by omega)]
          obtain ⟨r, g', m', z1, z2, z3, z4, z5, z6, s, s1, s2, s3, s4, s5, s6⟩ := ih (c + 1) x (rho ||| 2 ^ c) g2 m2 n1 n2 q3 q4 (Mk_of hm e7) o2 (by omega) (by omega) (by omega)
          refine ⟨r, g', m', ?_, ?_, z3, z4, (((Fr.rf m).s1 _ _).tr p5).tr (q5.tr z5), by rw [z6, e00], 2 ^ c ||| s, by rw [← Nat.or_assoc]; exact s1, by rw [← Nat.or_assoc]; exact s2, ?_, fun y hy => ?_, fun y hy => ?_, fun y hy => ?_⟩
          · simp (disch := omega) only [nI_ltI, nI_leI, nI_eq, q_okn, nI_clamp, nI_add, pk_mul, pk_sub, pk_div, q_nlt9, q_neg0, q_ne9, q_9ne, q_nle9, show ¬ 3 < 3 by omega, ↓reduceIte, Nat.one_ne_zero]
            rw [bE S, bE D]
            simp only [P_X0_countLateRounds_85, lc_let, q_0, q_1, q_2, q_3, q_4, q_5, q_6, q_7, q_8, q_10, q_12, q_14, q_20, q_47, q_50, q_99, q_100, q_107, q_120, q_792, nI_add]
            rw [o1]
            exact z1
          · simp (disch := omega) only [nI_ltI, nI_leI, nI_eq, q_okn, nI_clamp, nI_add, pk_mul, pk_sub, pk_div, q_nlt9, q_neg0, q_ne9, q_9ne, q_nle9, ↓reduceIte]
            rw [bE B]
            simp only [P_X4_round_140, lc_let, q_0, q_1, q_2, q_3, q_4, q_5, q_6, q_7, q_8, q_10, q_12, q_14, q_20, q_47, q_50, q_99, q_100, q_107, q_120, q_792, nI_add]
            rw [o1]
            exact z2
          · have : 2 ^ c < 2 ^ 8 := Nat.pow_lt_pow_right (by omega) hc8
            exact Nat.or_lt_two_pow (n := 8) this s3
          · rw [Nat.testBit_or, Bool.or_eq_true] at hy
            rcases hy with hy | hy
            · have : c = y := by
                rw [Nat.testBit_two_pow] at hy
                exact of_decide_eq_true hy
              subst this
              exact ⟨Nat.le_refl _, hlt, h3, s5 c e4c⟩
            · have := s4 y hy
              rw [e4 y (by omega)] at this
              exact ⟨by omega, by omega, this.2.2.1, this.2.2.2⟩
          · by_cases q : y = c
            · subst q; omega
            · exact s5 y (by rw [e4 y q]; exact hy)
          · rw [s6 y (by omega), e4 y (by omega)]
    · have := next g m hr hi rfl (Fr.rf m) rfl (fun _ _ => rfl) (fun q => q) (by omega)
      simp (disch := omega) only [nI_ltI, nI_leI, nI_eq, q_okn, nI_clamp, nI_add, pk_mul, pk_sub, pk_div, q_nlt9, q_neg0, q_ne9, q_9ne, q_nle9, ↓bE (x0_bank hi hlt), ↓bE (x4_sound hr hi hlt), nB_at, rm_nc hr, Nat.not_le.mpr hlt, h3, ↓reduceIte, Nat.one_ne_zero]
      exact this
/-- one round -/
theorem q_round (hr : RM 8 d m g) (hi : Iv g) : ∃ s g' m', P_X0_letRoundGoBy (nB g) = some (nI s, nB g') ∧ P_X4_round m = some (nI s, m') ∧ RM 8 d m' g' ∧ Iv g' ∧ Fr m m' ∧ g' 0 0 = g 0 0 ∧ s < 256 ∧ (∀ x, s.testBit x = true → x < g 0 0 ∧ g 4 x < 3 ∧ g' 4 x = 3) ∧ (∀ x, g 4 x = 3 → g' 4 x = 3) := by
  have h8 := hi.1
  obtain ⟨g1, m1, a1, a2, a3, a4, a5, a6, a7⟩ := l_leak (d := d) (g 0 0) 0 g m lc_FU lc_FU hr hi (by omega) (q_FUn (by omega)) (q_FUn (by omega))
  obtain ⟨x, g2, m2, b1, b2, b3, b4, b5, b6, b7, b8⟩ := q_burn a3 a4
  obtain ⟨r, g3, m3, c1, c2, c3, c4, c5, c6, s, s1, s2, s3, s4, s5, s6⟩ := l_late (d := d) (g2 0 0) 0 x 0 g2 m2 lc_FU lc_FU b3 b4 b5 (by omega) (by omega) (q_FUn (by have := b4.1; omega)) (q_FUn (by have := b4.1; omega))
  rw [Nat.zero_or] at s1
  subst s1
  refine ⟨s, gs g3 0 2 (g3 0 2 + 1), lc_ss m3 1 0 (nI (g3 0 2 + 1)), ?_, ?_, RM_a0 c3 _, Iv_a c4 (by omega) _, ((a5.tr b6).tr c5).s1 _ _, by rw [gs_i _ _ _ (by omega), c6, b8, a7], s3, fun y hy => ?_, fun y hy => ?_⟩
  · unfold P_X0_letRoundGoBy
    have a1' : P_X0_leakAll (nB g) = some (nB g1) := a1
    have c1' : P_X0_countLateRounds x (nB g2) = some (nI s, nB g3) := c1
    rw [bE a1', bE2 b1, bE2 c1']
    simp only [lc_let, nB_at, q_0, q_1, q_2, q_3, q_4, q_5, q_6, q_7, q_8, q_10, q_12, q_14, q_20, q_47, q_50, q_99, q_100, q_107, q_120, q_792, nI_add, nB_ss]
  · unfold P_X4_round
    have a2' := a2
    rw [show (nI 0) = (0 : Int32) from rfl] at a2'
    rw [a2', bE b2]
    exact c2
  · have := s4 y hy
    rw [b7, a6] at this
    rw [gs_r _ _ _ (by omega)]
    exact ⟨by omega, this.2.2.1, this.2.2.2⟩
  · rw [gs_r _ _ _ (by omega)]
    exact s5 y (by rw [b7, a6]; exact hy)
