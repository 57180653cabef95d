/-! ===== the pure claim: borrowing and giving ===== -/
variable {e : Nat} {d : Option Int32} {m : lc_St} {g : Nat → Nat → Nat}
theorem q_sublt {a b u : Nat} (ha : a < 2 ^ 30) (hb : b < 2 ^ 30) (hu : u < 2 ^ 30) : (nI a - nI b < nI u) = (a < b + u) := by
  rw [eq_iff_iff, Int32.lt_iff_toInt_lt, pk_sub_toInt ha hb, nI_toInt (by omega)]
  omega
theorem q_suble {a b u : Nat} (ha : a < 2 ^ 30) (hb : b < 2 ^ 30) (hu : u < 2 ^ 30) : (nI u ≤ nI a - nI b) = (b + u ≤ a) := by
  rw [eq_iff_iff, Int32.le_iff_toInt_le, pk_sub_toInt ha hb, nI_toInt (by omega)]
  omega
/-- the sum of the first places -/
def tn (h : Nat → Nat) : Nat → Nat
  | 0 => 0
  | n + 1 => tn h n + h n
theorem tn_cong {h h' : Nat → Nat} : ∀ {n}, (∀ x, x < n → h x = h' x) → tn h n = tn h' n
  | 0, _ => rfl
  | n + 1, q => by
    show tn h n + h n = tn h' n + h' n
    rw [tn_cong (fun x hx => q x (by omega)), q n (by omega)]
theorem tn_up (h : Nat → Nat) (x v : Nat) : ∀ {n}, x < n → tn (va_up h x v) n + h x = tn h n + v
  | 0, q => absurd q (by omega)
  | n + 1, q => by
    show tn (va_up h x v) n + va_up h x v n + h x = tn h n + h n + v
    by_cases hx : x = n
    · subst hx
      rw [va_up_self, tn_cong (h := va_up h x v) (h' := h) (fun y hy => va_up_ne _ _ (by omega))]
      omega
    · rw [va_up_ne _ _ (by omega)]
      have := tn_up h x v (n := n) (by omega)
      omega
theorem tn_two {h h' : Nat → Nat} {x y n : Nat} (hx : x < n) (hy : y < n) (hxy : x ≠ y) (hz : ∀ z, z ≠ x → z ≠ y → h' z = h z) (hs : h' x + h' y ≤ h x + h y) : tn h' n ≤ tn h n := by
  have e1 : h' = va_up (va_up h x (h' x)) y (h' y) := by
    funext z
    by_cases q : z = y
    · subst q; rw [va_up_self]
    · rw [va_up_ne _ _ q]
      by_cases q2 : z = x
      · subst q2; rw [va_up_self]
      · rw [va_up_ne _ _ q2]; exact hz z q2 q
  have a1 := tn_up h x (h' x) hx
  have a2 := tn_up (va_up h x (h' x)) y (h' y) hy
  rw [va_up_ne _ _ (fun z => hxy z.symm), ← e1] at a2
  omega
theorem tn_le {h : Nat → Nat} {b : Nat} : ∀ {n}, (∀ x, x < n → h x ≤ b) → tn h n ≤ n * b
  | 0, _ => by simp [tn]
  | n + 1, q => by
    have := tn_le (h := h) (b := b) (n := n) (fun x hx => q x (by omega))
    have := q n (by omega)
    show tn h n + h n ≤ (n + 1) * b
    rw [Nat.succ_mul]; omega
theorem lendS_r (g : Nat → Nat → Nat) (x y u r : Nat) {k : Nat} (hk : k = 1 ∨ k = 3 ∨ k = 4) : lendS g x y u r k = g k := by
  unfold lendS shS; simp (disch := omega) only [gs_r, lnS_c]
theorem lendS_0 (g : Nat → Nat → Nat) (x y u r : Nat) {k : Nat} (h1 : k ≠ 1) (h5 : k ≠ 5) : lendS g x y u r 0 k = g 0 k := by
  unfold lendS shS; simp (disch := omega) only [gs_r, gs_i, lnS_c]
theorem lendS_2 (g : Nat → Nat → Nat) (x y u r : Nat) {z : Nat} (h1 : z ≠ x) (h5 : z ≠ y) : lendS g x y u r 2 z = g 2 z := by
  unfold lendS shS; simp (disch := omega) only [gs_r, gs_i, lnS_c]
theorem lendS_2x (g : Nat → Nat → Nat) (x y u r : Nat) (h : x ≠ y) : lendS g x y u r 2 x = g 2 x - u := by
  unfold lendS shS; simp (disch := omega) only [gs_r, gs_i, gs_at, lnS_c]
theorem lendS_2y (g : Nat → Nat → Nat) (x y u r : Nat) : lendS g x y u r 2 y = g 2 y + arr u x y := by
  unfold lendS shS; simp (disch := omega) only [gs_r, gs_i, gs_at, lnS_c]
theorem q_borrow (hr : RM 8 d m g) (hi : Iv g) {c u : Nat} (hc : c < g 0 0) (h3 : g 4 c < 3) (hlow : g 2 c < u) (hu : u ≤ 99) : ∃ b g' m', P_X0_borrowUpTo (nI c) (nI u) (nB g) = some (nI b, nB g') ∧ P_X4_borrows (nI c) (nI u) m = some (nI b, m') ∧ b ≤ 1 ∧ RM 8 d m' g' ∧ Iv g' ∧ Fr m m' ∧ g' 4 = g 4 ∧ g' 0 0 = g 0 0 ∧ g' 0 7 = g 0 7 ∧ g' 0 8 = g 0 8 ∧ tn (g' 2) (g 0 0) ≤ tn (g 2) (g 0 0) ∧ (b = 1 → u ≤ g' 2 c ∧ ∀ x, u ≤ g 2 x → u ≤ g' 2 x) := by
  have h8 := hi.1
  have h12 := hi.2.1
  have hcl := hi.2.2.1 c hc
  obtain ⟨r, e1, e2, ok⟩ := q_rich hr hi (c := c) (by omega)
  -- both do nothing
  have no : ∀ X Y, X = some (nI 0, nB g) → Y = some (nI 0, m) → ∃ b g' m', X = some (nI b, nB g') ∧ Y = some (nI b, m') ∧ b ≤ 1 ∧ RM 8 d m' g' ∧ Iv g' ∧ Fr m m' ∧ g' 4 = g 4 ∧ g' 0 0 = g 0 0 ∧ g' 0 7 = g 0 7 ∧ g' 0 8 = g 0 8 ∧ tn (g' 2) (g 0 0) ≤ tn (g 2) (g 0 0) ∧ (b = 1 → u ≤ g' 2 c ∧ ∀ x, u ≤ g 2 x → u ≤ g' 2 x) := fun X Y hX hY => ⟨0, g, m, hX, hY, by omega, hr, hi, Fr.rf m, rfl, rfl, rfl, rfl, Nat.le_refl _, fun q => absurd q (by omega)⟩
  unfold P_X0_borrowUpTo P_X4_borrows
  simp only [q_0, q_1, q_2, q_3, q_4, q_5, q_6, q_7, q_8, q_10, q_12, q_14, q_20, q_47, q_50, q_99, q_100, q_107, q_120, q_792]
  rw [bE e1, bE e2]
  rcases ok with rfl | ⟨b, hb, hbc, hb3, rfl⟩
  · rw [if_pos rfl, if_pos rfl]
    exact no _ _ rfl rfl
  · have hbl := hi.2.2.1 b hb
    obtain ⟨s, t1, t2, t3, t4, t5⟩ := q_size (nB g) (u := u - g 2 c) (y := b) (z := c) (by omega) (by omega) (by omega)
    have hL := x0_makeLoan (r := 10) hi hb hc hbc (show s ≤ 1000 by omega)
    have hcG : (g 2 b < s + u) = ¬ (s + u ≤ g 2 b) := by rw [eq_iff_iff]; omega
    simp (disch := omega) only [nI_ltI, nI_leI, nI_eq, q_okn, nI_clamp, nI_add, pk_mul, pk_sub, pk_div, q_nlt9, q_neg0, q_ne9, q_9ne, q_nle9, ↓bE (x0_charge hi hc), ↓bE (x0_charge hi hb), ↓bE t1, ↓bE t2, ↓bE (x4_of0 hr hi hc), ↓bE (x4_of1 hr hi hc), ↓bE (x4_of1 hr hi hb), ↓reduceIte, rm_nl hr, q_sublt, q_suble]
    by_cases hA : s + u ≤ g 2 b
    · by_cases hB : g 1 c < u
      · have hn : ¬ clG g b c s := fun q => by have := q.2.2.2.2; omega
        rw [if_neg hn] at hL
        simp (disch := omega) only [hA, hB, show ¬ g 2 b < s + u by omega, ↓reduceIte]
        rw [hL]
        exact no _ _ rfl rfl
      · by_cases hC : g 0 1 = 12
        · have hn : ¬ clG g b c s := fun q => by have := q.2.2.1; omega
          rw [if_neg hn] at hL
          simp (disch := omega) only [hA, hB, hC, show ¬ g 2 b < s + u by omega, ↓reduceIte]
          rw [hL]
          exact no _ _ rfl rfl
        · have hn : clG g b c s := ⟨hb3, h3, by omega, by omega, by omega⟩
          rw [if_pos hn] at hL
          obtain ⟨m', p1, p2, p3, p4⟩ := x4_makeLoan hr hi hb hc hbc (by omega) (by omega) (show 10 ≤ 50 by omega) hn
          have ha := arr_le s b c
          refine ⟨1, lendS g b c s 10, m', ?_, ?_, by omega, p2, p3, p4, lendS_r _ _ _ _ _ (by omega), lendS_0 _ _ _ _ _ (by omega) (by omega), lendS_0 _ _ _ _ _ (by omega) (by omega), lendS_0 _ _ _ _ _ (by omega) (by omega), ?_, fun _ => ⟨?_, fun x hx => ?_⟩⟩
          · simp (disch := omega) only [show ¬ g 2 b < s + u by omega, ↓reduceIte]
            rw [bE2 hL, if_neg (by rw [q_ne9 (by omega)]; exact not_false)]
          · simp (disch := omega) only [hA, hB, hC, ↓reduceIte]
            rw [bE2 p1]
            simp (disch := omega) only [nI_ltI, nI_leI, nI_eq, q_okn, nI_clamp, nI_add, pk_mul, pk_sub, pk_div, q_nlt9, q_neg0, q_ne9, q_9ne, q_nle9, Nat.not_lt_zero, ↓reduceIte]
          · refine tn_two hb hc hbc (fun z h1 h2 => lendS_2 _ _ _ _ _ h1 h2) ?_
            rw [lendS_2x _ _ _ _ _ hbc, lendS_2y]; omega
          · rw [lendS_2y]; omega
          · by_cases q1 : x = b
            · subst q1; rw [lendS_2x _ _ _ _ _ hbc]; omega
            · by_cases q2 : x = c
              · subst q2; omega
              · rw [lendS_2 _ _ _ _ _ q1 q2]; exact hx
    · by_cases hB : g 1 c < u
      · simp (disch := omega) only [hA, hB, show g 2 b < s + u by omega, ↓reduceIte]
        exact no _ _ rfl rfl
      · by_cases hC : g 0 1 = 12
        · simp (disch := omega) only [hA, hB, hC, show g 2 b < s + u by omega, ↓reduceIte]
          exact no _ _ rfl rfl
        · simp (disch := omega) only [hA, hB, hC, show g 2 b < s + u by omega, ↓reduceIte]
          exact no _ _ rfl rfl
/-- how many of the first cells are sound -/
def cs (h : Nat → Nat) : Nat → Nat
  | 0 => 0
  | n + 1 => cs h n + (if h n < 3 then 1 else 0)
theorem cs_le (h : Nat → Nat) : ∀ n, cs h n ≤ n
  | 0 => Nat.le_refl _
  | n + 1 => by
    have := cs_le h n
    show cs h n + _ ≤ _
    split <;> omega
theorem l_give1 {u : Nat} (hu : u ≤ 99) : ∀ k c (g : Nat → Nat → Nat) (m : lc_St) n1 n2, RM 8 d m g → Iv g → (∀ x, x < c → g 4 x < 3 → u ≤ g 2 x) → c + k = g 0 0 → k < n1 → k < n2 → ∃ g' m', RM 8 d m' g' ∧ Iv g' ∧ Fr m m' ∧ g' 4 = g 4 ∧ g' 0 0 = g 0 0 ∧ g' 0 7 = g 0 7 ∧ g' 0 8 = g 0 8 ∧ tn (g' 2) (g 0 0) ≤ tn (g 2) (g 0 0) ∧ ((P_X0_giveEach_2 n1 (nI u) (nI c) (nB g) = some (nI 0, nB g') ∧ P_X4_draws0_4 n2 (nI u) (nI (cs (g 4) c)) (nI c) m = some (nI 0, m')) ∨ ((∀ x, x < g 0 0 → g' 4 x < 3 → u ≤ g' 2 x) ∧ P_X0_giveEach_2 n1 (nI u) (nI c) (nB g) = P_X0_giveEach_49 lc_FU (nI u) (nI 0) (nI 0) (nB g') ∧ P_X4_draws0_4 n2 (nI u) (nI (cs (g 4) c)) (nI c) m = P_X4_draws0_54 lc_FU (nI u) (nI (cs (g 4) (g 0 0))) (nI 0) m')) := by
  intro k
  induction k with
  | zero =>
    intro c g m n1 n2 hr hi hall hk h1 h2
    have h8 := hi.1
    obtain ⟨n1, rfl⟩ : ∃ q, n1 = q + 1 := ⟨n1 - 1, by omega⟩; obtain ⟨n2, rfl⟩ : ∃ q, n2 = q + 1 := ⟨n2 - 1, by omega⟩
    have hce : c = g 0 0 := by omega
    refine ⟨g, m, hr, hi, Fr.rf m, rfl, rfl, rfl, rfl, Nat.le_refl _, Or.inr ⟨fun x hx => hall x (by omega), ?_, ?_⟩⟩
    · rw [P_X0_giveEach_2]
      simp (disch := omega) only [nI_ltI, nI_leI, nI_eq, q_okn, nI_clamp, nI_add, pk_mul, pk_sub, pk_div, q_nlt9, q_neg0, q_ne9, q_9ne, q_nle9, nB_at, show g 0 0 ≤ c by omega, ↓reduceIte, q_0, q_1, q_2, q_3, q_4, q_5, q_6, q_7, q_8, q_10, q_12, q_14, q_20, q_47, q_50, q_99, q_100, q_107, q_120, q_792]
    · rw [P_X4_draws0_4]
      simp (disch := omega) only [nI_ltI, nI_leI, nI_eq, q_okn, nI_clamp, nI_add, pk_mul, pk_sub, pk_div, q_nlt9, q_neg0, q_ne9, q_9ne, q_nle9, rm_nc hr, show g 0 0 ≤ c by omega, ↓reduceIte, q_0, q_1, q_2, q_3, q_4, q_5, q_6, q_7, q_8, q_10, q_12, q_14, q_20, q_47, q_50, q_99, q_100, q_107, q_120, q_792]
      rw [hce]
  | succ k ih =>
    intro c g m n1 n2 hr hi hall hk h1 h2
    have h8 := hi.1
    obtain ⟨n1, rfl⟩ : ∃ q, n1 = q + 1 := ⟨n1 - 1, by omega⟩; obtain ⟨n2, rfl⟩ : ∃ q, n2 = q + 1 := ⟨n2 - 1, by omega⟩
    have hlt : c < g 0 0 := by omega
    have hcl := hi.2.2.1 c hlt
    have hcs := cs_le (g 4) c
    rw [P_X0_giveEach_2, P_X4_draws0_4]
    simp only [q_0, q_1, q_2, q_3, q_4, q_5, q_6, q_7, q_8, q_10, q_12, q_14, q_20, q_47, q_50, q_99, q_100, q_107, q_120, q_792]
    by_cases h3 : g 4 c < 3
    · have ecs : cs (g 4) c + 1 = cs (g 4) (c + 1) := by
        show _ = cs (g 4) c + (if g 4 c < 3 then 1 else 0)
        rw [if_pos h3]
      by_cases hq : u ≤ g 2 c
      · have z := ih (c + 1) g m n1 n2 hr hi (fun x hx => by
          by_cases q : x = c
          · subst q; exact fun _ => hq
          · exact hall x (by omega)) (by omega) (by omega) (by omega)
        simp (disch := omega) only [nI_ltI, nI_leI, nI_eq, q_okn, nI_clamp, nI_add, pk_mul, pk_sub, pk_div, q_nlt9, q_neg0, q_ne9, q_9ne, q_nle9, ↓bE (x0_bank hi hlt), ↓bE (x4_sound hr hi hlt), ↓bE (x4_of1 hr hi hlt), nB_at, rm_nc hr, Nat.not_le.mpr hlt, h3, hq, ↓reduceIte, q_ift, q_ifT, lc_let, Nat.one_ne_zero, P_X0_giveEach_39, P_X4_draws0_46, q_0, q_1, q_2, q_3, q_4, q_5, q_6, q_7, q_8, q_10, q_12, q_14, q_20, q_47, q_50, q_99, q_100, q_107, q_120, q_792, ecs]
        exact z
      · obtain ⟨b, g1, m1, p1, p2, p3, p4, p5, p6, p7, p8, p9, p10, p11, p12⟩ := q_borrow hr hi hlt h3 (by omega) hu
        simp (disch := omega) only [nI_ltI, nI_leI, nI_eq, q_okn, nI_clamp, nI_add, pk_mul, pk_sub, pk_div, q_nlt9, q_neg0, q_ne9, q_9ne, q_nle9, ↓bE (x0_bank hi hlt), ↓bE (x4_sound hr hi hlt), ↓bE (x4_of1 hr hi hlt), nB_at, rm_nc hr, Nat.not_le.mpr hlt, h3, hq, ↓reduceIte, q_ift, q_ifT, lc_let, Nat.one_ne_zero, ↓bE2 p1, ↓bE2 p2, P_X0_giveEach_39, P_X4_draws0_46, q_0, q_1, q_2, q_3, q_4, q_5, q_6, q_7, q_8, q_10, q_12, q_14, q_20, q_47, q_50, q_99, q_100, q_107, q_120, q_792, ecs]
        by_cases hb : b = 0
        · simp only [hb, ↓reduceIte]
          exact ⟨g1, m1, p4, p5, p6, p7, p8, p9, p10, p11, Or.inl ⟨rfl, rfl⟩⟩
        · obtain ⟨w1, w2⟩ := p12 (by omega)
          obtain ⟨g', m', z1, z2, z3, z4, z5, z6, z7, z8, z9⟩ := ih (c + 1) g1 m1 n1 n2 p4 p5 (fun x hx hx3 => by
            by_cases q : x = c
            · subst q; exact w1
            · exact w2 x (hall x (by omega) (by rw [p7] at hx3; exact hx3))) (by omega) (by omega) (by omega)
          simp only [hb, ↓reduceIte]
          rw [p8, p7] at z9
          rw [p8] at z8
          exact ⟨g', m', z1, z2, p6.tr z3, by rw [z4, p7], by rw [z5, p8], by rw [z6, p9], by rw [z7, p10], Nat.le_trans z8 p11, z9⟩
    · have ecs : cs (g 4) c = cs (g 4) (c + 1) := by
        show _ = cs (g 4) c + (if g 4 c < 3 then 1 else 0)
        rw [if_neg h3, Nat.add_zero]
      have z := ih (c + 1) g m n1 n2 hr hi (fun x hx => by
        by_cases q : x = c
        · subst q; exact fun q3 => absurd q3 h3
        · exact hall x (by omega)) (by omega) (by omega) (by omega)
      simp (disch := omega) only [nI_ltI, nI_leI, nI_eq, q_okn, nI_clamp, nI_add, pk_mul, pk_sub, pk_div, q_nlt9, q_neg0, q_ne9, q_9ne, q_nle9, ↓bE (x0_bank hi hlt), ↓bE (x4_sound hr hi hlt), nB_at, rm_nc hr, Nat.not_le.mpr hlt, h3, ↓reduceIte, lc_let, Nat.one_ne_zero, P_X0_giveEach_39, P_X4_draws0_46, q_0, q_1, q_2, q_3, q_4, q_5, q_6, q_7, q_8, q_10, q_12, q_14, q_20, q_47, q_50, q_99, q_100, q_107, q_120, q_792]
      rw [ecs]
      exact z
theorem ss_self (m : lc_St) (r p : Nat) : lc_ss m r p (m r p) = m := by
  funext a b
  by_cases h : a = r
  · subst h
    by_cases h2 : b = p
    · subst h2; rw [ss_eq]
    · rw [ss_ne _ _ _ h2]
  · rw [ss_off _ _ _ h]
theorem l_give2 {u : Nat} (hu : u ≤ 99) : ∀ k c (g : Nat → Nat → Nat) (m : lc_St) n1 n2, RM 8 d m g → Iv g → (∀ x, c ≤ x → x < g 0 0 → g 4 x < 3 → u ≤ g 2 x) → c + k = g 0 0 → k < n1 → k < n2 → ∃ g' m', P_X0_giveEach_49 n1 (nI u) (nI (u * cs (g 4) c)) (nI c) (nB g) = some (nI (u * cs (g 4) (g 0 0)), nB g') ∧ P_X4_draws0_54 n2 (nI u) (nI (cs (g 4) (g 0 0))) (nI c) m = some (nI (u * cs (g 4) (g 0 0)), m') ∧ RM 8 d m' g' ∧ Iv g' ∧ Fr m m' ∧ g' 4 = g 4 ∧ g' 0 0 = g 0 0 ∧ g' 0 7 = g 0 7 ∧ g' 0 8 = g 0 8 ∧ tn (g' 2) (g 0 0) + u * cs (g 4) (g 0 0) = tn (g 2) (g 0 0) + u * cs (g 4) c := by
  intro k
  induction k with
  | zero =>
    intro c g m n1 n2 hr hi hall hk h1 h2
    have h8 := hi.1
    obtain ⟨n1, rfl⟩ : ∃ q, n1 = q + 1 := ⟨n1 - 1, by omega⟩; obtain ⟨n2, rfl⟩ : ∃ q, n2 = q + 1 := ⟨n2 - 1, by omega⟩
    have hce : c = g 0 0 := by omega
    have h4 : m 1 4 = nI (g 0 4) := hr.1.2.2.2.2.1
    refine ⟨gs g 0 4 (g 0 4 + u * cs (g 4) (g 0 0)), lc_ss m 1 4 (nI (g 0 4 + u * cs (g 4) (g 0 0))), ?_, ?_, RM_a4 hr _, Iv_a hi (by omega) _, (Fr.rf m).s1 _ _, gs_r _ _ _ (by omega), gs_i _ _ _ (by omega), gs_i _ _ _ (by omega), gs_i _ _ _ (by omega), by rw [gs_r _ _ _ (by omega), hce]⟩
    · rw [P_X0_giveEach_49, hce]
      simp (disch := omega) only [nI_ltI, nI_leI, nI_eq, q_okn, nI_clamp, nI_add, pk_mul, pk_sub, pk_div, q_nlt9, q_neg0, q_ne9, q_9ne, q_nle9, nB_at, Nat.le_refl, ↓reduceIte, lc_let, nB_ss]
    · rw [P_X4_draws0_54, hce]
      simp (disch := omega) only [nI_ltI, nI_leI, nI_eq, q_okn, nI_clamp, nI_add, pk_mul, pk_sub, pk_div, q_nlt9, q_neg0, q_ne9, q_9ne, q_nle9, rm_nc hr, Nat.le_refl, ↓reduceIte, lc_let, h4]
  | succ k ih =>
    intro c g m n1 n2 hr hi hall hk h1 h2
    have h8 := hi.1
    obtain ⟨n1, rfl⟩ : ∃ q, n1 = q + 1 := ⟨n1 - 1, by omega⟩; obtain ⟨n2, rfl⟩ : ∃ q, n2 = q + 1 := ⟨n2 - 1, by omega⟩
    have hlt : c < g 0 0 := by omega
    have hc8 : c < 8 := by omega
    have hcl := hi.2.2.1 c hlt
    have hm1 := (hr.2.1 c hlt).2.1
    rw [P_X0_giveEach_49, P_X4_draws0_54]
    simp only [q_0, q_1, q_2, q_3, q_4, q_5, q_6, q_7, q_8, q_10, q_12, q_14, q_20, q_47, q_50, q_99, q_100, q_107, q_120, q_792]
    by_cases h3 : g 4 c < 3
    · have hq := hall c (Nat.le_refl _) hlt h3
      have ecs : u * cs (g 4) c + u = u * cs (g 4) (c + 1) := by
        show _ = u * (cs (g 4) c + (if g 4 c < 3 then 1 else 0))
        rw [if_pos h3, Nat.mul_add, Nat.mul_one]
      have G4 : gs g 2 c (g 2 c - u) 4 = g 4 := gs_r _ _ _ (by omega)
      have G0 : ∀ k, gs g 2 c (g 2 c - u) 0 k = g 0 k := fun k => by rw [gs_r _ _ _ (by omega)]
      have G2 : gs g 2 c (g 2 c - u) 2 = va_up (g 2) c (g 2 c - u) := by funext z; rw [gs_if]; rfl
      have ht := tn_up (g 2) c (g 2 c - u) hlt
      obtain ⟨g', m', z1, z2, z3, z4, z5, z6, z7, z8, z9, z10⟩ := ih (c + 1) (gs g 2 c (g 2 c - u)) _ n1 n2 (RM_c1 hr hc8 (g 2 c - u)) (Iv_c1 hi hlt (by omega)) (fun x hx hx2 hx3 => by
        rw [gs_i _ _ _ (by omega)]
        exact hall x (by omega) (by rw [G0] at hx2; exact hx2) (by rw [G4] at hx3; exact hx3)) (by rw [G0]; omega) (by omega) (by omega)
      rw [G4, G0] at z1 z2 z10
      rw [G2] at z10
      refine ⟨g', m', ?_, ?_, z3, z4, ((Fr.rf m).s1 _ _).tr z5, by rw [z6, G4], by rw [z7, G0], by rw [z8, G0], by rw [z9, G0], by omega⟩
      · rw [← z1]
        simp (disch := omega) only [nI_ltI, nI_leI, nI_eq, q_okn, nI_clamp, nI_add, pk_mul, pk_sub, pk_div, q_nlt9, q_neg0, q_ne9, q_9ne, q_nle9, ↓bE (x0_bank hi hlt), nB_at, Nat.not_le.mpr hlt, h3, ↓reduceIte, q_ift, q_ifT, lc_let, Nat.one_ne_zero, nB_ss, P_X0_giveEach_79, q_0, q_1, q_2, q_3, q_4, q_5, q_6, q_7, q_8, q_10, q_12, q_14, q_20, q_47, q_50, q_99, q_100, q_107, q_120, q_792, ecs]
      · rw [← z2]
        simp (disch := omega) only [nI_ltI, nI_leI, nI_eq, q_okn, nI_clamp, nI_add, pk_mul, pk_sub, pk_div, q_nlt9, q_neg0, q_ne9, q_9ne, q_nle9, ↓bE (x4_sound hr hi hlt), rm_nc hr, Nat.not_le.mpr hlt, h3, ↓reduceIte, lc_let, Nat.one_ne_zero, P_X4_draws0_81, q_0, q_1, q_2, q_3, q_4, q_5, q_6, q_7, q_8, q_10, q_12, q_14, q_20, q_47, q_50, q_99, q_100, q_107, q_120, q_792, ↓bE (x4_more (m := m) (-nI u) hc8 (show 1 < 5 by omega)), hm1, q_neg]
    · have ecs : cs (g 4) c = cs (g 4) (c + 1) := by
        show _ = cs (g 4) c + (if g 4 c < 3 then 1 else 0)
        rw [if_neg h3, Nat.add_zero]
      obtain ⟨g', m', z1, z2, z3⟩ := ih (c + 1) g m n1 n2 hr hi (fun x hx => hall x (by omega)) (by omega) (by omega) (by omega)
      rw [← ecs] at z1 z3
      have es : lc_ss m 1 (7 + 5 * c + 1) (m 1 (7 + 5 * c + 1) + nI 0) = m := by
        rw [show m 1 (7 + 5 * c + 1) + nI 0 = m 1 (7 + 5 * c + 1) from Int32.add_zero _, ss_self]
      refine ⟨g', m', ?_, ?_, z3⟩
      · rw [← z1]
        simp (disch := omega) only [nI_ltI, nI_leI, nI_eq, q_okn, nI_clamp, nI_add, pk_mul, pk_sub, pk_div, q_nlt9, q_neg0, q_ne9, q_9ne, q_nle9, ↓bE (x0_bank hi hlt), nB_at, Nat.not_le.mpr hlt, h3, ↓reduceIte, lc_let, Nat.one_ne_zero, P_X0_giveEach_79, q_0, q_1, q_2, q_3, q_4, q_5, q_6, q_7, q_8, q_10, q_12, q_14, q_20, q_47, q_50, q_99, q_100, q_107, q_120, q_792]
      · rw [← z2]
        simp (disch := omega) only [nI_ltI, nI_leI, nI_eq, q_okn, nI_clamp, nI_add, pk_mul, pk_sub, pk_div, q_nlt9, q_neg0, q_ne9, q_9ne, q_nle9, ↓bE (x4_sound hr hi hlt), rm_nc hr, Nat.not_le.mpr hlt, h3, ↓reduceIte, lc_let, P_X4_draws0_81, q_0, q_1, q_2, q_3, q_4, q_5, q_6, q_7, q_8, q_10, q_12, q_14, q_20, q_47, q_50, q_99, q_100, q_107, q_120, q_792, ↓bE (x4_more (m := m) (nI 0) hc8 (show 1 < 5 by omega)), es]
/-- giving u each: r is what all got; 0: it could not be done -/
theorem q_give (hr : RM 8 d m g) (hi : Iv g) {u : Nat} (hu : u ≤ 99) : ∃ r g' m', P_X0_giveEach (nI u) (nB g) = some (nI r, nB g') ∧ P_X4_draws0 (nI u) m = some (nI r, m') ∧ RM 8 d m' g' ∧ Iv g' ∧ Fr m m' ∧ g' 4 = g 4 ∧ g' 0 0 = g 0 0 ∧ g' 0 7 = g 0 7 ∧ g' 0 8 = g 0 8 ∧ tn (g' 2) (g 0 0) + r ≤ tn (g 2) (g 0 0) ∧ r ≤ 792 := by
  have h8 := hi.1
  obtain ⟨g1, m1, a1, a2, a3, a4, a5, a6, a7, a8, a9⟩ := l_give1 (d := d) hu (g 0 0) 0 g m lc_FU lc_FU hr hi (fun x hx => absurd hx (by omega)) (by omega) (q_FUn (by omega)) (q_FUn (by omega))
  rcases a9 with ⟨b1, b2⟩ | ⟨b1, b2, b3⟩
  · exact ⟨0, g1, m1, b1, b2, a1, a2, a3, a4, a5, a6, a7, by omega, by omega⟩
  · obtain ⟨g', m', z1, z2, z3, z4, z5, z6, z7, z8, z9, z10⟩ := l_give2 (d := d) hu (g1 0 0) 0 g1 m1 lc_FU lc_FU a1 a2 (fun x _ hx => b1 x (by omega)) (by omega) (q_FUn (by omega)) (q_FUn (by omega))
    have e0 : u * cs (g1 4) 0 = 0 := rfl
    rw [e0] at z1 z10
    rw [a4, a5] at z1 z2 z10
    have hcs := cs_le (g 4) (g 0 0)
    have hmul : u * cs (g 4) (g 0 0) ≤ 99 * 8 := Nat.mul_le_mul hu (by omega)
    exact ⟨_, g', m', b2.trans z1, b3.trans z2, z3, z4, a3.tr z5, by rw [z6, a4], by rw [z7, a5], by rw [z8, a6], by rw [z9, a7], by omega, by omega⟩
