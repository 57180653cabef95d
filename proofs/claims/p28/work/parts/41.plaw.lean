/-! ===== the pure claim: the law's loop ===== -/
variable {e : Nat} {m : lc_St} {g : Nat → Nat → Nat} {M M' : lc_MM}
theorem l_cell (L : Nat) (xs : Nat → Int32) (x : Int32) (hx : ¬ x < 0) (hL : L < 2 ^ 31) : ∃ r, P_L_cell L xs x = some r := by
  unfold P_L_cell
  by_cases q : Int32.ofNat L ≤ x
  · rw [if_pos q]; exact ⟨_, rfl⟩
  · rw [if_neg q]
    obtain ⟨j, hj, rfl⟩ := nI_of hx
    have hq : ¬ nI L ≤ nI j := q
    rw [nI_leI hL hj] at hq
    rw [q_ift ((q_okn hj).mpr (by omega))]
    exact ⟨_, rfl⟩
theorem r_413 (h : St M g) (K : Int32 → lc_MM → Option Int32) (k : Nat) : P_L_law_413 K (nI k) (nI 1) M = K (nI (k + 1)) M := by
  unfold P_L_law_413
  simp only [q_0, q_1, q_2, q_3, q_4, q_5, q_6, q_7, q_8, q_10, q_11, q_12, q_13, q_14, q_20, q_26, q_30, q_40, q_50, q_51, q_56, q_60, q_90, q_99, q_100, q_19]
  rw [if_neg (show ¬ nI 1 = nI 0 by decide +kernel), bE2 (r_are h), if_neg (show ¬ nI 1 = nI 0 by decide +kernel)]
  simp only [lc_let, nI_add]
/-- one action and what is compared after it -/
def Go (K : Int32 → lc_MM → Option Int32) (g : Nat → Nat → Nat) (k : Nat) (X : Option Int32) : Prop := ∃ g' M', X = K (nI (k + 1)) M' ∧ St M' g' ∧ g 0 0 ≤ g' 0 0
theorem Go.of {K : Int32 → lc_MM → Option Int32} {k : Nat} {X : Option (Int32 × lc_MM)} (hX : Good M g X) : Go K g k (lc_bd2 X (fun r M => P_L_law_413 K (nI k) r M)) := by
  obtain ⟨g', M', a, s, c⟩ := hX
  exact ⟨g', M', by rw [bE2 a]; exact r_413 s K k, s, c⟩
theorem r_124 (h : St M g) (h1 : 1 ≤ g 0 0) (K : Int32 → lc_MM → Option Int32) (k : Nat) (x : Int32) {t : Nat} (ht : t < 13) : Go K g k (P_L_law_124 K (nI k) x (nI t) M) := by
  have c0 : Go K g k (P_L_law_188 K (nI k) x M) := by unfold P_L_law_188; exact Go.of (a_lent h h1 x)
  have c4 : Go K g k (P_L_law_205 K (nI k) x M) := by unfold P_L_law_205; exact Go.of (a_repaid h x)
  have c6 : Go K g k (P_L_law_222 K (nI k) x M) := by unfold P_L_law_222; exact Go.of (a_charged h x)
  have c7 : Go K g k (P_L_law_237 K (nI k) x M) := by unfold P_L_law_237; exact Go.of (a_drawn h x)
  have c9 : Go K g k (P_L_law_260 K (nI k) x M) := by
    obtain ⟨t, lt, et⟩ := l_low (x >>> ((nI 8) &&& 31)) (n := 4) (by omega) (by omega)
    obtain ⟨a, la, ea⟩ := l_low x (n := 50) (by omega) (by omega)
    obtain ⟨b, lb, eb⟩ := l_low x (n := 3) (by omega) (by omega)
    unfold P_L_law_260
    simp only [q_0, q_1, q_2, q_3, q_4, q_5, q_6, q_7, q_8, q_10, q_11, q_12, q_13, q_14, q_20, q_26, q_30, q_40, q_50, q_51, q_56, q_60, q_90, q_99, q_100, q_19]
    rw [bE et]
    by_cases q : t = 0
    · rw [if_pos (by rw [q]), bE ea, nI_add]
      exact Go.of (a_passed h (N := 1 + a) (by omega) (by omega))
    · rw [if_neg (by rw [nI_eq (by omega) (by omega)]; exact q), bE eb, nI_add]
      exact Go.of (a_passed h (N := 1 + b) (by omega) (by omega))
  have c11 : Go K g k (P_L_law_300 K (nI k) x M) := by
    obtain ⟨g', M', a, s, c⟩ := a_leak h h1 K (nI k) x
    exact ⟨g', M', by rw [a]; exact r_413 s K k, s, c⟩
  have c12 : Go K g k (P_L_law_401 K (nI k) x M) := by unfold P_L_law_401; exact Go.of (a_added h x).1
  unfold P_L_law_124
  simp only [q_0, q_1, q_2, q_3, q_4, q_5, q_6, q_7, q_8, q_10, q_11, q_12, q_13, q_14, q_20, q_26, q_30, q_40, q_50, q_51, q_56, q_60, q_90, q_99, q_100, q_19, q_9L]
  rcases (show t = 0 ∨ t = 1 ∨ t = 2 ∨ t = 3 ∨ t = 4 ∨ t = 5 ∨ t = 6 ∨ t = 7 ∨ t = 8 ∨ t = 9 ∨ t = 10 ∨ t = 11 ∨ t = 12 by omega) with rfl | rfl | rfl | rfl | rfl | rfl | rfl | rfl | rfl | rfl | rfl | rfl | rfl
  · simp (disch := omega) only [nI_eq, Nat.reduceEqDiff, Nat.one_ne_zero, ↓reduceIte]; exact c0
  · simp (disch := omega) only [nI_eq, Nat.reduceEqDiff, Nat.one_ne_zero, ↓reduceIte]; exact c0
  · simp (disch := omega) only [nI_eq, Nat.reduceEqDiff, Nat.one_ne_zero, ↓reduceIte]; exact c0
  · simp (disch := omega) only [nI_eq, Nat.reduceEqDiff, Nat.one_ne_zero, ↓reduceIte]; exact c0
  · simp (disch := omega) only [nI_eq, Nat.reduceEqDiff, Nat.one_ne_zero, ↓reduceIte]; exact c4
  · simp (disch := omega) only [nI_eq, Nat.reduceEqDiff, Nat.one_ne_zero, ↓reduceIte]; exact c4
  · simp (disch := omega) only [nI_eq, Nat.reduceEqDiff, Nat.one_ne_zero, ↓reduceIte]; exact c6
  · simp (disch := omega) only [nI_eq, Nat.reduceEqDiff, Nat.one_ne_zero, ↓reduceIte]; exact c7
  · simp (disch := omega) only [nI_eq, Nat.reduceEqDiff, Nat.one_ne_zero, ↓reduceIte]; exact c7
  · simp (disch := omega) only [nI_eq, Nat.reduceEqDiff, Nat.one_ne_zero, ↓reduceIte]; exact c9
  · simp (disch := omega) only [nI_eq, Nat.reduceEqDiff, Nat.one_ne_zero, ↓reduceIte]; exact c9
  · simp (disch := omega) only [nI_eq, Nat.reduceEqDiff, Nat.one_ne_zero, ↓reduceIte]; exact c11
  · simp (disch := omega) only [nI_eq, Nat.reduceEqDiff, Nat.one_ne_zero, ↓reduceIte]; exact c12
theorem r_124a (h : St M g) (K : Int32 → lc_MM → Option Int32) (k : Nat) (x : Int32) : ∃ g' M', P_L_law_124 K (nI k) x (nI 12) M = K (nI (k + 1)) M' ∧ St M' g' ∧ g 0 0 ≤ g' 0 0 ∧ (g 0 0 < 6 → g' 0 0 = g 0 0 + 1) := by
  have e : P_L_law_124 K (nI k) x (nI 12) M = lc_bd2 (P_L_isAdded x M) (fun r M => P_L_law_413 K (nI k) r M) := by
    unfold P_L_law_124 P_L_law_401
    simp only [q_0, q_1, q_2, q_3, q_4, q_5, q_6, q_7, q_8, q_10, q_11, q_12, q_13, q_14, q_20, q_26, q_30, q_40, q_50, q_51, q_56, q_60, q_90, q_99, q_100, q_19, q_9L]
    simp (disch := omega) only [nI_eq, Nat.reduceEqDiff, ↓reduceIte]
  rw [e]
  obtain ⟨A, B⟩ := a_added h x
  by_cases q : g 0 0 < 6
  · obtain ⟨g', M', a, s, c⟩ := B q
    exact ⟨g', M', by rw [bE2 a]; exact r_413 s K k, s, by omega, fun _ => c⟩
  · obtain ⟨g', M', a, s, c⟩ := A
    exact ⟨g', M', by rw [bE2 a]; exact r_413 s K k, s, c, fun z => absurd z q⟩
theorem r_88 (L : Nat) (xs : Nat → Int32) (hL : L ≤ 260) : ∀ d k n (g : Nat → Nat → Nat) (M : lc_MM), k + d = 56 → d < n → St M g → (k ≤ g 0 0 ∨ 4 ≤ g 0 0) → P_L_law_88 L xs n (nI k) M = some 1 := by
  intro d
  induction d with
  | zero =>
    intro k n g M hk h1 h hc
    obtain ⟨n, rfl⟩ : ∃ q, n = q + 1 := ⟨n - 1, by omega⟩
    have : k = 56 := by omega
    subst this
    rw [P_L_law_88]
    simp only [q_0, q_1, q_2, q_3, q_4, q_5, q_6, q_7, q_8, q_10, q_11, q_12, q_13, q_14, q_20, q_26, q_30, q_40, q_50, q_51, q_56, q_60, q_90, q_99, q_100, q_19]
    rw [if_pos (by rw [nI_leI (by omega) (by omega)]; exact Nat.le_refl _)]
  | succ d ih =>
    intro k n g M hk h1 h hc
    obtain ⟨n, rfl⟩ : ∃ q, n = q + 1 := ⟨n - 1, by omega⟩
    obtain ⟨x, hx⟩ := l_cell L xs (nI k) (nI_pos (by omega)) (by omega)
    rw [P_L_law_88]
    simp only [q_56, q_4, q_12, q_13, q_26]
    rw [if_neg (by rw [nI_leI (by omega) (by omega)]; omega), bE hx]
    by_cases q4 : 4 ≤ k
    · rw [if_pos (by rw [nI_leI (by omega) (by omega)]; exact q4)]
      obtain ⟨t, lt, et⟩ := l_low (x >>> ((nI 26) &&& 31)) (n := 13) (by omega) (by omega)
      rw [bE et]
      obtain ⟨g', M', a, s, c⟩ := r_124 h (by omega) (fun x9 M => P_L_law_88 L xs n x9 M) k x lt
      rw [a]
      exact ih (k + 1) n g' M' (by omega) (by omega) s (by omega)
    · rw [if_neg (by rw [nI_leI (by omega) (by omega)]; exact q4)]
      obtain ⟨g', M', a, s, c, f⟩ := r_124a h (fun x9 M => P_L_law_88 L xs n x9 M) k x
      rw [a]
      refine ih (k + 1) n g' M' (by omega) (by omega) s ?_
      by_cases q6 : g 0 0 < 6
      · have := f q6; omega
      · omega
/-! ===== the start ===== -/
def g00 : Nat → Nat → Nat := fun r i => if r = 0 ∧ i = 7 then 4294967287 else 0
theorem m00 {u : Nat} (h : u < 19) : lw_M0 u = nB g00 := by
  have h9 : (-9 : Int32) = nI 4294967287 := by decide +kernel
  funext r i
  show (if u < 19 ∧ r = 0 ∧ i = 7 then (-9 : Int32) else 0) = nI (if r = 0 ∧ i = 7 then 4294967287 else 0)
  by_cases q : r = 0 ∧ i = 7
  · rw [if_pos ⟨h, q⟩, if_pos q, h9]
  · rw [if_neg (fun z => q z.2), if_neg q]; rfl
theorem m00z {u r i : Nat} (h : 19 ≤ u) : lw_M0 u r i = nI 0 := by
  show (if u < 19 ∧ r = 0 ∧ i = 7 then (-9 : Int32) else 0) = nI 0
  rw [if_neg (by omega)]; rfl
theorem g00z {r i : Nat} (h : ¬ (r = 0 ∧ i = 7)) : g00 r i = 0 := if_neg h
theorem st00 : St lw_M0 g00 := by
  have e0 : g00 0 0 = 0 := g00z (by omega)
  have e1 : g00 0 1 = 0 := g00z (by omega)
  refine ⟨m00 (by omega), ⟨by rw [e0]; omega, by rw [e1]; omega, fun c hc => ?_, fun i hi => ?_⟩, ?_, ⟨0, 0, by omega, by omega, m00z (by omega), m00z (by omega)⟩, ⟨?_, ?_, ?_, ?_, by rw [e0]; omega⟩⟩
  · rw [e0] at hc; omega
  · rw [e1] at hi; omega
  · unfold Cn
    rw [e0, g00z (by omega), g00z (by omega), g00z (by omega)]; rfl
  · exact ⟨by rw [g00z (by omega)]; exact m00z (by omega), by rw [g00z (by omega)]; exact m00z (by omega), by rw [g00z (by omega)]; exact m00z (by omega), by rw [g00z (by omega)]; exact m00z (by omega), by rw [g00z (by omega)]; exact m00z (by omega), by rw [g00z (by omega)]; exact m00z (by omega), by rw [g00z (by omega)]; exact m00z (by omega)⟩
  · intro c hc; rw [e0] at hc; omega
  · intro i hi; rw [e1] at hi; omega
  · intro k _ _; exact m00z (by omega)
theorem give00 (gt : Nat → Nat → Nat) : ∃ b, P_X0_giveEach (nI 1) (nB (cpS g00 gt)) = some (nI 0, b) := by
  have e : cpS g00 gt 0 0 = 0 := rfl
  have f : nB (cpS g00 gt) 0 0 = nI 0 := by rw [nB_at, e]
  have hle : nI 0 ≤ nI 0 := by decide +kernel
  refine ⟨lc_ss (nB (cpS g00 gt)) 0 4 (nB (cpS g00 gt) 0 4 + nI 0), ?_⟩
  unfold P_X0_giveEach
  rw [q_FU, P_X0_giveEach_2]
  simp only [q_0, q_1, q_2, q_3, q_4, q_5, q_6, q_7, q_8, q_10, q_11, q_12, q_13, q_14, q_20, q_26, q_30, q_40, q_50, q_51, q_56, q_60, q_90, q_99, q_100, q_19]
  rw [f, if_pos hle, q_FU, P_X0_giveEach_49, f, if_pos hle]
  simp only [lc_let]
theorem pure_main (L : Nat) (xs : Nat → Int32) (hL : L ≤ 260) : P_L_law_47 L xs lw_M0 = some 1 := by
  obtain ⟨b, hb⟩ := give00 g00
  have h := st00
  obtain ⟨M1, a1, s1⟩ := h.no (w_draw2 h.1 h.2.2.2.1 (gt := g00) (m00 (by omega)) (u := 1) (by omega) (by omega) hb)
  obtain ⟨M2, a2, s2⟩ := s1.no (w_pass1 s1.2.2.2.1 (u := 0) (by omega) (by omega))
  have e0 : g00 0 0 = 0 := g00z (by omega)
  obtain ⟨M3, a3, s3⟩ := s2.no (w_lend1 s2.1 s2.2.1 s2.2.2.2.1 (x := 0) (y := 1) (u := 1) (r := 1) (by omega) (by omega) (by rw [e0]; omega))
  have z := r_88 L xs hL 56 0 60 g00 M3 (by omega) (by omega) s3 (by omega)
  unfold P_L_law_47
  simp only [q_0, q_1, q_2, q_3, q_4, q_5, q_6, q_7, q_8, q_10, q_11, q_12, q_13, q_14, q_20, q_26, q_30, q_40, q_50, q_51, q_56, q_60, q_90, q_99, q_100, q_19]
  rw [bE2 a1, if_pos rfl, bE2 a2, if_pos rfl, bE2 a3, if_pos rfl, z]
  rfl
