/-! ===== the pure claim: the text, a character at a time ===== -/
theorem q_48 : (48 : Int32) = nI 48 := by decide +kernel
theorem q_57 : (57 : Int32) = nI 57 := by decide +kernel
/-- the two texts alike -/
def HT (L : Nat) (ch : Nat → Nat) (T m : lc_St) : Prop := L ≤ 120 ∧ T 0 0 = nI L ∧ m 0 2 = nI L ∧ ∀ i, i < L → ch i < 256 ∧ T 1 i = nI (ch i) ∧ m 6 i = nI (ch i)
def tS (T : lc_St) (k : Nat) : lc_St := lc_ss T 0 1 (nI k)
def mS (m : lc_St) (k z : Nat) : lc_St := lc_ss (lc_ss m 0 6 (nI z)) 0 5 (nI k)
variable {L : Nat} {ch : Nat → Nat} {T m : lc_St}
theorem ss_ss (m : lc_St) (r p : Nat) (v w : Int32) : lc_ss (lc_ss m r p v) r p w = lc_ss m r p w := by
  funext a b
  by_cases h : a = r
  · subst h
    by_cases h2 : b = p
    · subst h2; rw [ss_eq, ss_eq]
    · rw [ss_ne _ _ _ h2, ss_ne _ _ _ h2, ss_ne _ _ _ h2]
  · rw [ss_off _ _ _ h, ss_off _ _ _ h, ss_off _ _ _ h]
theorem ss_sw (m : lc_St) (r : Nat) {p q : Nat} (v w : Int32) (h : p ≠ q) : lc_ss (lc_ss m r p v) r q w = lc_ss (lc_ss m r q w) r p v := by
  funext a b
  by_cases h1 : a = r
  · subst h1
    by_cases h2 : b = p
    · subst h2; rw [ss_ne _ _ _ h, ss_eq, ss_eq]
    · by_cases h3 : b = q
      · subst h3; rw [ss_eq, ss_ne _ _ _ h2, ss_eq]
      · rw [ss_ne _ _ _ h3, ss_ne _ _ _ h2, ss_ne _ _ _ h2, ss_ne _ _ _ h3]
  · rw [ss_off _ _ _ h1, ss_off _ _ _ h1, ss_off _ _ _ h1, ss_off _ _ _ h1]
theorem tS_tS (T : lc_St) (k j : Nat) : lc_ss (tS T k) 0 1 (nI j) = tS T j := ss_ss _ _ _ _ _
theorem tS_at (T : lc_St) (k : Nat) : tS T k 0 1 = nI k := ss_eq _ _ _ _
theorem tS_n (T : lc_St) (k : Nat) : tS T k 0 0 = T 0 0 := ss_ne _ _ _ (by omega)
theorem tS_1 (T : lc_St) (k : Nat) : tS T k 1 = T 1 := ss_off _ _ _ (by omega)
theorem tS_self {T : lc_St} {k : Nat} (h : T 0 1 = nI k) : tS T k = T := by
  unfold tS; rw [← h, ss_self]
theorem mS_5 (m : lc_St) (k z : Nat) : mS m k z 0 5 = nI k := ss_eq _ _ _ _
theorem mS_6 (m : lc_St) (k z : Nat) : mS m k z 0 6 = nI z := by
  unfold mS; rw [ss_ne _ _ _ (by omega), ss_eq]
theorem mS_0 (m : lc_St) (k z : Nat) {j : Nat} (h5 : j ≠ 5) (h6 : j ≠ 6) : mS m k z 0 j = m 0 j := by
  unfold mS; rw [ss_ne _ _ _ h5, ss_ne _ _ _ h6]
theorem mS_r (m : lc_St) (k z : Nat) {r : Nat} (h : r ≠ 0) : mS m k z r = m r := by
  unfold mS; rw [ss_off _ _ _ h, ss_off _ _ _ h]
theorem mS_mS (m : lc_St) (k z j y : Nat) : lc_ss (lc_ss (mS m k z) 0 6 (nI y)) 0 5 (nI j) = mS m j y := by
  unfold mS
  rw [ss_sw _ _ _ _ (show (5 : Nat) ≠ 6 by omega), ss_ss, ss_ss]
theorem mS_mm (m : lc_St) (k z j y : Nat) : mS (mS m k z) j y = mS m j y := mS_mS m k z j y
theorem mS_self {m : lc_St} {k z : Nat} (h5 : m 0 5 = nI k) (h6 : m 0 6 = nI z) : mS m k z = m := by
  unfold mS; rw [← h6, ss_self, ← h5, ss_self]
theorem HT.ms (h : HT L ch T m) (k z : Nat) : HT L ch T (mS m k z) := ⟨h.1, h.2.1, by rw [mS_0 _ _ _ (by omega) (by omega)]; exact h.2.2.1, fun i hi => by rw [mS_r _ _ _ (by omega)]; exact h.2.2.2 i hi⟩
theorem RM_ms {e : Nat} {d : Option Int32} {g : Nat → Nat → Nat} (hr : RM e d m g) (k z : Nat) : RM e d (mS m k z) g := RM_off0 (RM_off0 hr _ (by omega) (by omega)) _ (by omega) (by omega)
/-! ===== must ===== -/
theorem must37 (m : lc_St) (k z j y : Nat) : P_X4_must_37 (nI k) (nI j) (lc_ss (mS m k z) 0 6 (nI y)) = some (mS m (k + j) y) := by
  unfold P_X4_must_37
  simp only [q_let, nI_add]
  rw [mS_mS]
theorem must17 (m : lc_St) (k z y : Nat) (hy : y ≤ 1) : P_X4_must_17 (nI y) (mS m k z) = some (mS m (if y = 0 then k + 1 else k) y) := by
  unfold P_X4_must_17
  simp only [q_let, q_0, q_1, q_2, q_3, q_4, q_5, q_6, q_7, q_8, q_10, q_12, q_14, q_20, q_47, q_50, q_99, q_100, q_107, q_120, q_792]
  have e5 : lc_ss (mS m k z) 0 6 (nI y) 0 5 = nI k := by rw [ss_ne _ _ _ (by omega), mS_5]
  by_cases h : y = 0
  · subst h
    rw [q_ift (Or.inl rfl), ss_eq, if_pos rfl, if_pos rfl, e5, must37]
  · have : y = 1 := by omega
    subst this
    rw [q_ift (Or.inr rfl), ss_eq, if_neg (by decide +kernel), if_neg (by omega), e5, must37]
    rfl
theorem must1 (m : lc_St) (k : Nat) : P_X4_must (nI 1) (mS m k 0) = some (mS m (k + 1) 0) := by
  unfold P_X4_must
  simp only [q_0, q_1, q_2, q_3, q_4, q_5, q_6, q_7, q_8, q_10, q_12, q_14, q_20, q_47, q_50, q_99, q_100, q_107, q_120, q_792]
  rw [mS_6, if_pos rfl, if_neg (by decide +kernel)]
  exact must17 m k 0 0 (by omega)
theorem must0 (m : lc_St) (k : Nat) : P_X4_must (nI 0) (mS m k 0) = some (mS m k 1) := by
  unfold P_X4_must P_X4_must_12
  simp only [q_0, q_1, q_2, q_3, q_4, q_5, q_6, q_7, q_8, q_10, q_12, q_14, q_20, q_47, q_50, q_99, q_100, q_107, q_120, q_792]
  rw [mS_6, if_pos rfl, if_pos trivial]
  exact must17 m k 0 1 (by omega)
theorem mustS (v : Int32) (m : lc_St) (k : Nat) : P_X4_must v (mS m k 1) = some (mS m k 1) := by
  unfold P_X4_must P_X4_must_12
  simp only [q_0, q_1, q_2, q_3, q_4, q_5, q_6, q_7, q_8, q_10, q_12, q_14, q_20, q_47, q_50, q_99, q_100, q_107, q_120, q_792]
  rw [mS_6, if_neg (by decide +kernel)]
  exact must17 m k 1 1 (by omega)
/-! ===== the character where the reading is ===== -/
theorem x4_look (h : HT L ch T m) {k z : Nat} (hk : k < 1000) : P_X4_look (mS m k z) = some (if k < L then nI (ch k) else -1) := by
  obtain ⟨h1, h2, h3, h4⟩ := h
  unfold P_X4_look
  rw [mS_0 _ _ _ (by omega) (by omega), h3, mS_5, mS_r _ _ _ (by omega)]
  by_cases hL : k < L
  · rw [if_neg (by rw [nI_leI (by omega) (by omega)]; omega), if_pos hL, q_ift ((q_okn (by omega)).mpr (by omega)), nI_clamp (by omega), (h4 k hL).2.2]
  · rw [if_pos (by rw [nI_leI (by omega) (by omega)]; omega), if_neg hL]
theorem x2_isAt (h : HT L ch T m) {k v : Nat} (hk : k < 1000) (hv : v < 256) : P_X2_isAt (nI v) (tS T k) = some (nI (if k < L ∧ ch k = v then 1 else 0)) := by
  obtain ⟨h1, h2, h3, h4⟩ := h
  unfold P_X2_isAt
  rw [tS_n, h2, tS_at, tS_1]
  by_cases hL : k < L
  · obtain ⟨c1, c2, c3⟩ := h4 k hL
    rw [if_neg (by rw [nI_leI (by omega) (by omega)]; omega), q_ift ((q_okn (by omega)).mpr (by omega)), nI_clamp (by omega), c2]
    by_cases q : ch k = v
    · rw [if_pos (by rw [q]), if_pos ⟨hL, q⟩]; rfl
    · rw [if_neg (by rw [nI_eq (by omega) (by omega)]; exact q), if_neg (fun z => q z.2)]; rfl
  · rw [if_pos (by rw [nI_leI (by omega) (by omega)]; omega), if_neg (fun z => hL z.1)]; rfl
theorem m49 : (-1 : Int32) - nI 48 < 0 := by decide +kernel
theorem dh43 (s : lc_St) : P_X2_digitHere_43 s = some (-9) := by
  unfold P_X2_digitHere_43 P_X2_digitHere_44
  rw [if_pos rfl]
theorem dh44 (s : lc_St) : P_X2_digitHere_44 1 s = lc_if (lc_ok (s 0 1) 120) (some (s 1 (s 0 1).toNatClampNeg - 48)) := by
  unfold P_X2_digitHere_44
  rw [if_neg (by decide +kernel)]
/-- a digit, or none, on both sides -/
theorem q_dig (h : HT L ch T m) {k : Nat} (hk : k < 1000) : (∃ v w, v ≤ 9 ∧ k < L ∧ P_X2_digitHere (tS T k) = some (nI v) ∧ (∀ z, P_X4_look (mS m k z) = some w) ∧ w - nI 48 = nI v) ∨ (P_X2_digitHere (tS T k) = some (-9) ∧ ∃ w, (∀ z, P_X4_look (mS m k z) = some w) ∧ (w - nI 48 < 0 ∨ ∃ x, 10 ≤ x ∧ x < 300 ∧ w - nI 48 = nI x)) := by
  have hl := fun z => x4_look (z := z) h hk
  obtain ⟨h1, h2, h3, h4⟩ := h
  have D : P_X2_digitHere (tS T k) = if k < L then (if ch k < 48 then some (-9) else if 57 < ch k then some (-9) else some (nI (ch k - 48))) else some (-9) := by
    unfold P_X2_digitHere
    rw [dh43, dh44, tS_n, h2, tS_at, tS_1, q_48, q_57]
    by_cases hL : k < L
    · obtain ⟨c1, c2, c3⟩ := h4 k hL
      have ok : lc_ok (nI k) 120 := (q_okn (by omega)).mpr (by omega)
      rw [if_neg (by rw [nI_leI (by omega) (by omega)]; omega), if_pos hL, q_ift ok, q_ift ok, q_ift ok, nI_clamp (by omega), c2]
      by_cases q : ch k < 48
      · rw [if_pos q, if_pos (by rw [nI_ltI (by omega) (by omega)]; exact q)]
      · rw [if_neg q, if_neg (by rw [nI_ltI (by omega) (by omega)]; exact q)]
        by_cases q2 : 57 < ch k
        · rw [if_pos q2, if_pos (by rw [nI_ltI (by omega) (by omega)]; exact q2)]
        · rw [if_neg q2, if_neg (by rw [nI_ltI (by omega) (by omega)]; exact q2), pk_sub (by omega)]
    · rw [if_pos (by rw [nI_leI (by omega) (by omega)]; omega), if_neg hL]
  by_cases hL : k < L
  · obtain ⟨c1, c2, c3⟩ := h4 k hL
    rw [if_pos hL] at D
    simp only [hL, ↓reduceIte] at hl
    by_cases q : ch k < 48
    · rw [if_pos q] at D
      exact Or.inr ⟨D, nI (ch k), hl, Or.inl (pk_sneg (by omega) q)⟩
    · rw [if_neg q] at D
      by_cases q2 : 57 < ch k
      · rw [if_pos q2] at D
        exact Or.inr ⟨D, nI (ch k), hl, Or.inr ⟨ch k - 48, by omega, by omega, pk_sub (by omega)⟩⟩
      · rw [if_neg q2] at D
        exact Or.inl ⟨ch k - 48, nI (ch k), by omega, hL, D, hl, pk_sub (by omega)⟩
  · rw [if_neg hL] at D
    simp only [hL, ↓reduceIte] at hl
    exact Or.inr ⟨D, -1, hl, Or.inl m49⟩
