/-! ===== the pure claim: numbers in the text ===== -/
variable {L : Nat} {ch : Nat → Nat} {T m : lc_St}
/-- a digit within bounds, on the class's side -/
theorem x2_rd1 {v lo hi k : Nat} (hv : v ≤ 9) (hlo : lo < 100) (hhi : hi < 100) (h : P_X2_digitHere (tS T k) = some (nI v)) (hb : lo ≤ v ∧ v ≤ hi) : P_X2_readDigit (nI lo) (nI hi) (tS T k) = some (nI v, tS T (k + 1)) := by
  have e : P_X3_isWithin (nI v) (nI lo) (nI hi) = some (nI 1) := by
    have z := x4_in lo hi v (by omega) (by omega) (by omega)
    rw [if_pos hb] at z
    exact z
  unfold P_X2_readDigit
  rw [bE h, if_neg (by rw [q_ne9 (by omega)]; exact not_false), bE e, if_neg (by decide +kernel)]
  simp only [q_let, q_0, q_1, q_2, q_3, q_4, q_5, q_6, q_7, q_8, q_10, q_12, q_14, q_20, q_47, q_50, q_99, q_100, q_107, q_120, q_792]
  rw [tS_at, nI_add, tS_tS]
theorem x2_rd0 {v lo hi k : Nat} (hv : v ≤ 9) (hlo : lo < 100) (hhi : hi < 100) (h : P_X2_digitHere (tS T k) = some (nI v)) (hb : ¬ (lo ≤ v ∧ v ≤ hi)) : P_X2_readDigit (nI lo) (nI hi) (tS T k) = some (-9, tS T k) := by
  have e : P_X3_isWithin (nI v) (nI lo) (nI hi) = some (nI 0) := by
    have z := x4_in lo hi v (by omega) (by omega) (by omega)
    rw [if_neg hb] at z
    exact z
  unfold P_X2_readDigit
  rw [bE h, if_neg (by rw [q_ne9 (by omega)]; exact not_false), bE e, if_pos n00]
theorem x2_rdn {a b : Int32} {k : Nat} (h : P_X2_digitHere (tS T k) = some (-9)) : P_X2_readDigit a b (tS T k) = some (-9, tS T k) := by
  unfold P_X2_readDigit
  rw [bE h, if_pos rfl]
/-- the model's loop: stuck, and at its end -/
theorem num_st {n : Nat} (a b v l : Int32) (m : lc_St) (k : Nat) : P_X4_number_16 (n + 1) a b v l (mS m k 1) = some (v, mS m k 1) := by
  rw [P_X4_number_16, mS_6]
  split
  · rfl
  · rw [if_neg (by decide +kernel)]
theorem num_end {n : Nat} (a b v : Int32) (s : lc_St) : P_X4_number_16 (n + 1) a b v (nI 0) s = some (v, s) := by
  rw [P_X4_number_16, if_pos le00]
/-- one digit, not allowed -/
theorem num_bad {n v l k : Nat} {a b : Int32} {w : Int32} (hl : 1 ≤ l) (hl2 : l ≤ 10) (h : ∀ z, P_X4_look (mS m k z) = some w) (hw : w - nI 48 < 0 ∨ ∃ x, 10 ≤ x ∧ x < 300 ∧ w - nI 48 = nI x) : P_X4_number_16 (n + 1 + 1) a b (nI v) (nI l) (mS m k 0) = some (nI v, mS m k 1) := by
  have e : P_X4_in (w - nI 48) (nI 0) (nI 9) = some (nI 0) := by
    rcases hw with hw | ⟨x, h1, h2, h3⟩
    · exact x4_inn 0 9 hw (by omega)
    · rw [h3, x4_in 0 9 x (by omega) (by omega) (by omega), if_neg (by omega)]
  rw [P_X4_number_16, mS_6, if_neg (nI_nle hl (by omega)), if_pos n00, bE (h 0)]
  simp only [q_let, q_0, q_1, q_2, q_3, q_4, q_5, q_6, q_7, q_8, q_10, q_12, q_14, q_20, q_47, q_50, q_99, q_100, q_107, q_120, q_792, q_48, q_9L]
  rw [bE e, if_pos rfl]
  unfold P_X4_number_82 P_X4_number_83 P_X4_number_109
  simp only [q_0, q_1, q_2, q_3, q_4, q_5, q_6, q_7, q_8, q_10, q_12, q_14, q_20, q_47, q_50, q_99, q_100, q_107, q_120, q_792, q_let]
  rw [bE (must0 m k), if_pos trivial]
  exact num_st _ _ _ _ m k
theorem num_dig {n v l k lo hi u : Nat} {w : Int32} (hl : l = 1 ∨ l = 10) (hv : v ≤ 9) (hu : u ≤ 9) (hlo : lo < 100) (hhi : hi < 100) (h : ∀ z, P_X4_look (mS m k z) = some w) (hw : w - nI 48 = nI u) : P_X4_number_16 (n + 1 + 1) (nI lo) (nI hi) (nI v) (nI l) (mS m k 0) = if (10 * v + u) * l ≤ hi ∧ lo ≤ (10 * v + u) * l + l - 1 then P_X4_number_16 (n + 1) (nI lo) (nI hi) (nI (10 * v + u)) (nI (l / 10)) (mS m (k + 1) 0) else some (nI v, mS m k 1) := by
  have e : P_X4_in (nI u) (nI 0) (nI 9) = some (nI 1) := by
    rw [x4_in 0 9 u (by omega) (by omega) (by omega), if_pos (by omega)]
  have hb : (10 * v + u) * l < 2000 := by
    rcases hl with q | q <;> subst q <;> omega
  have hl1 : 1 ≤ l ∧ l ≤ 10 := by omega
  rw [P_X4_number_16, mS_6, if_neg (nI_nle hl1.1 (by omega)), if_pos n00, bE (h 0)]
  simp only [q_let, q_0, q_1, q_2, q_3, q_4, q_5, q_6, q_7, q_8, q_10, q_12, q_14, q_20, q_47, q_50, q_99, q_100, q_107, q_120, q_792, q_48, q_9L]
  rw [hw, bE e, if_neg (by decide +kernel), pk_mul, nI_add, pk_mul, nI_add, pk_sub (by omega)]
  have bad : P_X4_number_82 (fun x2 x3 x4 x5 s => P_X4_number_16 (n + 1) x2 x3 x4 x5 s) (nI lo) (nI hi) (nI v) (nI l) (nI u) (mS m k 0) = some (nI v, mS m k 1) := by
    unfold P_X4_number_82 P_X4_number_83 P_X4_number_109
    simp only [q_0, q_1, q_2, q_3, q_4, q_5, q_6, q_7, q_8, q_10, q_12, q_14, q_20, q_47, q_50, q_99, q_100, q_107, q_120, q_792, q_let]
    rw [bE (must0 m k), if_pos trivial]
    exact num_st _ _ _ _ m k
  rw [bad]
  by_cases h1 : (10 * v + u) * l ≤ hi
  · rw [if_neg (by rw [nI_ltI (by omega) (by omega)]; omega)]
    by_cases h2 : lo ≤ (10 * v + u) * l + l - 1
    · rw [if_neg (by rw [nI_ltI (by omega) (by omega)]; omega), if_pos ⟨h1, h2⟩]
      unfold P_X4_number_83 P_X4_number_109
      simp only [q_0, q_1, q_2, q_3, q_4, q_5, q_6, q_7, q_8, q_10, q_12, q_14, q_20, q_47, q_50, q_99, q_100, q_107, q_120, q_792, q_let]
      rw [bE (must1 m k), if_neg (by decide +kernel), pk_mul, nI_add, pk_div (by omega) (by omega) (by omega)]
    · rw [if_pos (by rw [nI_ltI (by omega) (by omega)]; omega), if_neg (fun z => h2 z.2)]
  · rw [if_pos (by rw [nI_ltI (by omega) (by omega)]; omega), if_neg (fun z => h1 z.1)]
/-- two digits on the class's side, behind the first -/
theorem x2_rn {v lo hi k : Nat} (hv : v ≤ 9) (hlo : lo < 100) (hhi : hi < 100) (h : P_X2_readDigit (nI (lo / 10)) (nI (hi / 10)) (tS T k) = some (nI v, tS T (k + 1))) : P_X2_readNumber (nI lo) (nI hi) (tS T k) = lc_bd2 (P_X2_readDigit (nI (if v = lo / 10 then lo - lo / 10 * 10 else 0)) (nI (if v = hi / 10 then hi - hi / 10 * 10 else 9)) (tS T (k + 1))) (fun r56 s2 => if r56 = (-9 : Int32) then some ((-9 : Int32), s2) else some (nI 10 * nI v + r56, s2)) := by
  unfold P_X2_readNumber P_X2_readNumber_39 P_X2_readNumber_56
  simp only [q_0, q_1, q_2, q_3, q_4, q_5, q_6, q_7, q_8, q_10, q_12, q_14, q_20, q_47, q_50, q_99, q_100, q_107, q_120, q_792]
  rw [pk_div (by omega) (by omega) (by omega), pk_div (by omega) (by omega) (by omega), bE2 h, if_neg (by rw [q_ne9 (by omega)]; exact not_false), pk_mul, pk_mul, pk_sub (by omega), pk_sub (by omega)]
  by_cases h1 : v = lo / 10
  · rw [if_pos (show nI v = nI (lo / 10) by rw [h1]), if_pos h1]
    by_cases h2 : v = hi / 10
    · rw [if_pos (show nI v = nI (hi / 10) by rw [h2]), if_pos h2]
    · rw [if_neg (show ¬ nI v = nI (hi / 10) by rw [nI_eq (by omega) (by omega)]; exact h2), if_neg h2] <;> rfl
  · rw [if_neg (show ¬ nI v = nI (lo / 10) by rw [nI_eq (by omega) (by omega)]; exact h1), if_neg h1]
    by_cases h2 : v = hi / 10
    · rw [if_pos (show nI v = nI (hi / 10) by rw [h2]), if_pos h2]
    · rw [if_neg (show ¬ nI v = nI (hi / 10) by rw [nI_eq (by omega) (by omega)]; exact h2), if_neg h2] <;> rfl
theorem x2_rnn {lo hi k : Nat} (hlo : lo < 100) (hhi : hi < 100) {s : lc_St} (h : P_X2_readDigit (nI (lo / 10)) (nI (hi / 10)) (tS T k) = some (-9, s)) : P_X2_readNumber (nI lo) (nI hi) (tS T k) = some (-9, s) := by
  unfold P_X2_readNumber
  simp only [q_0, q_1, q_2, q_3, q_4, q_5, q_6, q_7, q_8, q_10, q_12, q_14, q_20, q_47, q_50, q_99, q_100, q_107, q_120, q_792]
  rw [pk_div (by omega) (by omega) (by omega), pk_div (by omega) (by omega) (by omega), bE2 h, if_pos rfl]
theorem num2_16 (lo hi : Int32) (s : lc_St) : P_X4_number (nI 2) lo hi s = P_X4_number_16 lc_FU lo hi (nI 0) (nI 10) s := by
  unfold P_X4_number P_X4_number_14
  simp only [q_0, q_1, q_2, q_3, q_4, q_5, q_6, q_7, q_8, q_10, q_12, q_14, q_20, q_47, q_50, q_99, q_100, q_107, q_120, q_792]
  rw [if_pos trivial]
theorem num1_16 (lo hi : Int32) (s : lc_St) : P_X4_number (nI 1) lo hi s = P_X4_number_16 lc_FU lo hi (nI 0) (nI 1) s := by
  unfold P_X4_number P_X4_number_14
  simp only [q_0, q_1, q_2, q_3, q_4, q_5, q_6, q_7, q_8, q_10, q_12, q_14, q_20, q_47, q_50, q_99, q_100, q_107, q_120, q_792]
  rw [if_neg (by decide +kernel)]
theorem num2_st (lo hi : Int32) (m : lc_St) (k : Nat) : P_X4_number (nI 2) lo hi (mS m k 1) = some (nI 0, mS m k 1) := by
  rw [num2_16, q_FU]; exact num_st _ _ _ _ m k
theorem num1_st (lo hi : Int32) (m : lc_St) (k : Nat) : P_X4_number (nI 1) lo hi (mS m k 1) = some (nI 0, mS m k 1) := by
  rw [num1_16, q_FU]; exact num_st _ _ _ _ m k
/-- a number of two digits, on both sides -/
theorem q_num2 (h : HT L ch T m) {k lo hi : Nat} (hk : k < 900) (hlo : lo ≤ hi) (hhi : hi < 100) : (∃ v, lo ≤ v ∧ v ≤ hi ∧ P_X2_readNumber (nI lo) (nI hi) (tS T k) = some (nI v, tS T (k + 2)) ∧ P_X4_number (nI 2) (nI lo) (nI hi) (mS m k 0) = some (nI v, mS m (k + 2) 0)) ∨ (∃ v j, v ≤ 9 ∧ k ≤ j ∧ j ≤ k + 1 ∧ P_X2_readNumber (nI lo) (nI hi) (tS T k) = some (-9, tS T j) ∧ P_X4_number (nI 2) (nI lo) (nI hi) (mS m k 0) = some (nI v, mS m j 1)) := by
  have hF : lc_FU = 1996 + 1 + 1 + 1 + 1 := rfl
  rw [num2_16, hF]
  rcases q_dig h (k := k) (by omega) with ⟨v, w, hv, hL, c1, c2, c3⟩ | ⟨c1, w, c2, c3⟩
  · rw [num_dig (Or.inr rfl) (by omega) hv (by omega) hhi c2 c3]
    by_cases q : (10 * 0 + v) * 10 ≤ hi ∧ lo ≤ (10 * 0 + v) * 10 + 10 - 1
    · rw [if_pos q, Nat.mul_zero, Nat.zero_add]
      have r1 := x2_rn hv (by omega) hhi (x2_rd1 (lo := lo / 10) (hi := hi / 10) hv (by omega) (by omega) c1 (by omega))
      rw [r1]
      rcases q_dig h (k := k + 1) (by omega) with ⟨u, w2, hu, hL2, d1, d2, d3⟩ | ⟨d1, w2, d2, d3⟩
      · rw [num_dig (l := 10 / 10) (Or.inl rfl) hv hu (by omega) hhi d2 d3]
        by_cases q2 : (10 * v + u) * (10 / 10) ≤ hi ∧ lo ≤ (10 * v + u) * (10 / 10) + 10 / 10 - 1
        · left
          refine ⟨10 * v + u, by omega, by omega, ?_, ?_⟩
          · rw [bE2 (x2_rd1 hu (by split <;> omega) (by split <;> omega) d1 (by constructor <;> split <;> omega)), if_neg (by rw [q_ne9 (by omega)]; exact not_false), pk_mul, nI_add]
          · rw [if_pos q2]
            exact num_end _ _ _ _
        · right
          refine ⟨v, k + 1, hv, by omega, by omega, ?_, if_neg q2⟩
          rw [bE2 (x2_rd0 hu (by split <;> omega) (by split <;> omega) d1 (fun z => q2 ?_)), if_pos rfl]
          obtain ⟨z1, z2⟩ := z
          constructor
          · split at z2 <;> omega
          · split at z1 <;> omega
      · right
        refine ⟨v, k + 1, hv, by omega, by omega, ?_, num_bad (by omega) (by omega) d2 d3⟩
        rw [bE2 (x2_rdn d1), if_pos rfl]
    · right
      refine ⟨0, k, by omega, by omega, by omega, ?_, if_neg q⟩
      exact x2_rnn (by omega) hhi (x2_rd0 hv (by omega) (by omega) c1 (by omega))
  · right
    refine ⟨0, k, by omega, by omega, by omega, x2_rnn (by omega) hhi (x2_rdn c1), num_bad (by omega) (by omega) c2 c3⟩
/-- a number of one digit -/
theorem q_num1 (h : HT L ch T m) {k hi : Nat} (hk : k < 900) (hhi : hi < 10) : (∃ v, v ≤ hi ∧ P_X2_readDigit (nI 0) (nI hi) (tS T k) = some (nI v, tS T (k + 1)) ∧ P_X4_number (nI 1) (nI 0) (nI hi) (mS m k 0) = some (nI v, mS m (k + 1) 0)) ∨ (P_X2_readDigit (nI 0) (nI hi) (tS T k) = some (-9, tS T k) ∧ P_X4_number (nI 1) (nI 0) (nI hi) (mS m k 0) = some (nI 0, mS m k 1)) := by
  have hF : lc_FU = 1996 + 1 + 1 + 1 + 1 := rfl
  rw [num1_16, hF]
  rcases q_dig h (k := k) (by omega) with ⟨v, w, hv, hL, c1, c2, c3⟩ | ⟨c1, w, c2, c3⟩
  · rw [num_dig (Or.inl rfl) (by omega) hv (by omega) (by omega) c2 c3]
    by_cases q : (10 * 0 + v) * 1 ≤ hi ∧ 0 ≤ (10 * 0 + v) * 1 + 1 - 1
    · rw [if_pos q, Nat.mul_zero, Nat.zero_add]
      left
      refine ⟨v, by omega, x2_rd1 hv (by omega) (by omega) c1 (by omega), num_end _ _ _ _⟩
    · right
      exact ⟨x2_rd0 hv (by omega) (by omega) c1 (by omega), if_neg q⟩
  · right
    exact ⟨x2_rdn c1, num_bad (by omega) (by omega) c2 c3⟩
