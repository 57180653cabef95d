/-! ===== the pure claim: the class between its calls ===== -/
variable {e : Nat} {m : lc_St} {g : Nat → Nat → Nat}
variable {M M' : lc_MM}
def cpS (a b : Nat → Nat → Nat) : Nat → Nat → Nat := fun r i => if r = 0 then (if i < 7 then a 0 i else if i = 7 then 4294967287 else if i = 8 then 0 else b 0 i) else if r ≤ 4 then (if i < 8 then a r i else b r i) else if r ≤ 9 then (if i < 12 then a r i else b r i) else b r i
theorem x0_copy (a b : Nat → Nat → Nat) : P_X0_copyFrom (nB a) (nB b) = some (nB (cpS a b)) := by
  unfold P_X0_copyFrom
  simp only [lc_let]
  congr 1
  have h9 : (-9 : Int32) = nI 4294967287 := by decide +kernel
  funext r i
  by_cases h0 : r = 0
  · subst h0
    by_cases c0 : i = 0
    · subst c0; simp [lc_ss, va_up, upd, nB, cpS]
    · by_cases c1 : i = 1
      · subst c1; simp [lc_ss, va_up, upd, nB, cpS]
      · by_cases c2 : i = 2
        · subst c2; simp [lc_ss, va_up, upd, nB, cpS]
        · by_cases c3 : i = 3
          · subst c3; simp [lc_ss, va_up, upd, nB, cpS]
          · by_cases c4 : i = 4
            · subst c4; simp [lc_ss, va_up, upd, nB, cpS]
            · by_cases c5 : i = 5
              · subst c5; simp [lc_ss, va_up, upd, nB, cpS]
              · by_cases c6 : i = 6
                · subst c6; simp [lc_ss, va_up, upd, nB, cpS]
                · by_cases c7 : i = 7
                  · subst c7; simp [lc_ss, va_up, upd, nB, cpS]; exact h9
                  · by_cases c8 : i = 8
                    · subst c8; simp [lc_ss, va_up, upd, nB, cpS]; rfl
                    · have : ¬ i < 7 := by omega
                      simp [lc_ss, va_up, upd, nB, cpS, c0, c1, c2, c3, c4, c5, c6, c7, c8, this]
  · have hs : r = 1 ∨ r = 2 ∨ r = 3 ∨ r = 4 ∨ r = 5 ∨ r = 6 ∨ r = 7 ∨ r = 8 ∨ r = 9 ∨ 10 ≤ r := by omega
    rcases hs with h | h | h | h | h | h | h | h | h | h
    · subst h; by_cases q : i < 8 <;> simp [lc_ss, va_up, upd, nB, cpS, va_cpy, q]
    · subst h; by_cases q : i < 8 <;> simp [lc_ss, va_up, upd, nB, cpS, va_cpy, q]
    · subst h; by_cases q : i < 8 <;> simp [lc_ss, va_up, upd, nB, cpS, va_cpy, q]
    · subst h; by_cases q : i < 8 <;> simp [lc_ss, va_up, upd, nB, cpS, va_cpy, q]
    · subst h; by_cases q : i < 12 <;> simp [lc_ss, va_up, upd, nB, cpS, va_cpy, q]
    · subst h; by_cases q : i < 12 <;> simp [lc_ss, va_up, upd, nB, cpS, va_cpy, q]
    · subst h; by_cases q : i < 12 <;> simp [lc_ss, va_up, upd, nB, cpS, va_cpy, q]
    · subst h; by_cases q : i < 12 <;> simp [lc_ss, va_up, upd, nB, cpS, va_cpy, q]
    · subst h; by_cases q : i < 12 <;> simp [lc_ss, va_up, upd, nB, cpS, va_cpy, q]
    · have n1 : ¬ r = 1 := by omega
      have n2 : ¬ r = 2 := by omega
      have n3 : ¬ r = 3 := by omega
      have n4 : ¬ r = 4 := by omega
      have n5 : ¬ r = 5 := by omega
      have n6 : ¬ r = 6 := by omega
      have n7 : ¬ r = 7 := by omega
      have n8 : ¬ r = 8 := by omega
      have n9 : ¬ r = 9 := by omega
      have l4 : ¬ r ≤ 4 := by omega
      have l9 : ¬ r ≤ 9 := by omega
      simp [lc_ss, va_up, upd, nB, cpS, h0, n1, n2, n3, n4, n5, n6, n7, n8, n9, l4, l9]
/-- alike where it counts -/
def Lv (g g' : Nat → Nat → Nat) : Prop := (∀ i, i < 7 → g' 0 i = g 0 i) ∧ (∀ c, c < g 0 0 → g' 1 c = g 1 c ∧ g' 2 c = g 2 c ∧ g' 3 c = g 3 c ∧ g' 4 c = g 4 c) ∧ (∀ i, i < g 0 1 → g' 5 i = g 5 i ∧ g' 6 i = g 6 i ∧ g' 7 i = g 7 i ∧ g' 8 i = g 8 i ∧ g' 9 i = g 9 i)
theorem Lv.iv {g' : Nat → Nat → Nat} (h : Lv g g') (hi : Iv g) : Iv g' := by
  have e0 := h.1 0 (by omega)
  have e1 := h.1 1 (by omega)
  refine ⟨by rw [e0]; exact hi.1, by rw [e1]; exact hi.2.1, fun c hc => ?_, fun j hj => ?_⟩
  · rw [e0] at hc
    obtain ⟨a, b, c1, f⟩ := h.2.1 c hc
    rw [a, b, c1, f]; exact hi.2.2.1 c hc
  · rw [e1] at hj
    obtain ⟨a, b, c1, f, q⟩ := h.2.2 j hj
    rw [a, b, c1, f, e0]; exact hi.2.2.2 j hj
theorem Lv.qm {g' : Nat → Nat → Nat} (h : Lv g g') (hr : QM e m g) : QM e m g' := by
  have e0 := h.1 0 (by omega)
  have e1 := h.1 1 (by omega)
  obtain ⟨⟨a0, a1, a2, a3, a4, a5, a6⟩, hcc, hll, hz, h6⟩ := hr
  refine ⟨⟨by rw [h.1 2 (by omega)]; exact a0, by rw [e0]; exact a1, by rw [e1]; exact a2, by rw [h.1 3 (by omega)]; exact a3, by rw [h.1 4 (by omega)]; exact a4, by rw [h.1 5 (by omega)]; exact a5, by rw [h.1 6 (by omega)]; exact a6⟩, fun c hc => ?_, fun j hj => ?_, fun k hk hk2 => ?_, by rw [e0]; exact h6⟩
  · rw [e0] at hc
    obtain ⟨a, b, c1, f⟩ := h.2.1 c hc
    rw [a, b, c1, f]; exact hcc c hc
  · rw [e1] at hj
    obtain ⟨a, b, c1, f, q⟩ := h.2.2 j hj
    rw [a, b, c1, f, q]; exact hll j hj
  · rw [e0] at hk
    exact hz k hk hk2
theorem Lv.cn {g' : Nat → Nat → Nat} (h : Lv g g') (hn : Cn g) : Cn g' := by
  unfold Cn at hn ⊢
  rw [h.1 0 (by omega), h.1 3 (by omega), h.1 4 (by omega), h.1 5 (by omega), tn_cong (h := g' 2) (h' := g 2) (fun x hx => (h.2.1 x hx).2.1)]
  exact hn
theorem cpS_lv (a b : Nat → Nat → Nat) (hi : Iv a) : Lv a (cpS a b) := by
  have h8 := hi.1
  have h12 := hi.2.1
  refine ⟨fun i h => ?_, fun c hc => ?_, fun i hii => ?_⟩
  · unfold cpS; rw [if_pos rfl, if_pos h]
  · have : c < 8 := by omega
    simp [cpS, this]
  · have : i < 12 := by omega
    simp [cpS, this]
/-- the states that are remembered: where the ring begins, how many -/
def Hk (M : lc_MM) : Prop := ∃ f n, f < 14 ∧ n ≤ 14 ∧ M 20 0 0 = nI f ∧ M 20 0 1 = nI n
theorem Hk.of (h : Hk M) (e : M' 20 = M 20) : Hk M' := by
  obtain ⟨f, n, a, b, c, d⟩ := h
  exact ⟨f, n, a, b, by rw [e]; exact c, by rw [e]; exact d⟩
theorem q_mod14 {n : Nat} (hn : n < 1000) : nI n - nI n / nI 14 * nI 14 = nI (n % 14) := pk_rem (by omega) (by omega) (by omega)
theorem x1_rem (h : Hk M) : ∃ M1, P_X1_remember 0 M = some M1 ∧ Hk M1 ∧ ∀ k, k < 5 ∨ 21 ≤ k → M1 k = M k := by
  obtain ⟨f, n, hf, hn, e1, e2⟩ := h
  obtain ⟨a, ha⟩ := nB_ex (M 0)
  obtain ⟨b, hb⟩ := nB_ex (M (5 + (f + n) % 14))
  have hj : (f + n) % 14 < 14 := Nat.mod_lt _ (by omega)
  have c1 : P_X0_copyFrom (M 0) (M (5 + (f + n) % 14)) = some (nB (cpS a b)) := by rw [ha, hb]; exact x0_copy a b
  have C : P_X1_remember 0 M = (if 14 ≤ n then some (va_up (va_up M (5 + (f + n) % 14) (nB (cpS a b))) 20 (lc_ss (M 20) 0 0 (nI ((f + 1) % 14)))) else some (va_up (va_up M (5 + (f + n) % 14) (nB (cpS a b))) 20 (lc_ss (M 20) 0 1 (nI (n + 1))))) := by
    have o20 : va_up M (5 + (f + n) % 14) (nB (cpS a b)) 20 = M 20 := lc_up_off _ _ (by omega)
    unfold P_X1_remember
    simp only [q_0, q_1, q_2, q_3, q_4, q_5, q_6, q_7, q_8, q_10, q_11, q_12, q_13, q_14, q_20, q_26, q_30, q_40, q_50, q_51, q_56, q_60, q_90, q_99, q_100, q_19, lc_let, e1, e2, nI_add]
    rw [q_mod14 (by omega), q_ift ((q_okn (by omega)).mpr hj), nI_clamp (by omega), bE c1]
    simp only [o20, e1, e2, nI_add]
    rw [q_mod14 (by omega)]
    by_cases q : 14 ≤ n
    · rw [if_pos q, if_pos (by rw [nI_leI (by omega) (by omega)]; exact q)]
    · rw [if_neg q, if_neg (by rw [nI_leI (by omega) (by omega)]; exact q)]
  rw [C]
  by_cases q : 14 ≤ n
  · rw [if_pos q]
    refine ⟨_, rfl, ⟨(f + 1) % 14, n, Nat.mod_lt _ (by omega), hn, by rw [lc_up_at, ss_eq], by rw [lc_up_at, ss_ne _ _ _ (by omega)]; exact e2⟩, fun k hk => ?_⟩
    rw [lc_up_off _ _ (by omega), lc_up_off _ _ (by omega)]
  · rw [if_neg q]
    refine ⟨_, rfl, ⟨f, n + 1, hf, by omega, by rw [lc_up_at, ss_ne _ _ _ (by omega)]; exact e1, by rw [lc_up_at, ss_eq]⟩, fun k hk => ?_⟩
    rw [lc_up_off _ _ (by omega), lc_up_off _ _ (by omega)]
theorem bE3 {α β γ δ : Type} {x : Option (α × β × γ)} {a : α} {b : β} {c : γ} (h : x = some (a, b, c)) (f : α → β → γ → Option δ) : lc_bd3 x f = f a b c := by rw [h]; rfl
/-- the call went through, with that answer -/
def Ok (M : lc_MM) (g' : Nat → Nat → Nat) (r : Nat) (X : Option (Int32 × lc_MM)) : Prop := ∃ M', X = some (nI 0, M') ∧ M' 0 = nB g' ∧ Hk M' ∧ M' 22 = M 22 ∧ M' 24 0 0 = nI r
/-- the call was refused, with that number of the law's -/
def No (M : lc_MM) (k : Nat) (X : Option (Int32 × lc_MM)) : Prop := ∃ M', X = some (nI k, M') ∧ M' 0 = M 0 ∧ Hk M' ∧ M' 22 = M 22
theorem Ok.mk {M3 : lc_MM} {g' : Nat → Nat → Nat} {r : Nat} (h0 : M3 0 = nB g') (hk : Hk M3) (h22 : M3 22 = M 22) : Ok M g' r (some (0, va_up M3 24 (lc_ss (M3 24) 0 0 (nI r)))) :=
  ⟨_, rfl, by rw [lc_up_off _ _ (by omega)]; exact h0, hk.of (lc_up_off _ _ (by omega)), by rw [lc_up_off _ _ (by omega)]; exact h22, by rw [lc_up_at, ss_eq]⟩
theorem No.mk {k : Nat} (hk : Hk M) {X : Option (Int32 × lc_MM)} (hX : X = some (nI k, M)) : No M k X := ⟨M, hX, rfl, hk, rfl⟩
theorem x3_in (a b x : Nat) (ha : a < 2 ^ 31) (hb : b < 2 ^ 31) (hx : x < 2 ^ 31) : P_X3_isWithin (nI x) (nI a) (nI b) = some (nI (if a ≤ x ∧ x ≤ b then 1 else 0)) := by
  unfold P_X3_isWithin
  simp (disch := omega) only [q_0, q_1, q_2, q_3, q_4, q_5, q_6, q_7, q_8, q_10, q_11, q_12, q_13, q_14, q_20, q_26, q_30, q_40, q_50, q_51, q_56, q_60, q_90, q_99, q_100, q_19, nI_ltI, nI_leI, nI_eq, q_okn, nI_clamp, nI_add, pk_mul, pk_sub, pk_div, q_nlt9, q_neg0, q_ne9, q_9ne, q_nle9]
  split <;> (try split) <;> (try split) <;> first | rfl | omega
theorem x3_units {x : Nat} (hx : x < 2 ^ 31) : P_X3_isUnits (nI x) = some (nI (if 1 ≤ x ∧ x ≤ 99 then 1 else 0)) := by
  unfold P_X3_isUnits
  simp only [q_0, q_1, q_2, q_3, q_4, q_5, q_6, q_7, q_8, q_10, q_11, q_12, q_13, q_14, q_20, q_26, q_30, q_40, q_50, q_51, q_56, q_60, q_90, q_99, q_100, q_19]
  rw [bE (x3_in 1 99 x (by omega) (by omega) hx), q_b01]
theorem q_max : (2147483647 : Int32).toBitVec.toNat = 2 ^ 31 - 1 := by decide +kernel
theorem l_low (x : Int32) {n : Nat} (h0 : 0 < n) (hn : n < 2 ^ 31) : ∃ r, r < n ∧ P_L_low x (nI n) = some (nI r) := by
  obtain ⟨j, hj, e⟩ := pk_andE x 31 q_max
  refine ⟨j % n, Nat.mod_lt _ h0, ?_⟩
  unfold P_L_low
  rw [q_ift (nI_ne0 h0 hn)]
  simp only [lc_let, e]
  rw [pk_rem hj h0 hn]
