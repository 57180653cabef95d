/-! ===== the pure claim: a reading from its start ===== -/
variable {L : Nat} {ch : Nat → Nat} {T m : lc_St} {g : Nat → Nat → Nat}
def zr (m : lc_St) (i : Nat) : lc_St := fun r k => if r = 1 ∧ k < i then nI 0 else m r k
theorem zr_0 (m : lc_St) : zr m 0 = m := by
  funext r k
  unfold zr
  rw [if_neg (by omega)]
theorem zr_off (m : lc_St) (i : Nat) {r : Nat} (h : r ≠ 1) : zr m i r = m r := by
  funext k
  unfold zr
  rw [if_neg (by omega)]
theorem zr_in (m : lc_St) {i k : Nat} (h : k < i) : zr m i 1 k = nI 0 := by
  unfold zr
  rw [if_pos ⟨rfl, h⟩]
theorem zr_step (m : lc_St) (i : Nat) : lc_ss (zr m i) 1 i (nI 0) = zr m (i + 1) := by
  funext r k
  by_cases h : r = 1
  · subst h
    by_cases h2 : k = i
    · subst h2; rw [ss_eq, zr_in m (by omega)]
    · rw [ss_ne _ _ _ h2]
      unfold zr
      by_cases h3 : k < i
      · rw [if_pos ⟨rfl, h3⟩, if_pos ⟨rfl, by omega⟩]
      · rw [if_neg (fun z => h3 z.2), if_neg (fun z => h3 (by omega))]
  · rw [ss_off _ _ _ h, zr_off _ _ h, zr_off _ _ h]
theorem l_zero (m : lc_St) : ∀ k i n, i + k = 107 → k < n → P_X4_isBattery_2 n (nI i) (zr m i) = lc_bd (P_X4_look (mS (zr m 107) 0 0)) (fun r33 => if r33 = nI 66 then P_X4_isBattery_46 (nI 1) (mS (zr m 107) 0 0) else P_X4_isBattery_46 (nI 0) (mS (zr m 107) 0 0)) := by
  intro k
  induction k with
  | zero =>
    intro i n h h1
    obtain ⟨n, rfl⟩ : ∃ q, n = q + 1 := ⟨n - 1, by omega⟩
    have : i = 107 := by omega
    subst this
    rw [P_X4_isBattery_2]
    simp only [q_0, q_1, q_2, q_3, q_4, q_5, q_6, q_7, q_8, q_10, q_12, q_14, q_20, q_47, q_50, q_99, q_100, q_107, q_120, q_792, q_66, q_let]
    rw [if_pos (nI_le (Nat.le_refl _) (by omega)), ss_sw _ _ _ _ (show (5 : Nat) ≠ 6 by omega)]
    rfl
  | succ k ih =>
    intro i n h h1
    obtain ⟨n, rfl⟩ : ∃ q, n = q + 1 := ⟨n - 1, by omega⟩
    have z := ih (i + 1) n (by omega) (by omega)
    rw [P_X4_isBattery_2]
    simp only [q_0, q_1, q_2, q_3, q_4, q_5, q_6, q_7, q_8, q_10, q_12, q_14, q_20, q_47, q_50, q_99, q_100, q_107, q_120, q_792, q_let, nI_add]
    rw [if_neg (nI_ge (show i < 107 by omega) (by omega)), q_ift ((q_okn (by omega)).mpr (by omega)), nI_clamp (by omega), zr_step]
    exact z
def emS (g : Nat → Nat → Nat) : Nat → Nat → Nat := fun r i => if r = 0 ∧ i < 9 then (if i = 7 then 4294967287 else 0) else g r i
theorem x0_empty (g : Nat → Nat → Nat) : P_X0_becomeEmpty (nB g) = some (nB (emS g)) := by
  unfold P_X0_becomeEmpty
  simp only [lc_let]
  congr 1
  have h9 : (-9 : Int32) = nI 4294967287 := by decide +kernel
  funext r i
  by_cases h0 : r = 0
  · subst h0
    by_cases c0 : i = 0
    · subst c0; simp [lc_ss, va_up, upd, nB, emS]; rfl
    · by_cases c1 : i = 1
      · subst c1; simp [lc_ss, va_up, upd, nB, emS]; rfl
      · by_cases c2 : i = 2
        · subst c2; simp [lc_ss, va_up, upd, nB, emS]; rfl
        · by_cases c3 : i = 3
          · subst c3; simp [lc_ss, va_up, upd, nB, emS]; rfl
          · by_cases c4 : i = 4
            · subst c4; simp [lc_ss, va_up, upd, nB, emS]; rfl
            · by_cases c5 : i = 5
              · subst c5; simp [lc_ss, va_up, upd, nB, emS]; rfl
              · by_cases c6 : i = 6
                · subst c6; simp [lc_ss, va_up, upd, nB, emS]; rfl
                · by_cases c7 : i = 7
                  · subst c7; simp [lc_ss, va_up, upd, nB, emS]; exact h9
                  · by_cases c8 : i = 8
                    · subst c8; simp [lc_ss, va_up, upd, nB, emS]; rfl
                    · have : ¬ i < 9 := by omega
                      simp [lc_ss, va_up, upd, nB, emS, c0, c1, c2, c3, c4, c5, c6, c7, c8, this]
  · simp [lc_ss, va_up, upd, nB, emS, h0]
theorem emS_0 (g : Nat → Nat → Nat) {k : Nat} (h : k < 7) : emS g 0 k = 0 := by
  unfold emS
  rw [if_pos ⟨rfl, by omega⟩, if_neg (by omega)]
theorem Iv_em (g : Nat → Nat → Nat) : Iv (emS g) := by
  refine ⟨by rw [emS_0 g (by omega)]; omega, by rw [emS_0 g (by omega)]; omega, fun c hc => ?_, fun i hi => ?_⟩
  · rw [emS_0 g (by omega)] at hc; omega
  · rw [emS_0 g (by omega)] at hi; omega
theorem Zl_em (g : Nat → Nat → Nat) : Zl (emS g) := fun c hc => by rw [emS_0 g (by omega)] at hc; omega
theorem RM_em (m : lc_St) (k z : Nat) (g : Nat → Nat → Nat) : RM 8 none (mS (zr m 107) k z) (emS g) := by
  have e : ∀ j, j < 107 → mS (zr m 107) k z 1 j = nI 0 := fun j hj => by rw [mS_r _ _ _ (by omega), zr_in m hj]
  refine ⟨⟨by rw [e _ (by omega), emS_0 g (by omega)], by rw [e _ (by omega), emS_0 g (by omega)], by rw [e _ (by omega), emS_0 g (by omega)], by rw [e _ (by omega), emS_0 g (by omega)], by rw [e _ (by omega), emS_0 g (by omega)], by rw [e _ (by omega), emS_0 g (by omega)], by rw [e _ (by omega), emS_0 g (by omega)], trivial, trivial⟩, fun c hc => ?_, fun i hi => ?_⟩
  · rw [emS_0 g (by omega)] at hc; omega
  · rw [emS_0 g (by omega)] at hi; omega
theorem Fx_zr (m : lc_St) (k z : Nat) : Fx m (mS (zr m 107) k z) := ⟨fun r hr => by rw [mS_r _ _ _ (by omega), zr_off _ _ (by omega)], fun j _ _ h5 h6 => by rw [mS_0 _ _ _ h5 h6, zr_off _ _ (by omega)]⟩
theorem q_read (h : HT L ch T m) (b : lc_St) : Rd m T (P_X2_readInto b T) (P_X4_isBattery m) := by
  obtain ⟨g, rfl⟩ := nB_ex b
  have h0 : HT L ch T (zr m 107) := ⟨h.1, h.2.1, by rw [zr_off _ _ (by omega)]; exact h.2.2.1, fun i hi => by rw [zr_off _ _ (by omega)]; exact h.2.2.2 i hi⟩
  have hl := x4_look (k := 0) (z := 0) h0 (by omega)
  have i1 := x2_isAt h (k := 0) (v := 66) (by omega) (by omega)
  have X : P_X2_readInto (nB g) T = (if 0 < L ∧ ch 0 = 66 then P_X2_readInto_35 lc_FU (nI 0) (nB (emS g)) (tS T 1) else some (nI 0, nB (emS g), tS T 0)) := by
    unfold P_X2_readInto
    rw [bE (x0_empty g)]
    simp only [q_let, q_0, q_1, q_2, q_3, q_4, q_5, q_6, q_7, q_8, q_10, q_12, q_14, q_20, q_47, q_50, q_99, q_100, q_107, q_120, q_792, q_66]
    rw [show lc_ss T 0 1 (nI 0) = tS T 0 from rfl, bE i1, tS_at, nI_add, tS_tS]
    by_cases q : 0 < L ∧ ch 0 = 66
    · rw [if_pos q, if_pos q, if_neg (by decide +kernel)]
    · rw [if_neg q, if_neg q, if_pos rfl]
  have Y : P_X4_isBattery m = (if 0 < L ∧ ch 0 = 66 then P_X4_isBattery_49 lc_FU (mS (zr m 107) 1 0) else some (nI 0, mS (zr m 107) 0 1)) := by
    have z := l_zero m 107 0 lc_FU (by omega) (q_FUn (by omega))
    rw [zr_0, bE hl] at z
    have z2 : P_X4_isBattery m = _ := z
    rw [z2]
    unfold P_X4_isBattery_46
    rw [bE (must1 _ 0), bE (must0 _ 0)]
    by_cases q : 0 < L ∧ ch 0 = 66
    · rw [if_pos q, if_pos q.1, q.2, if_pos rfl]
    · rw [if_neg q]
      have : ¬ (if 0 < L then nI (ch 0) else -1) = nI 66 := by
        by_cases q1 : 0 < L
        · rw [if_pos q1, nI_eq (by have := (h.2.2.2 0 q1).1; omega) (by omega)]
          exact fun z => q ⟨q1, z⟩
        · rw [if_neg q1]; decide +kernel
      rw [if_neg this, q_FU, isB49_1 (mS_6 _ _ _)]
  rw [X, Y]
  by_cases q : 0 < L ∧ ch 0 = 66
  · rw [if_pos q, if_pos q]
    have hL := h.1
    obtain ⟨r, g2, T2, m2, z1, z2, z3, z4⟩ := l_parts (L := L) (ch := ch) L 1 0 (emS g) none (tS T 1) (mS (zr m 107) 1 0) lc_FU lc_FU (by omega) (by omega) (by omega) (h.fx (Fx_zr _ _ _) ⟨tS_n _ _, tS_1 _ _⟩) (tS_at _ _) (mS_5 _ _ _) (mS_6 _ _ _) (RM_em m 1 0 g) (Iv_em g) (Zl_em g) (q_FUn (by omega)) (q_FUn (by omega))
    exact ⟨r, g2, T2, m2, z1, ⟨z2.1.trans (tS_n _ _), z2.2.trans (tS_1 _ _)⟩, (Fx_zr _ _ _).tr z3, z4⟩
  · rw [if_neg q, if_neg q]
    exact ⟨nI 0, emS g, tS T 0, mS (zr m 107) 0 1, rfl, ⟨tS_n _ _, tS_1 _ _⟩, Fx_zr _ _ _, Or.inr ⟨0, by omega, rfl, rfl, mS_5 _ _ _⟩⟩
theorem Tx.ht {s : lc_St} (h : Tx T s) : ∃ L ch, HT L ch T s := by
  obtain ⟨n, h1, h2, h3, h4⟩ := h
  refine ⟨n, fun i => (s 6 i).toBitVec.toNat, h1, h2, h3, fun i hi => ?_⟩
  obtain ⟨v, v1, v2, v3⟩ := h4 i hi
  have e : (s 6 i).toBitVec.toNat = v := by rw [v3]; exact pk_tn (by omega)
  show (s 6 i).toBitVec.toNat < 256 ∧ T 1 i = nI (s 6 i).toBitVec.toNat ∧ s 6 i = nI (s 6 i).toBitVec.toNat
  rw [e]
  exact ⟨v1, v2, v3⟩
theorem HT.on {s s' : lc_St} (h : HT L ch T s) (h2 : s' 0 2 = s 0 2) (h6 : s' 6 = s 6) : HT L ch T s' := ⟨h.1, h.2.1, by rw [h2]; exact h.2.2.1, fun i hi => by rw [h6]; exact h.2.2.2 i hi⟩
