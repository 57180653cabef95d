/-! ===== the pure claim: errorPosition, load ===== -/
variable {M M' : lc_MM} {s s' : lc_St}
theorem r_error (h : Rel M s) : ∃ r M' s', P_X3_errorPosition M = some (r, M') ∧ P_X4_errorPosition s = some (r, s') ∧ M' 22 = M 22 ∧ Rel M' s' := by
  obtain ⟨L, ch, ht⟩ := Tx.ht h.2.2.2.2
  have hm : HT L ch (M 19) (crw (lc_ss s 0 0 (nI 0)) 2 0 1 0 107) := ht.on (q_put0 s (by omega)) (q_putf s (by omega) (by omega))
  obtain ⟨r, g', T', m', z1, z2, z3, z4⟩ := q_read hm (M 1)
  have hR : Rel (va_up (va_up M 1 (nB g')) 19 T') (crw m' 1 0 2 0 107) := by
    refine h.try (fun k hk => by rw [lc_up_off _ _ (by omega), lc_up_off _ _ (by omega)]) (by rw [lc_up_at]; exact z2.1) (by rw [lc_up_at]; exact z2.2) (fun k hk => ?_) (fun r h3 h6 => ?_) (fun k hk => ?_)
    · have z := crw_in m' 1 0 2 0 107 k hk
      rw [Nat.zero_add] at z
      rw [z, z3.1 2 (by omega), q_put s k hk]
    · rw [crw_off _ _ _ _ _ _ (by omega), z3.1 r (by omega), q_putf s (by omega) (by omega)]
    · rw [crw_off _ _ _ _ _ _ (by omega), z3.2 k (by omega) (by omega) (by omega) (by omega), q_put0 s (by omega)]
  refine ⟨r, _, crw m' 1 0 2 0 107, ?_, ?_, by rw [lc_up_off _ _ (by omega), lc_up_off _ _ (by omega)], hR⟩
  · unfold P_X3_errorPosition
    rw [z1, q_bd3]; rfl
  · unfold P_X4_errorPosition
    simp only [q_let, q_0, q_1, q_2, q_3, q_4, q_5, q_6, q_7, q_8, q_10, q_12, q_14, q_20, q_47, q_50, q_99, q_100, q_107, q_120, q_792]
    rcases z4 with ⟨rfl, y1, y2, y3⟩ | ⟨k', k1, rfl, y1, y2⟩
    · rw [bE (x4_layPut _), bE2 y1, bE (x4_putBack m'), if_neg (by decide +kernel)]
    · rw [bE (x4_layPut _), bE2 y1, bE (x4_putBack m'), if_pos rfl, crw_off _ _ _ _ _ _ (by omega), y2]
theorem x3_load46 (M : lc_MM) : P_X3_load_46 lc_FU (nI 0) M = some (0, (M 0) 0 0, va_up M 21 (lc_ss (lc_ss (M 21) 2 0 (nI 0)) 2 1 (nI 0))) := by
  have hF : lc_FU = 1996 + 1 + 1 + 1 + 1 := rfl
  rw [hF, P_X3_load_46]
  simp only [q_0, q_1, q_2, q_3, q_4, q_5, q_6, q_7, q_8, q_10, q_12, q_14, q_20, q_47, q_50, q_99, q_100, q_107, q_120, q_792, q_let, nar0, nI_add]
  rw [if_neg (nI_ge (show 0 < 2 by omega) (by omega)), q_ift ((q_okn (by omega)).mpr (by omega)), nI_clamp (by omega), P_X3_load_46]
  simp only [q_0, q_1, q_2, q_3, q_4, q_5, q_6, q_7, q_8, q_10, q_12, q_14, q_20, q_47, q_50, q_99, q_100, q_107, q_120, q_792, q_let, nar0, nI_add]
  rw [if_neg (nI_ge (show 0 + 1 < 2 by omega) (by omega)), q_ift ((q_okn (by omega)).mpr (by omega)), nI_clamp (by omega), P_X3_load_46]
  simp only [q_0, q_1, q_2, q_3, q_4, q_5, q_6, q_7, q_8, q_10, q_12, q_14, q_20, q_47, q_50, q_99, q_100, q_107, q_120, q_792]
  rw [if_pos (nI_le (show 2 ≤ 0 + 1 + 1 by omega) (by omega)), lc_up_at, lc_up_up, lc_up_off _ _ (by omega)]
theorem r_load (h : Rel M s) : Cl kE M (P_X3_load M) (P_X4_load s) := by
  obtain ⟨L, ch, ht⟩ := Tx.ht h.2.2.2.2
  have hm : HT L ch (M 19) (crw s 2 0 1 0 107) := ht.on (by rw [crw_off _ _ _ _ _ _ (by omega)]) (by rw [crw_off _ _ _ _ _ _ (by omega)])
  obtain ⟨r, g', T', m', z1, z2, z3, z4⟩ := q_read hm (M 1)
  have put : ∀ k, k < 107 → crw s 2 0 1 0 107 2 k = s 1 k := fun k hk => by
    have z := crw_in s 2 0 1 0 107 k hk
    rw [Nat.zero_add] at z
    exact z
  have m3 : ∀ r, 3 ≤ r → r ≤ 6 → m' r = s r := fun r h3 h6 => by rw [z3.1 r (by omega), crw_off _ _ _ _ _ _ (by omega)]
  have m0 : ∀ k, k ≠ 3 → k ≠ 4 → k ≠ 5 → k ≠ 6 → m' 0 k = s 0 k := fun k h3 h4 h5 h6 => by rw [z3.2 k h3 h4 h5 h6, crw_off _ _ _ _ _ _ (by omega)]
  rcases z4 with ⟨rfl, y1, ⟨d, y2⟩, y3⟩ | ⟨k', k1, rfl, y1, y2⟩
  · obtain ⟨hp, h3, hsl, ⟨f, n, hf, hn, e1, e2, e3, hh⟩, ⟨len, t1, t2, t3, t4⟩⟩ := h
    obtain ⟨gt, hgt⟩ := nB_ex (M 0)
    have l := cpS_lv g' gt y3
    have c0 := x0_copy g' gt
    have X : P_X3_load M = some (0, nI (g' 0 0), va_up (va_up (va_up (va_up (va_up M 1 (nB g')) 19 T') 0 (nB (cpS g' gt))) 20 (lc_ss (M 20) 0 1 (nI 0))) 21 (lc_ss (lc_ss (M 21) 2 0 (nI 0)) 2 1 (nI 0))) := by
      unfold P_X3_load
      rw [z1, q_bd3]
      simp only [q_let]
      rw [if_pos trivial, lc_up_off _ _ (show (1 : Nat) ≠ 19 by omega), lc_up_at, lc_up_off _ _ (show (0 : Nat) ≠ 19 by omega), lc_up_off _ _ (show (0 : Nat) ≠ 1 by omega), hgt, bE c0]
      unfold P_X1_forgetAll
      simp only [q_let, q_bd, q_0, q_1, q_2, q_3, q_4, q_5, q_6, q_7, q_8, q_10, q_12, q_14, q_20, q_47, q_50, q_99, q_100, q_107, q_120, q_792]
      rw [x3_load46]
      rw [lc_up_off _ _ (show (0 : Nat) ≠ 20 by omega), lc_up_at, nB_at, l.1 0 (by omega)]
      rw [lc_up_off _ _ (show (20 : Nat) ≠ 0 by omega), lc_up_off _ _ (show (20 : Nat) ≠ 19 by omega), lc_up_off _ _ (show (20 : Nat) ≠ 1 by omega), lc_up_off _ _ (show (21 : Nat) ≠ 20 by omega), lc_up_off _ _ (show (21 : Nat) ≠ 0 by omega), lc_up_off _ _ (show (21 : Nat) ≠ 19 by omega), lc_up_off _ _ (show (21 : Nat) ≠ 1 by omega)]
    have Y : P_X4_load s = some (nI (g' 0 0), lc_ss (lc_ss (lc_ss (lc_ss m' 0 0 (nI 0)) 0 1 (nI 0)) 4 0 (nI 0)) 4 1 (nI 0)) := by
      unfold P_X4_load P_X4_load_17
      rw [bE (x4_layPut s), bE2 y1, if_neg (by decide +kernel)]
      simp only [q_let, q_0, q_1, q_2, q_3, q_4, q_5, q_6, q_7, q_8, q_10, q_12, q_14, q_20, q_47, q_50, q_99, q_100, q_107, q_120, q_792, nar0]
      rw [ss_eq, if_pos (by decide +kernel), ss_off _ _ _ (show (1 : Nat) ≠ 4 by omega), ss_off _ _ _ (show (1 : Nat) ≠ 4 by omega), ss_off _ _ _ (show (1 : Nat) ≠ 0 by omega), ss_off _ _ _ (show (1 : Nat) ≠ 0 by omega), rm_nc y2]
    refine ⟨0, nI (g' 0 0), _, nI (g' 0 0), _, X, Y, ?_, ?_, fun _ => rfl, ?_⟩
    · rw [lc_up_off _ _ (by omega), lc_up_off _ _ (by omega), lc_up_off _ _ (by omega), lc_up_off _ _ (by omega), lc_up_off _ _ (by omega)]
    · rw [ss_off _ _ _ (by omega), ss_off _ _ _ (by omega), ss_ne _ _ _ (by omega), ss_eq]; rfl
    · refine ⟨?_, trivial, fun k hk => ?_, ⟨f, 0, hf, by omega, ?_, ?_, ?_, fun i hi => absurd hi (by omega)⟩, ⟨len, t1, ?_, ?_, fun i hi => ?_⟩⟩
      · rw [lc_up_off _ _ (by omega), lc_up_off _ _ (by omega), lc_up_at, ss_off _ _ _ (by omega), ss_off _ _ _ (by omega), ss_off _ _ _ (by omega), ss_off _ _ _ (by omega)]
        exact Pr.mk (l.iv y3) (l.rm y2) trivial
      · left
        rw [lc_up_at]
        have hk2 : k = 0 ∨ k = 1 := by omega
        rcases hk2 with q | q <;> subst q
        · rw [ss_ne _ _ _ (by omega), ss_eq, ss_ne _ _ _ (by omega), ss_eq]; exact ⟨rfl, rfl⟩
        · rw [ss_eq, ss_eq]; exact ⟨rfl, rfl⟩
      · rw [lc_up_off _ _ (by omega), lc_up_at, ss_ne _ _ _ (by omega)]; exact e1
      · rw [lc_up_off _ _ (by omega), lc_up_at, ss_eq]
      · rw [ss_off _ _ _ (by omega), ss_off _ _ _ (by omega), ss_eq]
      · rw [lc_up_off _ _ (by omega), lc_up_off _ _ (by omega), lc_up_off _ _ (by omega), lc_up_at, z2.1]; exact t2
      · rw [ss_off _ _ _ (by omega), ss_off _ _ _ (by omega), ss_ne _ _ _ (by omega), ss_ne _ _ _ (by omega), m0 2 (by omega) (by omega) (by omega) (by omega)]; exact t3
      · rw [lc_up_off _ _ (by omega), lc_up_off _ _ (by omega), lc_up_off _ _ (by omega), lc_up_at, z2.2, ss_off _ _ _ (by omega), ss_off _ _ _ (by omega), ss_off _ _ _ (by omega), ss_off _ _ _ (by omega), m3 6 (by omega) (by omega)]
        exact t4 i hi
  · have X : P_X3_load M = some (2, 0, va_up (va_up M 1 (nB g')) 19 T') := by
      unfold P_X3_load
      rw [z1, q_bd3]
      simp only [q_let]
      rw [if_neg (n9 (by omega))]
    have Y : P_X4_load s = some (nI 0, crw (lc_ss m' 0 0 (nI 1)) 1 0 2 0 107) := by
      unfold P_X4_load P_X4_load_17
      rw [bE (x4_layPut s), bE2 y1, if_pos n00]
      simp only [q_let, q_0, q_1, q_2, q_3, q_4, q_5, q_6, q_7, q_8, q_10, q_12, q_14, q_20, q_47, q_50, q_99, q_100, q_107, q_120, q_792]
      rw [ss_eq, if_neg (by decide +kernel), bE (x4_putBack _)]
    refine ⟨2, 0, _, nI 0, _, X, Y, by rw [lc_up_off _ _ (by omega), lc_up_off _ _ (by omega)], by rw [crw_off _ _ _ _ _ _ (by omega), ss_eq]; rfl, fun q => absurd q (by omega), ?_⟩
    refine h.try (fun k hk => by rw [lc_up_off _ _ (by omega), lc_up_off _ _ (by omega)]) (by rw [lc_up_at]; exact z2.1) (by rw [lc_up_at]; exact z2.2) (fun k hk => ?_) (fun r h3 h6 => ?_) (fun k hk => ?_)
    · have z := crw_in (lc_ss m' 0 0 (nI 1)) 1 0 2 0 107 k hk
      rw [Nat.zero_add] at z
      rw [z, ss_off _ _ _ (by omega), z3.1 2 (by omega), put k hk]
    · rw [crw_off _ _ _ _ _ _ (by omega), ss_off _ _ _ (by omega), m3 r h3 h6]
    · rw [crw_off _ _ _ _ _ _ (by omega), ss_ne _ _ _ (by omega), m0 k (by omega) (by omega) (by omega) (by omega)]
