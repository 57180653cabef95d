/-! ===== the pure claim: a loan in the text ===== -/
variable {L : Nat} {ch : Nat → Nat} {T m : lc_St} {d : Option Int32} {g : Nat → Nat → Nat}
theorem Zl_lend (hz : Zl g) (x y u r : Nat) : Zl (lendS g x y u r) := by
  intro c hc
  rw [lendS_0 _ _ _ _ _ (by omega) (by omega)] at hc
  rw [lendS_r _ _ _ _ _ (by omega)]
  exact hz c hc
theorem rl71_st (x1 x2 x3 t0 : Int32) (m : lc_St) (k : Nat) : P_X4_readLoan_71 x1 x2 x3 t0 (mS m k 1) = some (mS m k 1) := by
  unfold P_X4_readLoan_71
  simp only [q_0, q_1, q_2, q_3, q_4, q_5, q_6, q_7, q_8, q_10, q_12, q_14, q_20, q_47, q_50, q_99, q_100, q_107, q_120, q_792]
  rw [bE2 (num2_st _ _ m k), mS_6, if_neg (by decide +kernel)]
theorem rl32_st (h : HT L ch T m) (hr : RM 8 d m g) (hi : Iv g) {k : Nat} (hk : k < 900) (x1 : Int32) : P_X4_readLoan_32 x1 (nI 0) (mS m k 0) = some (mS m k 1) := by
  obtain ⟨w1, h1⟩ := ch_st h hr hi hk (-9)
  obtain ⟨w2, h2⟩ := ch_st h hr hi hk w1
  unfold P_X4_readLoan_32
  rw [bE (must0 m k), bE2 h1, bE2 h2, mS_6, if_neg (by decide +kernel), rl71_st]
/-- the model's loan, behind the borrower -/
theorem q_loanT (h : HT L ch T m) (hr : RM 8 d m g) (hi : Iv g) (hz : Zl g) {k : Nat} (hk : k < 800) : Pt m T k (P_X2_readLoan (nB g) (tS T k)) (P_X4_readLoan (mS m k 0)) := by
  have hc8 := hi.1
  have hl12 := hi.2.1
  unfold P_X2_readLoan P_X4_readLoan P_X4_readLoan_31
  simp only [q_0, q_1, q_2, q_3, q_4, q_5, q_6, q_7, q_8, q_10, q_12, q_14, q_20, q_47, q_50, q_99, q_100, q_107, q_120, q_792, q_let]
  rw [nB_at, nB_at, tS_at, nI_add, tS_tS, mS_r _ _ _ (show (1 : Nat) ≠ 0 by omega), rm_nc hr, rm_nl hr, mS_5]
  by_cases hc2 : g 0 0 < 2
  · rw [if_pos (nI_lt hc2 (by omega)), if_pos (nI_le (show g 0 0 ≤ 1 by omega) (by omega))]
    exact Pt.no (g' := g) (k' := k) rfl (rl32_st h hr hi (by omega) _) (by omega)
  · rw [if_neg (nI_nlt (by omega) (by omega)), if_neg (nI_ge (show 1 < g 0 0 by omega) (by omega))]
    by_cases hl : g 0 1 < 12
    · rw [if_pos (nI_lt hl (by omega)), if_neg (nI_ge hl (by omega))]
      unfold P_X4_readLoan_32
      simp only [q_0, q_1, q_2, q_3, q_4, q_5, q_6, q_7, q_8, q_10, q_12, q_14, q_20, q_47, q_50, q_99, q_100, q_107, q_120, q_792]
      rw [bE (must1 m k)]
      rcases q_len h hr hi (k := k + 1) (by omega) with ⟨x, hx, hx1, c1, c2⟩ | ⟨r, w, c1, c2, c3⟩
      · have hxl := hi.2.2.1 x hx
        rw [bE c1, bE (x0_charge hi hx), if_neg (show ¬ nI (g 2 x) = nI 0 by rw [nI_eq (by omega) (by omega)]; omega), tS_at, nI_add, tS_tS, bE2 c2]
        rcases q_bor h hr hi (k := k + 1 + 1) (by omega) hx with ⟨y, hy, hyx, d1, d2⟩ | ⟨r, w, d1, d2, d3⟩
        · have hyl := hi.2.2.1 y hy
          have hh := x0_has hi (x := y) (by omega)
          rw [if_pos hy] at hh
          rw [bE d1, bE hh, if_neg (by decide +kernel), if_neg (by rw [nI_eq (by omega) (by omega)]; exact hyx), tS_at, nI_add, tS_tS, bE (x0_charge hi hx), bE2 d2, mS_6, if_pos rfl, bE (x4_of1 (RM_ms hr _ _) hi hx)]
          rcases q_num2 h (k := k + 1 + 1 + 1) (lo := 1) (hi := g 2 x) (by omega) hx1 (by omega) with ⟨u, hu1, hu2, e1, e2⟩ | ⟨v, j, hv, hj1, hj2, e1, e2⟩
          · rw [bE2 e1, bE2 e2, if_neg (n9 (by omega))]
            unfold P_X4_readLoan_71
            simp only [q_0, q_1, q_2, q_3, q_4, q_5, q_6, q_7, q_8, q_10, q_12, q_14, q_20, q_47, q_50, q_99, q_100, q_107, q_120, q_792]
            rcases q_num2 h (k := k + 1 + 1 + 1 + 2) (lo := 0) (hi := 50) (by omega) (by omega) (by omega) with ⟨r, hr1, hr2, f1, f2⟩ | ⟨v, j, hv, hj1, hj2, f1, f2⟩
            · have hm := x0_makeLoan (r := r) hi hx hy (fun z => hyx z.symm) (show u ≤ 1000 by omega)
              have ht := x4_tooMuch (RM_ms hr (k + 1 + 1 + 1 + 2 + 2) 0) hi hx hy (show u ≤ 1000 by omega)
              have za := hz x hx
              have zb := hz y hy
              rw [bE2 f1, bE2 f2, if_neg (n9 (by omega)), mS_6, if_pos rfl, bE ht]
              by_cases q : arr u x y ≤ g 1 y - g 2 y
              · have hG : clG g x y u := ⟨by omega, by omega, hl, hu2, q⟩
                have hal := arr_le u x y
                rw [if_pos hG] at hm
                obtain ⟨m', p1, p2, p3, p4⟩ := x4_makeLoan (RM_ms hr (k + 1 + 1 + 1 + 2 + 2) 0) hi hx hy (fun z => hyx z.symm) hu1 (show u ≤ 99 by omega) hr2 hG
                refine Or.inl ⟨lendS g x y u r, k + 1 + 1 + 1 + 2 + 2, m', ?_, ?_, (p4.2.1 5 (by omega) (by omega)).trans (mS_5 _ _ _), (p4.2.1 6 (by omega) (by omega)).trans (mS_6 _ _ _), (Fx.ms m _ _).fr p4, by omega, by omega, ⟨d, p2⟩, p3, Zl_lend hz x y u r⟩
                · rw [bE2 hm, if_neg (n9 (by omega))]
                · rw [if_pos q, if_pos rfl, bE2 p1]
              · have hG : ¬ clG g x y u := fun z => q z.2.2.2.2
                rw [if_neg hG] at hm
                refine Pt.no (g' := g) (k' := k) ?_ ?_ (by omega)
                · rw [bE2 hm, if_pos rfl, tS_tS]
                · rw [if_neg q, if_neg (by decide +kernel)]
                  simp only [q_let]
                  rw [mS_mS]
            · refine Pt.no (g' := g) (k' := j) ?_ ?_ (by omega)
              · rw [bE2 f1, if_pos rfl]
              · rw [bE2 f2, mS_6, if_neg (by decide +kernel)]
          · refine Pt.no (g' := g) (k' := j) ?_ ?_ (by omega)
            · rw [bE2 e1, if_pos rfl]
            · rw [bE2 e2, rl71_st]
        · refine Pt.no (g' := g) (k' := k + 1 + 1) ?_ ?_ (by omega)
          · rw [bE d1]
            rcases d2 with d2 | ⟨d2, rfl⟩
            · rw [bE d2, if_pos rfl]
            · rw [bE d2, if_neg (by decide +kernel), if_pos rfl]
          · rw [bE2 d3, mS_6, if_neg (by decide +kernel), rl71_st]
      · obtain ⟨w2, h2⟩ := ch_st h hr hi (k := k + 1) (by omega) w
        refine Pt.no (g' := g) (k' := k + 1) ?_ ?_ (by omega)
        · rw [bE c1, bE c2, if_pos rfl]
        · rw [bE2 c3, bE2 h2, mS_6, if_neg (by decide +kernel), rl71_st]
    · rw [if_neg (nI_nlt (by omega) (by omega)), if_pos (nI_le (by omega) (by omega))]
      exact Pt.no (g' := g) (k' := k) rfl (rl32_st h hr hi (by omega) _) (by omega)
