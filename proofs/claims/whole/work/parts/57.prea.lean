/-! ===== the pure claim: the whole text read ===== -/
variable {L : Nat} {ch : Nat → Nat} {T m : lc_St} {d : Option Int32} {g : Nat → Nat → Nat}
theorem q_66 : (66 : Int32) = nI 66 := by decide +kernel
theorem c_99 : (99 : Int32) = nI 99 := by decide +kernel
theorem q_108 : (108 : Int32) = nI 108 := by decide +kernel
theorem isB107_1 {s : lc_St} (h : s 0 6 = nI 1) : P_X4_isBattery_107 s = some (nI 0, s) := by
  unfold P_X4_isBattery_107
  rw [h, if_neg (by decide +kernel)]; rfl
theorem isB107_0 {s : lc_St} (h : s 0 6 = nI 0) : P_X4_isBattery_107 s = some (nI 1, s) := by
  unfold P_X4_isBattery_107
  rw [h, if_pos n00]; rfl
theorem isB49_1 {s : lc_St} {n : Nat} (h : s 0 6 = nI 1) : P_X4_isBattery_49 (n + 1) s = some (nI 0, s) := by
  rw [P_X4_isBattery_49, h, if_neg (by decide +kernel), isB107_1 h]
/-- a text keeps its length and its characters -/
def Tf (T T' : lc_St) : Prop := T' 0 0 = T 0 0 ∧ T' 1 = T 1
theorem HT.fx {m m' T T' : lc_St} (h : HT L ch T m) (hx : Fx m m') (ht : Tf T T') : HT L ch T' m' := by
  obtain ⟨h1, h2, h3, h4⟩ := h
  refine ⟨h1, by rw [ht.1]; exact h2, by rw [hx.2 2 (by omega) (by omega) (by omega) (by omega)]; exact h3, fun i hi => ?_⟩
  rw [ht.2, hx.1 6 (by omega)]
  exact h4 i hi
/-- a part, on both sides -/
theorem q_part (h : HT L ch T m) (hr : RM 8 d m g) (hi : Iv g) (hz : Zl g) {k n : Nat} (hk : k < 800) (hL : k < L) : ∃ Y, Pt m T k (P_X2_readPart (nB g) (tS T k)) Y ∧ lc_bd (P_X4_look (mS m k 0)) (fun r68 => if r68 = (99 : Int32) then lc_bd (P_X4_readCell (mS m k 0)) (fun s6 => P_X4_isBattery_49 n s6) else lc_bd (P_X4_look (mS m k 0)) (fun r84 => if r84 = (108 : Int32) then lc_bd (P_X4_readLoan (mS m k 0)) (fun s5 => P_X4_isBattery_49 n s5) else lc_bd (P_X4_must (0 : Int32) (mS m k 0)) (fun s4 => P_X4_isBattery_49 n s4))) = lc_bd Y (fun s => P_X4_isBattery_49 n s) := by
  have hl := x4_look (z := 0) h (k := k) (by omega)
  have i1 := x2_isAt h (k := k) (v := 99) (by omega) (by omega)
  have i2 := x2_isAt h (k := k) (v := 108) (by omega) (by omega)
  have hch := (h.2.2.2 k hL).1
  rw [if_pos hL] at hl
  unfold P_X2_readPart
  rw [bE hl, bE hl, c_99, q_108]
  by_cases q : ch k = 99
  · refine ⟨P_X4_readCell (mS m k 0), ?_, ?_⟩
    · rw [if_pos (show k < L ∧ ch k = 99 from ⟨hL, q⟩)] at i1
      rw [bE i1, if_neg (by decide +kernel)]
      rcases q_cellT h hr hi hz hk with ⟨g', k', m', p1, p2⟩ | ⟨g', k', m', p1, p2⟩
      · refine Or.inl ⟨g', k', m', ?_, p2⟩
        rw [p1, q_bd3, q_ift (show nI 1 = (0 : Int32) ∨ nI 1 = (1 : Int32) from Or.inr rfl)]
      · refine Or.inr ⟨g', k', m', ?_, p2⟩
        rw [p1, q_bd3, q_ift (show nI 0 = (0 : Int32) ∨ nI 0 = (1 : Int32) from Or.inl rfl)]
    · rw [if_pos (by rw [q])]
  · have e1 : ¬ nI (ch k) = nI 99 := by rw [nI_eq (by omega) (by omega)]; exact q
    rw [if_neg (show ¬ (k < L ∧ ch k = 99) from fun z => q z.2)] at i1
    rw [bE i1, if_pos n00, if_neg e1]
    by_cases q2 : ch k = 108
    · refine ⟨P_X4_readLoan (mS m k 0), ?_, ?_⟩
      · rw [if_pos (show k < L ∧ ch k = 108 from ⟨hL, q2⟩)] at i2
        rw [bE i2, if_neg (by decide +kernel)]
        rcases q_loanT h hr hi hz hk with ⟨g', k', m', p1, p2⟩ | ⟨g', k', m', p1, p2⟩
        · refine Or.inl ⟨g', k', m', ?_, p2⟩
          rw [p1, q_bd3, if_neg (by decide +kernel)]; rfl
        · refine Or.inr ⟨g', k', m', ?_, p2⟩
          rw [p1, q_bd3, if_pos n00]; rfl
      · rw [if_pos (by rw [q2])]
    · have e2 : ¬ nI (ch k) = nI 108 := by rw [nI_eq (by omega) (by omega)]; exact q2
      refine ⟨some (mS m k 1), ?_, ?_⟩
      · rw [if_neg (show ¬ (k < L ∧ ch k = 108) from fun z => q2 z.2)] at i2
        rw [bE i2, if_pos n00]
        exact Pt.no (g' := g) (k' := k) rfl rfl (by omega)
      · rw [if_neg e2, ← n00, bE (must0 m k), q_bd]
/-- how a reading ends -/
def Rd (m T : lc_St) (X : Option (Int32 × lc_St × lc_St)) (Y : Option (Int32 × lc_St)) : Prop :=
  ∃ r g' T' m', X = some (r, nB g', T') ∧ Tf T T' ∧ Fx m m' ∧ ((r = -9 ∧ Y = some (nI 1, m') ∧ (∃ d, RM 8 d m' g') ∧ Iv g') ∨ (∃ k', k' < 1000 ∧ r = nI k' ∧ Y = some (nI 0, m') ∧ m' 0 5 = nI k'))
theorem l_parts : ∀ j k p (g : Nat → Nat → Nat) (d : Option Int32) (T m : lc_St) n1 n2, L + 1 ≤ k + j → p + 1 ≤ k → k < 200 → HT L ch T m → T 0 1 = nI k → m 0 5 = nI k → m 0 6 = nI 0 → RM 8 d m g → Iv g → Zl g → j < n1 → j + 1 < n2 → Rd m T (P_X2_readInto_35 n1 (nI p) (nB g) T) (P_X4_isBattery_49 n2 m) := by
  intro j
  induction j with
  | zero =>
    intro k p g d T m n1 n2 hj hp hk h hT h5 h6 hr hi hz h1n h2n
    obtain ⟨n1, rfl⟩ : ∃ q, n1 = q + 1 := ⟨n1 - 1, by omega⟩; obtain ⟨n2, rfl⟩ : ∃ q, n2 = q + 1 := ⟨n2 - 1, by omega⟩
    refine ⟨-9, g, T, m, ?_, ⟨rfl, rfl⟩, ⟨fun _ _ => rfl, fun _ _ _ _ _ => rfl⟩, Or.inl ⟨rfl, ?_, ⟨d, hr⟩, hi⟩⟩
    · rw [P_X2_readInto_35, h.2.1, hT, if_pos (nI_le (show L ≤ k by omega) (by omega))]
      split <;> rfl
    · rw [P_X4_isBattery_49, h6, if_pos n00, h.2.2.1, h5, if_pos (nI_le (show L ≤ k by omega) (by omega)), isB107_0 h6]
  | succ j ih =>
    intro k p g d T m n1 n2 hj hp hk h hT h5 h6 hr hi hz h1n h2n
    obtain ⟨n1, rfl⟩ : ∃ q, n1 = q + 1 := ⟨n1 - 1, by omega⟩
    obtain ⟨n2, rfl⟩ : ∃ q, n2 = q + 1 + 1 := ⟨n2 - 2, by omega⟩
    have hL120 := h.1
    by_cases hL : L ≤ k
    · refine ⟨-9, g, T, m, ?_, ⟨rfl, rfl⟩, ⟨fun _ _ => rfl, fun _ _ _ _ _ => rfl⟩, Or.inl ⟨rfl, ?_, ⟨d, hr⟩, hi⟩⟩
      · rw [P_X2_readInto_35, h.2.1, hT, if_pos (nI_le hL (by omega))]
        split <;> rfl
      · rw [P_X4_isBattery_49, h6, if_pos n00, h.2.2.1, h5, if_pos (nI_le hL (by omega)), isB107_0 h6]
    · have eT := tS_self hT
      have em := mS_self h5 h6
      obtain ⟨Y, hP, hY⟩ := q_part (n := n2 + 1) h hr hi hz (k := k) (by omega) (by omega)
      rw [eT] at hP
      rw [em] at hY
      have X0 : P_X2_readInto_35 (n1 + 1) (nI p) (nB g) T = lc_bd3 (P_X2_readPart (nB g) T) (fun r54 s4 s5 => if r54 = 0 then some ((s5 0 1), s4, s5) else P_X2_readInto_35 n1 (nI (p + 1)) s4 s5) := by
        rw [P_X2_readInto_35, h.2.1, hT]
        simp only [q_0, q_1, q_2, q_3, q_4, q_5, q_6, q_7, q_8, q_10, q_12, q_14, q_20, q_47, q_50, q_99, q_100, q_107, q_120, q_792, q_let, nI_add]
        rw [if_neg (nI_ge (show p < 120 by omega) (by omega)), if_neg (nI_ge (show k < L by omega) (by omega))]
      have Y0 : P_X4_isBattery_49 (n2 + 1 + 1) m = lc_bd Y (fun s => P_X4_isBattery_49 (n2 + 1) s) := by
        rw [P_X4_isBattery_49, h6, if_pos n00, h.2.2.1, h5, if_neg (nI_ge (show k < L by omega) (by omega)), hY]
      rw [X0, Y0]
      rcases hP with ⟨g', k', m', p1, p2, p3, p4, p5, p6, p7, ⟨d', p8⟩, p9, p10⟩ | ⟨g', k', m', p1, p2, p3, p4, p5, p6⟩
      · obtain ⟨r, g2, T2, m2, z1, z2, z3, z4⟩ := ih k' (p + 1) g' d' (tS T k') m' n1 (n2 + 1) (by omega) (by omega) (by omega) (h.fx p5 ⟨tS_n _ _, tS_1 _ _⟩) (tS_at _ _) p3 p4 p8 p9 p10 (by omega) (by omega)
        refine ⟨r, g2, T2, m2, ?_, ⟨z2.1.trans (tS_n _ _), z2.2.trans (tS_1 _ _)⟩, p5.tr z3, ?_⟩
        · rw [p1, q_bd3, if_neg (by decide +kernel)]; exact z1
        · rw [p2, q_bd]; exact z4
      · refine ⟨nI k', g', tS T k', m', ?_, ⟨tS_n _ _, tS_1 _ _⟩, p5, Or.inr ⟨k', by omega, rfl, ?_, p3⟩⟩
        · rw [p1, q_bd3, if_pos n00, tS_at]
        · rw [p2, q_bd, isB49_1 p4]
