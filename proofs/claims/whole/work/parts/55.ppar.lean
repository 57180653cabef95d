/-! ===== the pure claim: a part of the text ===== -/
def Fx (m m' : lc_St) : Prop := (∀ r, r = 2 ∨ r = 3 ∨ r = 4 ∨ r = 5 ∨ r = 6 → m' r = m r) ∧ ∀ j, j ≠ 3 → j ≠ 4 → j ≠ 5 → j ≠ 6 → m' 0 j = m 0 j
theorem Fx.ms (m : lc_St) (k z : Nat) : Fx m (mS m k z) := ⟨fun r hr => mS_r _ _ _ (by omega), fun j _ _ h5 h6 => mS_0 _ _ _ h5 h6⟩
theorem Fx.fr {a b c : lc_St} (h : Fx a b) (q : Fr b c) : Fx a c := ⟨fun r hr => (q.1 r (by omega)).trans (h.1 r hr), fun j h3 h4 h5 h6 => (q.2.1 j h3 h4).trans (h.2 j h3 h4 h5 h6)⟩
theorem Fx.tr {a b c : lc_St} (h : Fx a b) (q : Fx b c) : Fx a c := ⟨fun r hr => (q.1 r hr).trans (h.1 r hr), fun j h3 h4 h5 h6 => (q.2 j h3 h4 h5 h6).trans (h.2 j h3 h4 h5 h6)⟩
/-- no cell is late -/
def Zl (g : Nat → Nat → Nat) : Prop := ∀ c, c < g 0 0 → g 4 c = 0
def Pt (m T : lc_St) (k : Nat) (X : Option (Int32 × lc_St × lc_St)) (Y : Option lc_St) : Prop :=
  (∃ g' k' m', X = some (nI 1, nB g', tS T k') ∧ Y = some m' ∧ m' 0 5 = nI k' ∧ m' 0 6 = nI 0 ∧ Fx m m' ∧ k < k' ∧ k' < k + 10 ∧ (∃ d, RM 8 d m' g') ∧ Iv g' ∧ Zl g') ∨ (∃ g' k' m', X = some (nI 0, nB g', tS T k') ∧ Y = some m' ∧ m' 0 5 = nI k' ∧ m' 0 6 = nI 1 ∧ Fx m m' ∧ k' < k + 10)
theorem Pt.no {m T : lc_St} {k : Nat} {X : Option (Int32 × lc_St × lc_St)} {Y : Option lc_St} {g' : Nat → Nat → Nat} {k' : Nat} (hX : X = some (nI 0, nB g', tS T k')) (hY : Y = some (mS m k' 1)) (hk : k' < k + 10) : Pt m T k X Y := Or.inr ⟨g', k', _, hX, hY, mS_5 _ _ _, mS_6 _ _ _, Fx.ms _ _ _, hk⟩
variable {L : Nat} {ch : Nat → Nat} {T m : lc_St} {d : Option Int32} {g : Nat → Nat → Nat}
theorem Zl_nc (hz : Zl g) (a b c : Nat) : Zl (ncS g a b c) := by
  intro x hx
  have e0 : ncS g a b c 0 0 = g 0 0 + 1 := gs_at _ _ _ _
  rw [e0] at hx
  unfold ncS
  rw [gs_r _ _ _ (by omega), gs_r _ _ _ (by omega)]
  by_cases q : x = g 0 0
  · subst q; rw [gs_at]
  · rw [gs_i _ _ _ q, gs_r _ _ _ (by omega), gs_r _ _ _ (by omega), gs_r _ _ _ (by omega)]
    exact hz x (by omega)
theorem n9 {v : Nat} (h : v < 2 ^ 31) : ¬ nI v = (-9 : Int32) := by rw [q_ne9 h]; exact not_false
theorem q_cellT (h : HT L ch T m) (hr : RM 8 d m g) (hi : Iv g) (hz : Zl g) {k : Nat} (hk : k < 800) : Pt m T k (P_X2_readCell (nB g) (tS T k)) (P_X4_readCell (mS m k 0)) := by
  have hc8 := hi.1
  unfold P_X2_readCell P_X4_readCell P_X4_readCell_17
  simp only [q_0, q_1, q_2, q_3, q_4, q_5, q_6, q_7, q_8, q_10, q_12, q_14, q_20, q_47, q_50, q_99, q_100, q_107, q_120, q_792, q_let]
  rw [nB_at, tS_at, nI_add, tS_tS, mS_r _ _ _ (show (1 : Nat) ≠ 0 by omega), rm_nc hr]
  by_cases h8 : g 0 0 < 8
  · rw [if_pos (nI_lt h8 (by omega)), if_neg (nI_ge h8 (by omega)), bE (must1 m k)]
    rcases q_num2 h (k := k + 1) (lo := 10) (hi := 99) (by omega) (by omega) (by omega) with ⟨a, ha1, ha2, c1, c2⟩ | ⟨v, j, hv, hj1, hj2, c1, c2⟩
    · rw [bE2 c1, bE2 c2, if_neg (n9 (by omega))]
      rcases q_num2 h (k := k + 1 + 2) (lo := 0) (hi := a) (by omega) (by omega) (by omega) with ⟨b, hb1, hb2, d1, d2⟩ | ⟨v, j, hv, hj1, hj2, d1, d2⟩
      · rw [bE2 d1, bE2 d2, if_neg (n9 (by omega))]
        rcases q_num1 h (k := k + 1 + 2 + 2) (hi := 3) (by omega) (by omega) with ⟨c, hc, e1, e2⟩ | ⟨e1, e2⟩
        · have hn := x4_newCell (RM_ms hr (k + 1 + 2 + 2 + 1) 0) h8 a b c
          have hf := ncM_fr (mS m (k + 1 + 2 + 2 + 1) 0) g a b c
          refine Or.inl ⟨ncS g a b c, k + 1 + 2 + 2 + 1, ncM (mS m (k + 1 + 2 + 2 + 1) 0) g a b c, ?_, ?_, (hf.2.1 5 (by omega) (by omega)).trans (mS_5 _ _ _), (hf.2.1 6 (by omega) (by omega)).trans (mS_6 _ _ _), (Fx.ms m _ _).fr hf, by omega, by omega, ⟨d, RM_nc (RM_ms hr _ _) h8 hi.2.1 a b c⟩, Iv_nc hi h8 ha1 ha2 hb2 hc, Zl_nc hz a b c⟩
          · rw [bE2 e1, if_neg (n9 (by omega)), bE2 (x0_put h8 a b c), if_neg (n9 (by omega))]
          · rw [bE2 e2, mS_6, if_pos rfl, bE2 hn]
        · refine Pt.no (g' := g) (k' := k + 1 + 2 + 2) ?_ ?_ (by omega)
          · rw [bE2 e1, if_pos rfl]
          · rw [bE2 e2, mS_6, if_neg (by decide +kernel)]
      · refine Pt.no (g' := g) (k' := j) ?_ ?_ (by omega)
        · rw [bE2 d1, if_pos rfl]
        · rw [bE2 d2, bE2 (num1_st _ _ m j), mS_6, if_neg (by decide +kernel)]
    · refine Pt.no (g' := g) (k' := j) ?_ ?_ (by omega)
      · rw [bE2 c1, if_pos rfl]
      · rw [bE2 c2, bE2 (num2_st _ _ m j), bE2 (num1_st _ _ m j), mS_6, if_neg (by decide +kernel)]
  · rw [if_neg (nI_nlt (by omega) (by omega)), if_pos (nI_le (by omega) (by omega))]
    refine Pt.no (g' := g) (k' := k) rfl ?_ (by omega)
    rw [bE (must0 m k), bE2 (num2_st _ _ m k), bE2 (num2_st _ _ m k), bE2 (num1_st _ _ m k), mS_6, if_neg (by decide +kernel)]
/-! ===== the digit of a cell ===== -/
theorem ch41 (c : Int32) (m : lc_St) (k : Nat) : P_X4_cellHere_41 c (mS m k 0) = some (c, mS m k 1) := by
  unfold P_X4_cellHere_41 P_X4_cellHere_42
  rw [← n00, bE (must0 m k)]
theorem ch37 (c : Int32) (m : lc_St) (k : Nat) : P_X4_cellHere_37 c (mS m k 0) = some (c, mS m (k + 1) 0) := by
  unfold P_X4_cellHere_37 P_X4_cellHere_42
  have e : (1 : Int32) = nI 1 := by decide +kernel
  rw [e, bE (must1 m k)]
theorem ch41s (c : Int32) (m : lc_St) (k : Nat) : P_X4_cellHere_41 c (mS m k 1) = some (c, mS m k 1) := by
  unfold P_X4_cellHere_41 P_X4_cellHere_42
  rw [bE (mustS _ m k)]
theorem ch37s (c : Int32) (m : lc_St) (k : Nat) : P_X4_cellHere_37 c (mS m k 1) = some (c, mS m k 1) := by
  unfold P_X4_cellHere_37 P_X4_cellHere_42
  rw [bE (mustS _ m k)]
theorem q_nocell (hr : RM 8 d m g) (hi : Iv g) {c : Int32} (h : c < 0 ∨ ∃ x, 10 ≤ x ∧ x < 300 ∧ c = nI x) : P_X4_isCell c m = some (nI 0) := by
  have h8 := hi.1
  rcases h with h | ⟨x, h1, h2, rfl⟩
  · exact x4_isCelln h
  · rw [x4_isCell hr hi (by omega), if_neg (by omega)]
/-- stuck, it stays so -/
theorem ch_st (h : HT L ch T m) (hr : RM 8 d m g) (hi : Iv g) {k : Nat} (hk : k < 900) (x : Int32) : ∃ w, P_X4_cellHere x (mS m k 1) = some (w, mS m k 1) := by
  have h8 := hi.1
  have hl := x4_look (z := 1) h (k := k) (by omega)
  generalize (if k < L then nI (ch k) else -1) = w at hl
  refine ⟨w - 48, ?_⟩
  unfold P_X4_cellHere
  rw [bE hl]
  simp only [q_let]
  generalize w - 48 = c
  rcases q_cases c with hc | ⟨n, hn, rfl⟩
  · rw [bE (x4_isCelln hc), if_pos n00, ch41s]
  · rw [bE (x4_isCell (RM_ms hr k 1) hi hn)]
    by_cases q : n < g 0 0
    · have e1 : (1 : Int32) = nI 1 := by decide +kernel
      rw [if_pos q, if_neg (by decide +kernel), ch41s, ch37s, e1, bE (x4_of1 (RM_ms hr k 1) hi q)]
      split
      · rfl
      · split
        · split <;> rfl
        · rfl
    · rw [if_neg q, if_pos n00, ch41s]
/-- the lender -/
theorem q_len (h : HT L ch T m) (hr : RM 8 d m g) (hi : Iv g) {k : Nat} (hk : k < 900) : (∃ x, x < g 0 0 ∧ 1 ≤ g 2 x ∧ P_X2_digitHere (tS T k) = some (nI x) ∧ P_X4_cellHere (-9) (mS m k 0) = some (nI x, mS m (k + 1) 0)) ∨ (∃ r w, P_X2_digitHere (tS T k) = some r ∧ P_X0_chargeOf r (nB g) = some (nI 0) ∧ P_X4_cellHere (-9) (mS m k 0) = some (w, mS m k 1)) := by
  have h8 := hi.1
  have e1 : (1 : Int32) = nI 1 := by decide +kernel
  rcases q_dig h (k := k) (by omega) with ⟨v, w, hv, hL, c1, c2, c3⟩ | ⟨c1, w, c2, c3⟩
  · by_cases q : v < g 0 0
    · have hb := hi.2.2.1 v q
      have hc := x4_isCell (RM_ms hr k 0) hi (x := v) (by omega)
      rw [if_pos q] at hc
      have ho := x4_of1 (RM_ms hr k 0) hi q
      by_cases q2 : g 2 v = 0
      · right
        refine ⟨nI v, nI v, c1, by rw [x0_charge hi q, q2], ?_⟩
        unfold P_X4_cellHere
        rw [bE (c2 0)]
        simp only [q_let]
        rw [q_48, c3, bE hc, if_neg (by decide +kernel), if_neg (n9 (by omega)), if_pos trivial, e1, bE ho, q2, if_pos le00, ch41]
      · left
        refine ⟨v, q, by omega, c1, ?_⟩
        unfold P_X4_cellHere
        rw [bE (c2 0)]
        simp only [q_let]
        rw [q_48, c3, bE hc, if_neg (by decide +kernel), if_neg (n9 (by omega)), if_pos trivial, e1, bE ho, if_neg (nI_nle (by omega) (by omega)), ch37]
    · right
      have hc := x4_isCell (RM_ms hr k 0) hi (x := v) (by omega)
      rw [if_neg q] at hc
      refine ⟨nI v, nI v, c1, x0_charge0 hi q (by omega), ?_⟩
      unfold P_X4_cellHere
      rw [bE (c2 0)]
      simp only [q_let]
      rw [q_48, c3, bE hc, if_pos n00, ch41]
  · right
    refine ⟨-9, w - nI 48, c1, x0_chargen (by decide +kernel), ?_⟩
    unfold P_X4_cellHere
    rw [bE (c2 0)]
    simp only [q_let]
    rw [q_48, bE (q_nocell (RM_ms hr k 0) hi c3), if_pos n00, ch41]
/-- the borrower -/
theorem q_bor (h : HT L ch T m) (hr : RM 8 d m g) (hi : Iv g) {k x : Nat} (hk : k < 900) (hx : x < g 0 0) : (∃ y, y < g 0 0 ∧ y ≠ x ∧ P_X2_digitHere (tS T k) = some (nI y) ∧ P_X4_cellHere (nI x) (mS m k 0) = some (nI y, mS m (k + 1) 0)) ∨ (∃ r w, P_X2_digitHere (tS T k) = some r ∧ (P_X0_hasCell r (nB g) = some (nI 0) ∨ (P_X0_hasCell r (nB g) = some (nI 1) ∧ r = nI x)) ∧ P_X4_cellHere (nI x) (mS m k 0) = some (w, mS m k 1)) := by
  have h8 := hi.1
  rcases q_dig h (k := k) (by omega) with ⟨v, w, hv, hL, c1, c2, c3⟩ | ⟨c1, w, c2, c3⟩
  · have hh := x0_has hi (x := v) (by omega)
    have hc := x4_isCell (RM_ms hr k 0) hi (x := v) (by omega)
    by_cases q : v < g 0 0
    · rw [if_pos q] at hc hh
      by_cases q2 : v = x
      · right
        refine ⟨nI v, nI v, c1, Or.inr ⟨hh, by rw [q2]⟩, ?_⟩
        unfold P_X4_cellHere
        rw [bE (c2 0)]
        simp only [q_let]
        rw [q_48, c3, bE hc, if_neg (by decide +kernel), if_pos (by rw [q2]), ch41]
      · left
        refine ⟨v, q, q2, c1, ?_⟩
        unfold P_X4_cellHere
        rw [bE (c2 0)]
        simp only [q_let]
        rw [q_48, c3, bE hc, if_neg (by decide +kernel), if_neg (by rw [nI_eq (by omega) (by omega)]; exact q2), if_neg (n9 (by omega)), ch37]
    · rw [if_neg q] at hc hh
      right
      refine ⟨nI v, nI v, c1, Or.inl hh, ?_⟩
      unfold P_X4_cellHere
      rw [bE (c2 0)]
      simp only [q_let]
      rw [q_48, c3, bE hc, if_pos n00, ch41]
  · right
    refine ⟨-9, w - nI 48, c1, Or.inl (x0_hasn (by decide +kernel)), ?_⟩
    unfold P_X4_cellHere
    rw [bE (c2 0)]
    simp only [q_let]
    rw [q_48, bE (q_nocell (RM_ms hr k 0) hi c3), if_pos n00, ch41]
