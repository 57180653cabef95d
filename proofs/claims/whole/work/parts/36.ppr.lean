/-! ===== the pure claim: a battery and its image in a row of the model ===== -/
variable {e : Nat} {d : Option Int32} {m : lc_St} {g : Nat → Nat → Nat}
/-- alike where it counts -/
def Lv (g g' : Nat → Nat → Nat) : Prop := (∀ i, i < 7 → g' 0 i = g 0 i) ∧ (∀ c, c < g 0 0 → g' 1 c = g 1 c ∧ g' 2 c = g 2 c ∧ g' 3 c = g 3 c ∧ g' 4 c = g 4 c) ∧ (∀ i, i < g 0 1 → g' 5 i = g 5 i ∧ g' 6 i = g 6 i ∧ g' 7 i = g 7 i ∧ g' 8 i = g 8 i ∧ g' 9 i = g 9 i)
theorem Lv.iv {g' : Nat → Nat → Nat} (h : Lv g g') (hi : Iv g) : Iv g' := by
  have e0 := h.1 0 (by omega)
  have e1 := h.1 1 (by omega)
  refine ⟨by rw [e0]; exact hi.1, by rw [e1]; exact hi.2.1, fun c hc => ?_, fun j hj => ?_⟩
  · rw [e0] at hc
    obtain ⟨a, b, c1, f⟩ := h.2.1 c hc
    rw [a, b, c1, f]; exact hi.2.2.1 c hc
  · rw [e1] at hj
    obtain ⟨a, b, c1, f, q⟩ := h.2.2 j hj
    rw [a, b, c1, f, e0]; exact hi.2.2.2 j hj
theorem Lv.rm {g' : Nat → Nat → Nat} (h : Lv g g') (hr : RM e d m g) : RM e none m g' := by
  have e0 := h.1 0 (by omega)
  have e1 := h.1 1 (by omega)
  obtain ⟨⟨a0, a1, a2, a3, a4, a5, a6, a7, a8⟩, hcc, hll⟩ := hr
  refine ⟨⟨by rw [h.1 2 (by omega)]; exact a0, by rw [e0]; exact a1, by rw [e1]; exact a2, by rw [h.1 3 (by omega)]; exact a3, by rw [h.1 4 (by omega)]; exact a4, by rw [h.1 5 (by omega)]; exact a5, by rw [h.1 6 (by omega)]; exact a6, trivial, trivial⟩, fun c hc => ?_, fun j hj => ?_⟩
  · rw [e0] at hc
    obtain ⟨a, b, c1, f⟩ := h.2.1 c hc
    rw [a, b, c1, f]; exact hcc c hc
  · rw [e1] at hj
    obtain ⟨a, b, c1, f, q⟩ := h.2.2 j hj
    rw [a, b, c1, f, q]; exact hll j hj
/-- the battery b stands in the row -/
def Pr (b : lc_St) (row : Nat → Int32) : Prop := ∃ g d m, b = nB g ∧ Iv g ∧ RM 8 d m g ∧ (∀ k, k < 107 → row k = m 1 k) ∧ N9 (m 0 3)
theorem Pr.mk (hi : Iv g) (hr : RM 8 d m g) (h3 : N9 (m 0 3)) : Pr (nB g) (m 1) := ⟨g, d, m, rfl, hi, hr, fun _ _ => rfl, h3⟩
theorem Pr.row {b : lc_St} {row row' : Nat → Int32} (h : Pr b row) (q : ∀ k, k < 107 → row' k = row k) : Pr b row' := by
  obtain ⟨g, d, m, h1, h2, h3, h4, h5⟩ := h
  exact ⟨g, d, m, h1, h2, h3, fun k hk => (q k hk).trans (h4 k hk), h5⟩
/-- the model's own row: then the relation speaks of the model as it stands -/
theorem Pr.rm {b : lc_St} {m : lc_St} (h : Pr b (m 1)) (h3 : N9 (m 0 3)) : ∃ g d, b = nB g ∧ Iv g ∧ RM 8 d m g := by
  obtain ⟨g, d, m0, h1, h2, h4, h5, h6⟩ := h
  exact ⟨g, _, h1, h2, RM_tr h4 h2 h5⟩
def cpS (a b : Nat → Nat → Nat) : Nat → Nat → Nat := fun r i => if r = 0 then (if i < 7 then a 0 i else if i = 7 then 4294967287 else if i = 8 then 0 else b 0 i) else if r ≤ 4 then (if i < 8 then a r i else b r i) else if r ≤ 9 then (if i < 12 then a r i else b r i) else b r i
theorem x0_copy (a b : Nat → Nat → Nat) : P_X0_copyFrom (nB a) (nB b) = some (nB (cpS a b)) := by
  unfold P_X0_copyFrom
  simp only [lc_let]
  congr 1
  have h9 : (-9 : Int32) = nI 4294967287 := by decide +kernel
  funext r i
  by_cases h0 : r = 0
  · subst h0
    by_cases c0 : i = 0
    · subst c0; simp [lc_ss, va_up, upd, nB, cpS]
    · by_cases c1 : i = 1
      · subst c1; simp [lc_ss, va_up, upd, nB, cpS]
      · by_cases c2 : i = 2
        · subst c2; simp [lc_ss, va_up, upd, nB, cpS]
        · by_cases c3 : i = 3
          · subst c3; simp [lc_ss, va_up, upd, nB, cpS]
          · by_cases c4 : i = 4
            · subst c4; simp [lc_ss, va_up, upd, nB, cpS]
            · by_cases c5 : i = 5
              · subst c5; simp [lc_ss, va_up, upd, nB, cpS]
              · by_cases c6 : i = 6
                · subst c6; simp [lc_ss, va_up, upd, nB, cpS]
                · by_cases c7 : i = 7
                  · subst c7; simp [lc_ss, va_up, upd, nB, cpS]; exact h9
                  · by_cases c8 : i = 8
                    · subst c8; simp [lc_ss, va_up, upd, nB, cpS]; rfl
                    · have : ¬ i < 7 := by omega
                      simp [lc_ss, va_up, upd, nB, cpS, c0, c1, c2, c3, c4, c5, c6, c7, c8, this]
  · have hs : r = 1 ∨ r = 2 ∨ r = 3 ∨ r = 4 ∨ r = 5 ∨ r = 6 ∨ r = 7 ∨ r = 8 ∨ r = 9 ∨ 10 ≤ r := by omega
    rcases hs with h | h | h | h | h | h | h | h | h | h
    · subst h; by_cases q : i < 8 <;> simp [lc_ss, va_up, upd, nB, cpS, va_cpy, q]
    · subst h; by_cases q : i < 8 <;> simp [lc_ss, va_up, upd, nB, cpS, va_cpy, q]
    · subst h; by_cases q : i < 8 <;> simp [lc_ss, va_up, upd, nB, cpS, va_cpy, q]
    · subst h; by_cases q : i < 8 <;> simp [lc_ss, va_up, upd, nB, cpS, va_cpy, q]
    · subst h; by_cases q : i < 12 <;> simp [lc_ss, va_up, upd, nB, cpS, va_cpy, q]
    · subst h; by_cases q : i < 12 <;> simp [lc_ss, va_up, upd, nB, cpS, va_cpy, q]
    · subst h; by_cases q : i < 12 <;> simp [lc_ss, va_up, upd, nB, cpS, va_cpy, q]
    · subst h; by_cases q : i < 12 <;> simp [lc_ss, va_up, upd, nB, cpS, va_cpy, q]
    · subst h; by_cases q : i < 12 <;> simp [lc_ss, va_up, upd, nB, cpS, va_cpy, q]
    · have n1 : ¬ r = 1 := by omega
      have n2 : ¬ r = 2 := by omega
      have n3 : ¬ r = 3 := by omega
      have n4 : ¬ r = 4 := by omega
      have n5 : ¬ r = 5 := by omega
      have n6 : ¬ r = 6 := by omega
      have n7 : ¬ r = 7 := by omega
      have n8 : ¬ r = 8 := by omega
      have n9 : ¬ r = 9 := by omega
      have l4 : ¬ r ≤ 4 := by omega
      have l9 : ¬ r ≤ 9 := by omega
      simp [lc_ss, va_up, upd, nB, cpS, h0, n1, n2, n3, n4, n5, n6, n7, n8, n9, l4, l9]
theorem cpS_lv (a b : Nat → Nat → Nat) (hi : Iv a) : Lv a (cpS a b) := by
  have h8 := hi.1
  have h12 := hi.2.1
  refine ⟨fun i h => ?_, fun c hc => ?_, fun i hii => ?_⟩
  · unfold cpS; rw [if_pos rfl, if_pos h]
  · have : c < 8 := by omega
    simp [cpS, this]
  · have : i < 12 := by omega
    simp [cpS, this]
theorem cpS_7 (a b : Nat → Nat → Nat) : cpS a b 0 7 = 4294967287 ∧ cpS a b 0 8 = 0 := ⟨rfl, rfl⟩
/-- a copy of a battery stands in the same row -/
theorem Pr.cp {b : lc_St} {row : Nat → Int32} (h : Pr b row) (t : lc_St) : ∃ b', P_X0_copyFrom b t = some b' ∧ Pr b' row := by
  obtain ⟨g, d, m, h1, h2, h3, h4, h5⟩ := h
  obtain ⟨gt, ht⟩ := nB_ex t
  subst h1
  subst ht
  have l := cpS_lv g gt h2
  refine ⟨_, x0_copy g gt, cpS g gt, _, m, rfl, l.iv h2, l.rm h3, h4, h5⟩
/-- a copy of a battery, for a run on it -/
theorem RM.cp (hr : RM 8 d m g) (hi : Iv g) (t : lc_St) : ∃ g' d', P_X0_copyFrom (nB g) t = some (nB g') ∧ Iv g' ∧ RM 8 d' m g' ∧ g' 0 4 = g 0 4 ∧ g' 0 0 = g 0 0 := by
  obtain ⟨gt, ht⟩ := nB_ex t
  subst ht
  have l := cpS_lv g gt hi
  refine ⟨_, _, x0_copy g gt, l.iv hi, l.rm hr, l.1 4 (by omega), l.1 0 (by omega)⟩
