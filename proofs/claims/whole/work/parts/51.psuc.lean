/-! ===== the pure claim: a command ===== -/
variable {d : Option Int32} {m : lc_St} {g : Nat → Nat → Nat}
theorem s_cell (hr : RM 8 d m g) (hi : Iv g) {a b u : Nat} (ha9 : a < 10) (hu : u < 100) : Sx d m (if b = 0 then lc_bd (P_X0_hasCell (nI a) (nB g)) (fun r262 => if r262 = nI 0 then some (nI 0, nB g) else lc_bd (P_X0_chargeOf (nI a) (nB g)) (fun r270 => if r270 < nI u then some (nI 0, nB g) else some (nI 1, nB g))) else some (nI 0, nB g)) (if b = 0 then lc_bd (P_X4_isCell (nI a) m) (fun r176 => if r176 = nI 0 then some (nI 0, m) else lc_bd (P_X4_of (nI a) (nI 1) m) (fun r185 => if r185 < nI u then some (nI 0, m) else some (nI 1, m))) else some (nI 0, m)) := by
  have a1 := x0_has hi (show a < 2 ^ 31 by omega)
  have a2 := x4_isCell hr hi (show a < 2 ^ 31 by omega)
  by_cases hb : b = 0
  · rw [if_pos hb, if_pos hb]
    by_cases ha : a < g 0 0
    · rw [if_pos ha] at a1 a2
      rw [bE a1, bE a2, if_neg (by decide +kernel), if_neg (by decide +kernel), bE (x0_charge hi ha), bE (x4_of1 hr hi ha)]
      by_cases q : nI (g 2 a) < nI u
      · rw [if_pos q, if_pos q]; exact Sx.no rfl rfl (Fw.rf m)
      · rw [if_neg q, if_neg q]; exact Sx.yes rfl rfl (Fw.rf m) hr hi
    · rw [if_neg ha] at a1 a2
      rw [bE a1, bE a2, if_pos rfl, if_pos rfl]; exact Sx.no rfl rfl (Fw.rf m)
  · rw [if_neg hb, if_neg hb]; exact Sx.no rfl rfl (Fw.rf m)
theorem s_kind (hr : RM 8 d m g) (hi : Iv g) {a b f u : Nat} (ha9 : a < 10) (hu : u < 100) (hf : f = 0 ↔ u < 10) : Sx d m (if b = 0 then if f = 0 then lc_bd (P_X0_hasCell (nI a) (nB g)) (fun r295 => if r295 = nI 0 then some (nI 0, nB g) else lc_bd (P_X0_kindOf (nI a) (nB g)) (fun r303 => if r303 = nI u then some (nI 1, nB g) else some (nI 0, nB g))) else some (nI 0, nB g) else some (nI 0, nB g)) (if b = 0 then if 10 ≤ u then some (nI 0, m) else lc_bd (P_X4_isCell (nI a) m) (fun r212 => if r212 = nI 0 then some (nI 0, m) else lc_bd (P_X4_kindOf (nI a) m) (fun r220 => if r220 = nI u then some (nI 1, m) else some (nI 0, m))) else some (nI 0, m)) := by
  have a1 := x0_has hi (show a < 2 ^ 31 by omega)
  have a2 := x4_isCell hr hi (show a < 2 ^ 31 by omega)
  by_cases hb : b = 0
  · rw [if_pos hb, if_pos hb]
    by_cases hu1 : u < 10
    · rw [if_pos (hf.mpr hu1), if_neg (show ¬ 10 ≤ u by omega)]
      by_cases ha : a < g 0 0
      · rw [if_pos ha] at a1 a2
        obtain ⟨r, k1, k2⟩ := q_kind hr hi ha
        rw [bE a1, bE a2, if_neg (by decide +kernel), if_neg (by decide +kernel), bE k1, bE k2]
        by_cases q : r = nI u
        · rw [if_pos q, if_pos q]; exact Sx.yes rfl rfl (Fw.rf m) hr hi
        · rw [if_neg q, if_neg q]; exact Sx.no rfl rfl (Fw.rf m)
      · rw [if_neg ha] at a1 a2
        rw [bE a1, bE a2, if_pos rfl, if_pos rfl]; exact Sx.no rfl rfl (Fw.rf m)
    · rw [if_neg (fun z => hu1 (hf.mp z)), if_pos (show 10 ≤ u by omega)]; exact Sx.no rfl rfl (Fw.rf m)
  · rw [if_neg hb, if_neg hb]; exact Sx.no rfl rfl (Fw.rf m)
theorem s_owed (hr : RM 8 d m g) (hi : Iv g) {a v : Nat} : Sx d m (if a = 0 then lc_bd (P_X0_allOwed (nB g)) (fun r322 => if nI v < r322 then some (nI 0, nB g) else some (nI 1, nB g)) else some (nI 0, nB g)) (if a = 0 then lc_bd (P_X4_allOwed m) (fun r239 => if nI v < r239 then some (nI 0, m) else some (nI 1, m)) else some (nI 0, m)) := by
  by_cases ha : a = 0
  · rw [if_pos ha, if_pos ha]
    obtain ⟨r, k1, k2⟩ := q_allOwed hr hi
    rw [bE k1, bE k2]
    by_cases q : nI v < r
    · rw [if_pos q, if_pos q]; exact Sx.no rfl rfl (Fw.rf m)
    · rw [if_neg q, if_neg q]; exact Sx.yes rfl rfl (Fw.rf m) hr hi
  · rw [if_neg ha, if_neg ha]; exact Sx.no rfl rfl (Fw.rf m)
theorem s_bank (hr : RM 8 d m g) (hi : Iv g) {f u : Nat} (hu : u < 100) (hf : f = 0 ↔ u < 10) : Sx d m (if f = 0 then lc_bd (P_X0_bankruptCells (nB g)) (fun r350 => lc_bd (P_J6_bitCount_0f7a4 r350) (fun r353 => if nI u < r353 then some (nI 0, nB g) else some (nI 1, nB g))) else some (nI 0, nB g)) (if 10 ≤ u then some (nI 0, m) else lc_bd (P_X4_bankrupts m) (fun r270 => lc_bd (P_X4_bits r270) (fun r273 => if nI u < r273 then some (nI 0, m) else some (nI 1, m)))) := by
  by_cases hu1 : u < 10
  · rw [if_pos (hf.mpr hu1), if_neg (show ¬ 10 ≤ u by omega)]
    obtain ⟨s, hs, k1, k2⟩ := q_bankrupt2 hr hi
    rw [bE k1, bE k2, bE (b_cnt s hs), bE (x4_bits hs)]
    by_cases q : nI u < nI (bc s)
    · rw [if_pos q, if_pos q]; exact Sx.no rfl rfl (Fw.rf m)
    · rw [if_neg q, if_neg q]; exact Sx.yes rfl rfl (Fw.rf m) hr hi
  · rw [if_neg (fun z => hu1 (hf.mp z)), if_pos (show 10 ≤ u by omega)]; exact Sx.no rfl rfl (Fw.rf m)
theorem s_plain {α : Type} {a b : Nat} (x y : α) : (if nI (if a = 0 ∧ b = 0 then 1 else 0) = nI 0 then x else y) = (if a + b = 0 then y else x) := by
  by_cases h : a = 0 ∧ b = 0
  · rw [if_pos h, if_neg (by decide +kernel), if_pos (by omega)]
  · rw [if_neg h, if_pos rfl, if_neg (by omega)]
theorem s_pl {X X' Y Y' : Option (Int32 × lc_St)} {k : Nat} (h1 : k = 0 → Sx d m X Y) (h2 : ¬ k = 0 → Sx d m X' Y') : Sx d m (if k = 0 then X else X') (if k = 0 then Y else Y') := by
  by_cases h : k = 0
  · rw [if_pos h, if_pos h]; exact h1 h
  · rw [if_neg h, if_neg h]; exact h2 h
theorem s_lif {X Y : Option (Int32 × lc_St)} (h : Sx d m X Y) : Sx d m X (lc_bd2 Y (fun r s => lc_if (r = nI 0 ∨ r = nI 1) (some (r, s)))) := by
  obtain ⟨ok, g', m', h1, h2, h3, h4, h5⟩ := h
  refine ⟨ok, g', m', h1, h2, ?_, h4, h5⟩
  rw [bE2 h3, q_ift]
  by_cases q : ok = 0
  · subst q; exact Or.inl rfl
  · rw [show ok = 1 by omega]; exact Or.inr rfl
theorem s_bool {X Y : Option (Int32 × lc_St)} (h : Sx d m X Y) : Sx d m X (lc_bd2 Y (fun r s => if r = nI 0 then some (nI 0, s) else some (nI 1, s))) := by
  obtain ⟨ok, g', m', h1, h2, h3, h4, h5⟩ := h
  refine ⟨ok, g', m', h1, h2, ?_, h4, h5⟩
  rw [bE2 h3]
  by_cases q : ok = 0
  · subst q; rw [if_pos rfl]
  · rw [show ok = 1 by omega, if_neg (by decide +kernel)]
theorem succ_x (b : lc_St) (c a e f u : Nat) (hc : c < 100000) (ha : c / 1000 - c / 1000 / 10 * 10 = a) (he : c / 100 - c / 100 / 10 * 10 = e) (hf : c / 10 - c / 10 / 10 * 10 = f) (hu : c - c / 100 * 100 = u) : P_X3_succeeds (nI c) b = P_X3_succeeds_45 (nI c) (nI a) (nI e) (nI f) (nI u) (nI (if a = 0 ∧ e = 0 then 1 else 0)) b := by
  unfold P_X3_succeeds P_X3_succeeds_44
  simp (disch := omega) only [q_let, q_0, q_1, q_2, q_3, q_4, q_5, q_6, q_7, q_8, q_10, q_12, q_14, q_20, q_47, q_50, q_99, q_100, q_107, q_120, q_792, q_1000, pk_div, pk_mul, pk_sub]
  rw [ha, he, hf, hu]
  by_cases h1 : a = 0
  · by_cases h2 : e = 0
    · rw [if_pos (show a = 0 ∧ e = 0 from ⟨h1, h2⟩), if_pos (show nI a = nI 0 by rw [h1]), if_pos (show nI e = nI 0 by rw [h2])]
    · rw [if_neg (show ¬ (a = 0 ∧ e = 0) from fun z => h2 z.2), if_pos (show nI a = nI 0 by rw [h1]), if_neg (show ¬ nI e = nI 0 by rw [nI_eq (by omega) (by omega)]; exact h2)]
  · rw [if_neg (show ¬ (a = 0 ∧ e = 0) from fun z => h1 z.1), if_neg (show ¬ nI a = nI 0 by rw [nI_eq (by omega) (by omega)]; exact h1)]
theorem q_succ (hr : RM 8 d m g) (hi : Iv g) {c : Nat} (hc : c < 100000) : Sx d m (P_X3_succeeds (nI c) (nB g)) (P_X4_succeeds (nI c) m) := by
  rw [succ_x (nB g) c _ _ _ _ hc rfl rfl rfl rfl]
  unfold P_X3_succeeds_45 P_X4_succeeds
  simp only [q_let]
  simp (maxSteps := 4000000) (disch := omega) only [q_0, q_1, q_2, q_3, q_4, q_5, q_6, q_7, q_8, q_9L, q_10, q_50, q_100, q_1000, q_10000, pk_div, pk_mul, pk_sub, nI_add]
  have e2 : c / 100 - c / 100 / 100 * 100 = 10 * (c / 1000 - c / 1000 / 10 * 10) + (c / 100 - c / 100 / 10 * 10) := by omega
  have hf : c / 10 - c / 10 / 10 * 10 = 0 ↔ c - c / 100 * 100 < 10 := by omega
  have hu : c - c / 100 * 100 < 100 := by omega
  have ha : c / 1000 - c / 1000 / 10 * 10 < 10 := by omega
  have hb : c / 100 - c / 100 / 10 * 10 < 10 := by omega
  have hq : c / 10000 < 10 := by omega
  have hfl : c / 10 - c / 10 / 10 * 10 < 10 := by omega
  rw [e2]
  generalize c / 10 - c / 10 / 10 * 10 = f at *
  generalize c - c / 100 * 100 = u at *
  generalize c / 1000 - c / 1000 / 10 * 10 = a at *
  generalize c / 100 - c / 100 / 10 * 10 = b at *
  generalize c / 10000 = q at *
  have hs : q = 0 ∨ q = 1 ∨ q = 2 ∨ q = 3 ∨ q = 4 ∨ q = 5 ∨ q = 6 ∨ q = 7 ∨ q = 8 ∨ q = 9 := by omega
  rcases hs with h | h | h | h | h | h | h | h | h | h <;> subst h <;> simp (disch := omega) only [nI_eq, nI_leI, Nat.reduceEqDiff, Nat.one_ne_zero, ↓reduceIte, s_plain]
  · exact Sx.no rfl rfl (Fw.rf m)
  · exact s_lif (s_lent hr hi ha hb hu)
  · exact s_lif (s_repaid hr hi (by omega) hu)
  · exact s_pl (fun _ => s_bool (s_charged hr hi hu)) (fun _ => Sx.no rfl rfl (Fw.rf m))
  · exact s_pl (fun _ => s_drawn hr hi hu) (fun _ => Sx.no rfl rfl (Fw.rf m))
  · exact s_pl (fun _ => s_passed hr hi hu) (fun _ => Sx.no rfl rfl (Fw.rf m))
  · exact s_cell hr hi ha hu
  · exact s_kind hr hi ha hu hf
  · exact s_owed hr hi
  · exact s_pl (fun _ => s_bank hr hi hu hf) (fun _ => Sx.no rfl rfl (Fw.rf m))
