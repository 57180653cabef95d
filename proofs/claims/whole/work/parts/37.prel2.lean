/-! ===== the pure claim: the class and the model side by side ===== -/
def Tx (t m : lc_St) : Prop := ∃ n, n ≤ 120 ∧ t 0 0 = nI n ∧ m 0 2 = nI n ∧ ∀ i, i < n → ∃ v, v < 256 ∧ t 1 i = nI v ∧ m 6 i = nI v
def Sl (M : lc_MM) (s : lc_St) (k : Nat) : Prop := (M 21 2 k = nI 0 ∧ s 4 k = nI 0) ∨ (M 21 2 k = nI 1 ∧ s 4 k = nI 1 ∧ Pr (M (3 + k)) (fun j => s 3 (107 * k + j)))
def Hs (M : lc_MM) (s : lc_St) : Prop := ∃ f n, f < 14 ∧ n ≤ 14 ∧ M 20 0 0 = nI f ∧ M 20 0 1 = nI n ∧ s 0 1 = nI n ∧ ∀ i, i < n → Pr (M (5 + (f + i) % 14)) (fun k => s 5 (107 * i + k))
def Rel (M : lc_MM) (s : lc_St) : Prop := Pr (M 0) (s 1) ∧ N9 (s 0 3) ∧ (∀ k, k < 2 → Sl M s k) ∧ Hs M s ∧ Tx (M 19) s
variable {M M' : lc_MM} {s s' : lc_St}
/-- nothing that counts has changed -/
theorem Rel.try (h : Rel M s) (hM : ∀ k, k = 0 ∨ (3 ≤ k ∧ k ≤ 18) ∨ k = 20 ∨ k = 21 → M' k = M k) (t0 : M' 19 0 0 = M 19 0 0) (t1 : M' 19 1 = M 19 1) (h1 : ∀ k, k < 107 → s' 1 k = s 1 k) (hr : ∀ r, 3 ≤ r → r ≤ 6 → s' r = s r) (h0 : ∀ k, k = 1 ∨ k = 2 → s' 0 k = s 0 k) : Rel M' s' := by
  obtain ⟨a, b, c, ⟨f, n, d1, d2, d3, d4, d5, d6⟩, ⟨q, q1, q2, q3, q4⟩⟩ := h
  refine ⟨?_, trivial, fun k hk => ?_, ⟨f, n, d1, d2, by rw [hM 20 (by omega)]; exact d3, by rw [hM 20 (by omega)]; exact d4, by rw [h0 1 (by omega)]; exact d5, fun i hi => ?_⟩, ⟨q, q1, by rw [t0]; exact q2, by rw [h0 2 (by omega)]; exact q3, fun i hi => ?_⟩⟩
  · rw [hM 0 (by omega)]; exact a.row h1
  · have := c k hk
    unfold Sl at this ⊢
    rw [hM 21 (by omega), hr 4 (by omega) (by omega), hM (3 + k) (by omega), hr 3 (by omega) (by omega)]
    exact this
  · have := d6 i hi
    rw [hM _ (by omega), hr 5 (by omega) (by omega)]
    exact this
  · rw [t1, hr 6 (by omega) (by omega)]; exact q4 i hi
theorem Rel.t0 (h : Rel M s) (w : Int32) : Rel M (lc_ss s 0 0 w) :=
  h.try (fun _ _ => rfl) rfl rfl (fun k _ => by rw [ss_off _ _ _ (by omega)]) (fun r h3 _ => ss_off _ _ _ (by omega)) (fun k hk => ss_ne _ _ _ (by omega))
theorem Rel.up22 (h : Rel M s) (x : lc_St) : Rel (va_up M 22 x) s :=
  h.try (fun k hk => lc_up_off _ _ (by omega)) (by rw [lc_up_off _ _ (by omega)]) (by rw [lc_up_off _ _ (by omega)]) (fun _ _ => rfl) (fun _ _ _ => rfl) (fun _ _ => rfl)
theorem Rel.up23 (h : Rel M s) (x : lc_St) : Rel (va_up M 23 x) s :=
  h.try (fun k hk => lc_up_off _ _ (by omega)) (by rw [lc_up_off _ _ (by omega)]) (by rw [lc_up_off _ _ (by omega)]) (fun _ _ => rfl) (fun _ _ _ => rfl) (fun _ _ => rfl)
/-- a call of both: e is what the class throws, kap what the model calls it -/
def Cl (kap : Nat → Option Int32) (M : lc_MM) (X : Option (Nat × Int32 × lc_MM)) (Y : Option (Int32 × lc_St)) : Prop := ∃ e r M' r4 s', X = some (e, r, M') ∧ Y = some (r4, s') ∧ M' 22 = M 22 ∧ kap e = some (s' 0 0) ∧ (e = 0 → r = r4) ∧ Rel M' s'
def kA : Nat → Option Int32 := fun e => if e = 0 then some 0 else if e = 1 then some 1 else none
def kB : Nat → Option Int32 := fun e => if e = 0 then some 0 else if e = 3 then some 1 else if e = 1 then some 2 else none
def kC : Nat → Option Int32 := fun e => if e = 0 then some 0 else if e = 3 then some 1 else if e = 1 then some 2 else if e = 2 then some 3 else none
def kD : Nat → Option Int32 := fun e => if e = 0 then some 0 else if e = 1 then some 1 else if e = 2 then some 2 else none
def kE : Nat → Option Int32 := fun e => if e = 0 then some 0 else if e = 2 then some 1 else none
def kF : Nat → Option Int32 := fun e => if e = 0 then some 0 else if e = 3 then some 1 else none
def kG : Nat → Option Int32 := fun e => if e = 0 then some 0 else if e = 3 then some 1 else if e = 2 then some 2 else none
/-- a refusal -/
theorem Cl.no {kap : Nat → Option Int32} {X : Option (Nat × Int32 × lc_MM)} {Y : Option (Int32 × lc_St)} (h : Rel M s) {e : Nat} (he : e ≠ 0) {w : Int32} (hX : X = some (e, 0, M)) (hY : Y = some (nI 0, lc_ss s 0 0 w)) (hk : kap e = some w) : Cl kap M X Y :=
  ⟨e, 0, M, nI 0, _, hX, hY, rfl, by rw [ss_eq]; exact hk, fun q => absurd q he, h.t0 w⟩
/-- an answer that changes nothing -/
theorem Cl.ask {kap : Nat → Option Int32} {X : Option (Nat × Int32 × lc_MM)} {Y : Option (Int32 × lc_St)} (h : Rel M s) (hk : kap 0 = some (nI 0)) {r : Int32} (hX : X = some (0, r, M)) (hY : Y = some (r, lc_ss s 0 0 (nI 0))) : Cl kap M X Y :=
  ⟨0, r, M, r, _, hX, hY, rfl, by rw [ss_eq]; exact hk, fun _ => rfl, h.t0 _⟩
theorem RM_00 {e : Nat} {d : Option Int32} {g : Nat → Nat → Nat} (hr : RM e d s g) (w : Int32) : RM e d (lc_ss s 0 0 w) g := RM_off0 hr w (by omega) (by omega)
theorem q_le0 : ∀ k, k < 4 → (nI k ≤ (0 : Int32)) = (k = 0) := by decide +kernel
theorem q_9L : (9 : Int32) = nI 9 := by decide +kernel
theorem r_about (h : Rel M s) (x : Int32) : Cl kA M (P_X3_about x M) (P_X4_about x s) := by
  obtain ⟨g, d, hb, hi, hr⟩ := h.1.rm h.2.1
  have h8 := hi.1
  rcases q_cases x with hx | ⟨n, hn, rfl⟩
  · have hne : ∀ k, k < 2 ^ 31 → (x = nI k) = False := fun k hk => eq_false (q_nne hx hk)
    refine Cl.no (e := 1) (w := nI 1) h (by omega) ?_ ?_ rfl
    · unfold P_X3_about
      simp (disch := omega) only [q_0, q_1, q_2, q_3, q_4, q_5, q_6, q_7, q_8, q_10, q_12, q_14, q_20, q_47, q_50, q_99, q_100, q_107, q_120, q_792, q_9L, hne, ↓reduceIte]
    · unfold P_X4_about P_X4_about_16
      simp only [q_0, q_1, q_2, q_3, q_4, q_5, q_6, q_7, q_8, q_10, q_12, q_14, q_20, q_47, q_50, q_99, q_100, q_107, q_120, q_792, q_9L]
      rw [bE (x4_inn 0 9 hx (by omega))]
      simp (disch := omega) only [nI_ltI, nI_leI, nI_eq, q_okn, nI_clamp, nI_add, pk_mul, pk_sub, pk_div, q_nlt9, q_neg0, q_ne9, q_9ne, q_nle9, ↓reduceIte, lc_let, ss_eq, Nat.reduceLeDiff, hne]
  · have ein := x4_in 0 9 n (by omega) (by omega) hn
    by_cases h10 : n < 10
    · rw [if_pos (by omega)] at ein
      have hr2 := RM_00 hr (nI 0)
      obtain ⟨a0, a1, a2, a3, a4, a5, a6, a7, a8⟩ := hr2.1
      have key : P_X4_about (nI n) s = P_X4_about_16 (nI n) (nI 0) s := by
        unfold P_X4_about
        simp only [q_0, q_1, q_2, q_3, q_4, q_5, q_6, q_7, q_8, q_10, q_12, q_14, q_20, q_47, q_50, q_99, q_100, q_107, q_120, q_792, q_9L]
        rw [bE ein]
        simp (disch := omega) only [nI_ltI, nI_leI, nI_eq, q_okn, nI_clamp, nI_add, pk_mul, pk_sub, pk_div, q_nlt9, q_neg0, q_ne9, q_9ne, q_nle9, ↓reduceIte, Nat.one_ne_zero]
      rw [key]
      have hs : n = 0 ∨ n = 1 ∨ n = 2 ∨ n = 3 ∨ n = 4 ∨ n = 5 ∨ n = 6 ∨ n = 7 ∨ n = 8 ∨ n = 9 := by omega
      unfold P_X3_about P_X4_about_16
      simp only [q_0, q_1, q_2, q_3, q_4, q_5, q_6, q_7, q_8, q_10, q_12, q_14, q_20, q_47, q_50, q_99, q_100, q_107, q_120, q_792, q_9L, lc_let, ss_eq]
      rw [hb]
      rcases hs with q | q | q | q | q | q | q | q | q | q <;> subst q
      · refine Cl.ask h rfl (r := nI (g 0 0)) ?_ ?_ <;> simp (disch := omega) only [nI_ltI, nI_leI, nI_eq, q_okn, nI_clamp, nI_add, pk_mul, pk_sub, pk_div, q_nlt9, q_neg0, q_ne9, q_9ne, q_nle9, ↓reduceIte, nB_at, Nat.reduceEqDiff, Nat.reduceLeDiff, Nat.one_ne_zero, a1]
      · refine Cl.ask h rfl (r := nI (g 0 1)) ?_ ?_ <;> simp (disch := omega) only [nI_ltI, nI_leI, nI_eq, q_okn, nI_clamp, nI_add, pk_mul, pk_sub, pk_div, q_nlt9, q_neg0, q_ne9, q_9ne, q_nle9, ↓reduceIte, nB_at, Nat.reduceEqDiff, Nat.reduceLeDiff, Nat.one_ne_zero, a2]
      · refine Cl.ask h rfl (r := nI (g 0 2)) ?_ ?_ <;> simp (disch := omega) only [nI_ltI, nI_leI, nI_eq, q_okn, nI_clamp, nI_add, pk_mul, pk_sub, pk_div, q_nlt9, q_neg0, q_ne9, q_9ne, q_nle9, ↓reduceIte, nB_at, Nat.reduceEqDiff, Nat.reduceLeDiff, Nat.one_ne_zero, a0]
      · obtain ⟨r, e1, e2⟩ := q_allCharge hr2 hi
        refine Cl.ask h rfl (r := r) ?_ ?_ <;> simp (disch := omega) only [nI_ltI, nI_leI, nI_eq, q_okn, nI_clamp, nI_add, pk_mul, pk_sub, pk_div, q_nlt9, q_neg0, q_ne9, q_9ne, q_nle9, ↓reduceIte, nB_at, Nat.reduceEqDiff, Nat.reduceLeDiff, Nat.one_ne_zero, e1, e2, q_bd]
      · refine Cl.ask h rfl (r := nI (g 0 3)) ?_ ?_ <;> simp (disch := omega) only [nI_ltI, nI_leI, nI_eq, q_okn, nI_clamp, nI_add, pk_mul, pk_sub, pk_div, q_nlt9, q_neg0, q_ne9, q_9ne, q_nle9, ↓reduceIte, nB_at, Nat.reduceEqDiff, Nat.reduceLeDiff, Nat.one_ne_zero, a3]
      · refine Cl.ask h rfl (r := nI (g 0 4)) ?_ ?_ <;> simp (disch := omega) only [nI_ltI, nI_leI, nI_eq, q_okn, nI_clamp, nI_add, pk_mul, pk_sub, pk_div, q_nlt9, q_neg0, q_ne9, q_9ne, q_nle9, ↓reduceIte, nB_at, Nat.reduceEqDiff, Nat.reduceLeDiff, Nat.one_ne_zero, a4]
      · refine Cl.ask h rfl (r := nI (g 0 5)) ?_ ?_ <;> simp (disch := omega) only [nI_ltI, nI_leI, nI_eq, q_okn, nI_clamp, nI_add, pk_mul, pk_sub, pk_div, q_nlt9, q_neg0, q_ne9, q_9ne, q_nle9, ↓reduceIte, nB_at, Nat.reduceEqDiff, Nat.reduceLeDiff, Nat.one_ne_zero, a5]
      · obtain ⟨r, e1, e2⟩ := q_allOwed hr2 hi
        refine Cl.ask h rfl (r := r) ?_ ?_ <;> simp (disch := omega) only [nI_ltI, nI_leI, nI_eq, q_okn, nI_clamp, nI_add, pk_mul, pk_sub, pk_div, q_nlt9, q_neg0, q_ne9, q_9ne, q_nle9, ↓reduceIte, nB_at, Nat.reduceEqDiff, Nat.reduceLeDiff, Nat.one_ne_zero, e1, e2, q_bd]
      · refine Cl.ask h rfl (r := nI (g 0 6)) ?_ ?_ <;> simp (disch := omega) only [nI_ltI, nI_leI, nI_eq, q_okn, nI_clamp, nI_add, pk_mul, pk_sub, pk_div, q_nlt9, q_neg0, q_ne9, q_9ne, q_nle9, ↓reduceIte, nB_at, Nat.reduceEqDiff, Nat.reduceLeDiff, Nat.one_ne_zero, a6]
      · obtain ⟨r, e1, e2⟩ := q_bankrupt hr2 hi
        refine Cl.ask h rfl (r := r) ?_ ?_ <;> simp (disch := omega) only [nI_ltI, nI_leI, nI_eq, q_okn, nI_clamp, nI_add, pk_mul, pk_sub, pk_div, q_nlt9, q_neg0, q_ne9, q_9ne, q_nle9, ↓reduceIte, nB_at, Nat.reduceEqDiff, Nat.reduceLeDiff, Nat.one_ne_zero, e1, e2, q_bd]
    · rw [if_neg (by omega)] at ein
      refine Cl.no (e := 1) (w := nI 1) h (by omega) ?_ ?_ rfl
      · unfold P_X3_about
        simp (disch := omega) only [q_0, q_1, q_2, q_3, q_4, q_5, q_6, q_7, q_8, q_10, q_12, q_14, q_20, q_47, q_50, q_99, q_100, q_107, q_120, q_792, q_9L, nI_ltI, nI_leI, nI_eq, q_okn, nI_clamp, nI_add, pk_mul, pk_sub, pk_div, q_nlt9, q_neg0, q_ne9, q_9ne, q_nle9, ↓reduceIte, show ¬ n = 0 by omega, show ¬ n = 1 by omega, show ¬ n = 2 by omega, show ¬ n = 3 by omega, show ¬ n = 4 by omega, show ¬ n = 5 by omega, show ¬ n = 6 by omega, show ¬ n = 7 by omega, show ¬ n = 8 by omega, show ¬ n = 9 by omega]
      · unfold P_X4_about P_X4_about_16
        simp only [q_0, q_1, q_2, q_3, q_4, q_5, q_6, q_7, q_8, q_10, q_12, q_14, q_20, q_47, q_50, q_99, q_100, q_107, q_120, q_792, q_9L]
        rw [bE ein]
        simp (disch := omega) only [nI_ltI, nI_leI, nI_eq, q_okn, nI_clamp, nI_add, pk_mul, pk_sub, pk_div, q_nlt9, q_neg0, q_ne9, q_9ne, q_nle9, ↓reduceIte, lc_let, ss_eq, Nat.reduceLeDiff, show ¬ n = 0 by omega, show ¬ n = 1 by omega, show ¬ n = 2 by omega, show ¬ n = 3 by omega, show ¬ n = 4 by omega, show ¬ n = 5 by omega, show ¬ n = 6 by omega, show ¬ n = 7 by omega, show ¬ n = 8 by omega, show ¬ n = 9 by omega]
theorem r_order (h : Rel M s) (x : Int32) : Cl kA M (P_X3_order x M) (P_X4_order x s) := by
  obtain ⟨g, d, hb, hi, hr⟩ := h.1.rm h.2.1
  unfold P_X3_order P_X4_order P_X4_order_10
  simp only [q_0, q_1, q_2, q_3, q_4, q_5, q_6, q_7, q_8, q_10, q_12, q_14, q_20, q_47, q_50, q_99, q_100, q_107, q_120, q_792, lc_let, ss_eq]
  by_cases hx : nI 0 ≤ x
  · obtain ⟨r, e1, e2⟩ := q_order (RM_00 hr (nI 0)) hi x
    refine Cl.ask h rfl (r := r) ?_ ?_
    · rw [if_pos hx, hb, bE e1]
    · rw [if_pos hx]
      simp (disch := omega) only [nI_ltI, nI_leI, nI_eq, q_okn, nI_clamp, nI_add, pk_mul, pk_sub, pk_div, q_nlt9, q_neg0, q_ne9, q_9ne, q_nle9, ↓reduceIte, Nat.le_refl]
      exact e2
  · refine Cl.no (e := 1) (w := nI 1) h (by omega) ?_ ?_ rfl
    · rw [if_neg hx]; rfl
    · rw [if_neg hx]
      simp (disch := omega) only [nI_ltI, nI_leI, nI_eq, q_okn, nI_clamp, nI_add, pk_mul, pk_sub, pk_div, q_nlt9, q_neg0, q_ne9, q_9ne, q_nle9, ↓reduceIte, Nat.reduceLeDiff]
