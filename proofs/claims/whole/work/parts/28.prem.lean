/-! ===== the pure claim: removeLoan, payBack ===== -/
variable {e : Nat} {d : Option Int32} {m : lc_St} {g : Nat → Nat → Nat}
theorem nI_ex (x : Int32) : ∃ n, x = nI n := by
  refine ⟨x.toBitVec.toNat, ?_⟩
  show x = Int32.ofNat _
  apply Int32.toBitVec_inj.mp
  simp
theorem gs_self (g : Nat → Nat → Nat) (r i : Nat) : gs g r i (g r i) = g := by
  funext a b
  by_cases h : a = r
  · subst h
    rw [gs_if]
    split
    · rename_i q; rw [q]
    · rfl
  · rw [gs_r _ _ _ h]
theorem nB_v (g : Nat → Nat → Nat) (r i : Nat) {v w : Nat} (h : nI v = nI w) : nB (gs g r i v) = nB (gs g r i w) := by rw [← nB_ss, h, nB_ss]
theorem l0_remove (h12 : g 0 1 ≤ 12) {i : Nat} (b : lc_St → Option lc_St) (hb : ∀ n x, g 0 1 ≤ x → x < 100 → P_X0_removeLoan_17 (n + 1) (nI i) (nI x) (nB (mvS g i (g 0 1))) = b (nB (mvS g i (g 0 1)))) : ∀ k j n, j + k = g 0 1 → i < j → k < n → P_X0_removeLoan_17 n (nI i) (nI j) (nB (mvS g i j)) = b (nB (mvS g i (g 0 1))) := by
  intro k
  induction k with
  | zero =>
    intro j n hj hij h1
    obtain ⟨n, rfl⟩ : ∃ q, n = q + 1 := ⟨n - 1, by omega⟩
    have : j = g 0 1 := by omega
    subst this
    exact hb n _ (Nat.le_refl _) (by omega)
  | succ k ih =>
    intro j n hj hij h1
    obtain ⟨n, rfl⟩ : ∃ q, n = q + 1 := ⟨n - 1, by omega⟩
    have hlt : j < g 0 1 := by omega
    have h2 := ih (j + 1) n (by omega) (by omega) (by omega)
    have e0 : mvS g i j 0 = g 0 := mvS_low _ _ _ _ (by omega)
    rw [P_X0_removeLoan_17]
    simp only [q_0, q_1, q_2, q_3, q_4, q_5, q_6, q_7, q_8, q_10, q_12, q_14, q_20, q_47, q_50, q_99, q_100, q_107, q_120, q_792]
    simp (disch := omega) only [nI_ltI, nI_leI, nI_eq, q_okn, nI_clamp, nI_add, pk_mul, pk_sub, pk_div, q_nlt9, q_neg0, q_ne9, q_9ne, q_nle9, nB_at, e0, Nat.not_le.mpr hlt, ↓reduceIte, q_ift, lc_let, nB_ss, gs_r, mvS_at]
    rw [mvS_step g i j hij]
    exact h2
theorem q_w (w : Int32) (i : Nat) : ∃ v, (if w = nI i then nI 4294967287 else if w ≤ nI i then w else w - nI 1) = nI v := nI_ex _
theorem x0_remove (h8 : g 0 0 ≤ 8) (h12 : g 0 1 ≤ 12) {i : Nat} (hii : i < g 0 1) : ∃ v, nI v = (if nI (g 0 7) = nI i then nI 4294967287 else if nI (g 0 7) ≤ nI i then nI (g 0 7) else nI (g 0 7) - nI 1) ∧ P_X0_removeLoan (nI i) (nB g) = some (nB (gs (gs (mvS g i (g 0 1)) 0 1 (g 0 1 - 1)) 0 7 v)) := by
  obtain ⟨v, hv⟩ := q_w (nI (g 0 7)) i
  refine ⟨v, hv.symm, ?_⟩
  have e0 : mvS g i (g 0 1) 0 = g 0 := mvS_low _ _ _ _ (by omega)
  have h9 : (-9 : Int32) = nI 4294967287 := by decide +kernel
  unfold P_X0_removeLoan
  simp only [q_0, q_1, q_2, q_3, q_4, q_5, q_6, q_7, q_8, q_10, q_12, q_14, q_20, q_47, q_50, q_99, q_100, q_107, q_120, q_792]
  simp (disch := omega) only [nI_ltI, nI_leI, nI_eq, q_okn, nI_clamp, nI_add, pk_mul, pk_sub, pk_div, q_nlt9, q_neg0, q_ne9, q_9ne, q_nle9, nB_at, ↓reduceIte, lc_let, hii, Nat.not_lt_zero]
  have hl := l0_remove h12 (i := i) (fun _ => some (nB (gs (gs (mvS g i (g 0 1)) 0 1 (g 0 1 - 1)) 0 7 v))) (fun n x hx hx2 => ?_) (g 0 1 - (i + 1)) (i + 1) lc_FU (by omega) (by omega) (q_FUn (by omega))
  · rw [mvS_0] at hl
    exact hl
  · rw [P_X0_removeLoan_17]
    simp only [q_0, q_1, q_2, q_3, q_4, q_5, q_6, q_7, q_8, q_10, q_12, q_14, q_20, q_47, q_50, q_99, q_100, q_107, q_120, q_792]
    rw [h9]
    simp (disch := omega) only [nI_leI, nI_add, pk_sub, nB_at, e0, hx, ↓reduceIte, lc_let, nB_ss, gs_at, gs_i]
    by_cases c1 : nI (g 0 7) = nI i
    · rw [if_pos c1] at hv ⊢
      rw [nB_v _ 0 7 hv]
    · rw [if_neg c1] at hv ⊢
      by_cases c2 : nI (g 0 7) ≤ nI i
      · rw [if_pos c2] at hv ⊢
        have e7 : gs (mvS g i (g 0 1)) 0 1 (g 0 1 - 1) 0 7 = g 0 7 := by rw [gs_i _ _ _ (by omega), e0]
        have h7 := gs_self (gs (mvS g i (g 0 1)) 0 1 (g 0 1 - 1)) 0 7
        rw [e7] at h7
        rw [← nB_v _ 0 7 hv, h7]
      · rw [if_neg c2] at hv ⊢
        rw [hv, nB_ss]
/-- places from p0 below p hold what stood five above -/
def mvM (m : lc_St) (p0 p : Nat) : lc_St := fun r k => if r = 1 ∧ p0 ≤ k ∧ k < p then m 1 (k + 5) else m r k
theorem mvM_0 (m : lc_St) (p : Nat) : mvM m p p = m := by
  funext r k
  unfold mvM
  rw [if_neg (by omega)]
theorem mvM_step (m : lc_St) {p0 p : Nat} (h : p0 ≤ p) : lc_ss (mvM m p0 p) 1 p (m 1 (p + 5)) = mvM m p0 (p + 1) := by
  funext r k
  by_cases hr : r = 1
  · subst hr
    by_cases hk : k = p
    · subst hk
      rw [ss_eq]
      unfold mvM
      rw [if_pos (by omega)]
    · rw [ss_ne _ _ _ hk]
      unfold mvM
      by_cases hh : 1 = 1 ∧ p0 ≤ k ∧ k < p
      · rw [if_pos hh, if_pos (by omega)]
      · rw [if_neg hh, if_neg (by omega)]
  · rw [ss_off _ _ _ hr]
    unfold mvM
    rw [if_neg (by omega), if_neg (by omega)]
theorem mvM_at (m : lc_St) (p0 p k : Nat) (h : k < p0 ∨ p ≤ k) : mvM m p0 p 1 k = m 1 k := by
  unfold mvM
  rw [if_neg (by omega)]
theorem mvM_in (m : lc_St) (p0 p k : Nat) (h : p0 ≤ k) (h2 : k < p) : mvM m p0 p 1 k = m 1 (k + 5) := by
  unfold mvM
  rw [if_pos ⟨rfl, h, h2⟩]
theorem mvM_off (m : lc_St) (p0 p : Nat) {r : Nat} (h : r ≠ 1) : mvM m p0 p r = m r := by
  funext k
  unfold mvM
  rw [if_neg (by omega)]
theorem x4_remove (h12 : g 0 1 ≤ 12) (hnl : m 1 2 = nI (g 0 1)) {i : Nat} {v : Int32} (hii : i < g 0 1) (hv : v = (if m 0 3 = nI i then nI 4294967287 else if m 0 3 ≤ nI i then m 0 3 else m 0 3 - nI 1)) : P_X4_removeLoan (nI i) m = some (lc_ss (lc_ss (mvM m (47 + 5 * i) (47 + 5 * g 0 1 - 5)) 1 2 (nI (g 0 1 - 1))) 0 3 v) := by
  have h9 : (-9 : Int32) = nI 4294967287 := by decide +kernel
  have key : ∀ k p n, p + k = 47 + 5 * g 0 1 - 5 → 47 + 5 * i ≤ p → k < n → P_X4_removeLoan_7 n (nI i) (nI p) (mvM m (47 + 5 * i) p) = some (lc_ss (lc_ss (mvM m (47 + 5 * i) (47 + 5 * g 0 1 - 5)) 1 2 (nI (g 0 1 - 1))) 0 3 v) := by
    intro k
    induction k with
    | zero =>
      intro p n hp hp2 h1
      obtain ⟨n, rfl⟩ : ∃ q, n = q + 1 := ⟨n - 1, by omega⟩
      have : p = 47 + 5 * g 0 1 - 5 := by omega
      subst this
      have e2 : mvM m (47 + 5 * i) (47 + 5 * g 0 1 - 5) 1 2 = nI (g 0 1) := by rw [mvM_at _ _ _ _ (by omega), hnl]
      have e3 : mvM m (47 + 5 * i) (47 + 5 * g 0 1 - 5) 0 3 = m 0 3 := by rw [mvM_off _ _ _ (by omega)]
      rw [P_X4_removeLoan_7]
      simp only [q_0, q_1, q_2, q_3, q_4, q_5, q_6, q_7, q_8, q_10, q_12, q_14, q_20, q_47, q_50, q_99, q_100, q_107, q_120, q_792]
      rw [h9]
      simp (disch := omega) only [nI_leI, nI_add, pk_sub, pk_mul, e2, e3, Nat.le_refl, ↓reduceIte, lc_let, ss_off, P_X4_removeLoan_89]
      by_cases c1 : m 0 3 = nI i
      · rw [if_pos c1] at hv ⊢
        rw [hv]
      · rw [if_neg c1] at hv ⊢
        by_cases c2 : m 0 3 ≤ nI i
        · rw [if_pos c2] at hv ⊢
          rw [hv]
        · rw [if_neg c2] at hv ⊢
          rw [hv]
    | succ k ih =>
      intro p n hp hp2 h1
      obtain ⟨n, rfl⟩ : ∃ q, n = q + 1 := ⟨n - 1, by omega⟩
      have h2 := ih (p + 1) n (by omega) (by omega) (by omega)
      have e2 : mvM m (47 + 5 * i) p 1 2 = nI (g 0 1) := by rw [mvM_at _ _ _ _ (by omega), hnl]
      have e3 : mvM m (47 + 5 * i) p 1 (p + 5) = m 1 (p + 5) := mvM_at _ _ _ _ (by omega)
      rw [P_X4_removeLoan_7]
      simp only [q_0, q_1, q_2, q_3, q_4, q_5, q_6, q_7, q_8, q_10, q_12, q_14, q_20, q_47, q_50, q_99, q_100, q_107, q_120, q_792]
      simp (disch := omega) only [nI_ltI, nI_leI, nI_eq, q_okn, nI_clamp, nI_add, pk_mul, pk_sub, pk_div, q_nlt9, q_neg0, q_ne9, q_9ne, q_nle9, e2, e3, show ¬ 47 + 5 * g 0 1 - 5 ≤ p by omega, ↓reduceIte, lc_let, q_ift, mvM_step]
      exact h2
  have := key (47 + 5 * g 0 1 - 5 - (47 + 5 * i)) (47 + 5 * i) lc_FU (by omega) (Nat.le_refl _) (q_FUn (by omega))
  rw [mvM_0] at this
  unfold P_X4_removeLoan
  simp only [q_0, q_1, q_2, q_3, q_4, q_5, q_6, q_7, q_8, q_10, q_12, q_14, q_20, q_47, q_50, q_99, q_100, q_107, q_120, q_792, pk_mul, nI_add, lc_let]
  exact this
theorem q_remove (hr : RM e d m g) {i : Nat} (hi : Ivx i g) (hii : i < g 0 1) : ∃ g' m', P_X0_removeLoan (nI i) (nB g) = some (nB g') ∧ P_X4_removeLoan (nI i) m = some m' ∧ RM e d m' g' ∧ Iv g' ∧ Fr m m' ∧ g' 0 1 = g 0 1 - 1 ∧ (∀ k, k ≠ 1 → k ≠ 7 → g' 0 k = g 0 k) ∧ (∀ r, 0 < r → r < 5 → g' r = g r) ∧ m' 7 = m 7 ∧ (∀ k, k < 47 → k ≠ 2 → m' 1 k = m 1 k) := by
  have h8 := hi.1
  have h12 := hi.2.1
  obtain ⟨v, hv, e1⟩ := x0_remove h8 h12 hii
  obtain ⟨w, hw⟩ : ∃ w, w = (if m 0 3 = nI i then nI 4294967287 else if m 0 3 ≤ nI i then m 0 3 else m 0 3 - nI 1) := ⟨_, rfl⟩
  have e2 := x4_remove (m := m) h12 (rm_nl hr) hii hw
  have hW : W3 d w v := by
    have a7 := hr.1.2.2.2.2.2.2.2.1
    cases d with
    | none => trivial
    | some d =>
      have a7' : m 0 3 = nI (g 0 7) := a7
      rw [a7', ← hv] at hw
      exact hw
  have f0 : mvS g i (g 0 1) 0 = g 0 := mvS_low _ _ _ _ (by omega)
  have f1 : mvS g i (g 0 1) 1 = g 1 := mvS_low _ _ _ _ (by omega)
  have f2 : mvS g i (g 0 1) 2 = g 2 := mvS_low _ _ _ _ (by omega)
  have f3 : mvS g i (g 0 1) 3 = g 3 := mvS_low _ _ _ _ (by omega)
  have f4 : mvS g i (g 0 1) 4 = g 4 := mvS_low _ _ _ _ (by omega)
  have F0 : ∀ k, k ≠ 1 → k ≠ 7 → gs (gs (mvS g i (g 0 1)) 0 1 (g 0 1 - 1)) 0 7 v 0 k = g 0 k := fun k h1 h7 => by simp (disch := omega) only [gs_i, f0]
  have F01 : gs (gs (mvS g i (g 0 1)) 0 1 (g 0 1 - 1)) 0 7 v 0 1 = g 0 1 - 1 := by simp (disch := omega) only [gs_i, gs_at]
  have F07 : gs (gs (mvS g i (g 0 1)) 0 1 (g 0 1 - 1)) 0 7 v 0 7 = v := by rw [gs_at]
  have Fr5 : ∀ r, 0 < r → r < 5 → gs (gs (mvS g i (g 0 1)) 0 1 (g 0 1 - 1)) 0 7 v r = g r := fun r h0 h5 => by rw [gs_r _ _ _ (by omega), gs_r _ _ _ (by omega), mvS_low _ _ _ _ h5]
  have Frl : ∀ r j, 5 ≤ r → r ≤ 9 → j < g 0 1 - 1 → gs (gs (mvS g i (g 0 1)) 0 1 (g 0 1 - 1)) 0 7 v r j = if j < i then g r j else g r (j + 1) := fun r j h5 h9 hj => by
    rw [gs_r _ _ _ (by omega), gs_r _ _ _ (by omega)]
    unfold mvS
    by_cases q : j < i
    · rw [if_neg (by omega), if_pos q]
    · rw [if_pos (by omega), if_neg q]
  have M1 : ∀ k, k < 47 → k ≠ 2 → lc_ss (lc_ss (mvM m (47 + 5 * i) (47 + 5 * g 0 1 - 5)) 1 2 (nI (g 0 1 - 1))) 0 3 w 1 k = m 1 k := fun k h1 h2 => by
    rw [ss_off _ _ _ (by omega), ss_ne _ _ _ h2, mvM_at _ _ _ _ (by omega)]
  have Ml : ∀ j f, f < 5 → j < g 0 1 - 1 → lc_ss (lc_ss (mvM m (47 + 5 * i) (47 + 5 * g 0 1 - 5)) 1 2 (nI (g 0 1 - 1))) 0 3 w 1 (47 + 5 * j + f) = if j < i then m 1 (47 + 5 * j + f) else m 1 (47 + 5 * (j + 1) + f) := fun j f hf hj => by
    rw [ss_off _ _ _ (by omega), ss_ne _ _ _ (by omega)]
    by_cases q : j < i
    · rw [if_pos q, mvM_at _ _ _ _ (by omega)]
    · rw [if_neg q, mvM_in _ _ _ _ (by omega) (by omega)]
      congr 1; omega
  refine ⟨_, _, e1, e2, ⟨?_, fun c hc => ?_, fun j hj => ?_⟩, ⟨?_, ?_, fun c hc => ?_, fun j hj => ?_⟩, ?_, F01, F0, Fr5, ?_, M1⟩
  · obtain ⟨a0, a1, a2, a3, a4, a5, a6, a7, a8⟩ := hr.1
    refine ⟨by rw [M1 0 (by omega) (by omega), F0 2 (by omega) (by omega)]; exact a0, by rw [M1 1 (by omega) (by omega), F0 0 (by omega) (by omega)]; exact a1, by rw [ss_off _ _ _ (by omega), ss_eq, F01], by rw [M1 3 (by omega) (by omega), F0 3 (by omega) (by omega)]; exact a3, by rw [M1 4 (by omega) (by omega), F0 4 (by omega) (by omega)]; exact a4, by rw [M1 5 (by omega) (by omega), F0 5 (by omega) (by omega)]; exact a5, by rw [M1 6 (by omega) (by omega), F0 6 (by omega) (by omega)]; exact a6, by rw [ss_eq, F07]; exact hW, ?_⟩
    rw [ss_ne _ _ _ (by omega), ss_off _ _ _ (by omega), mvM_off _ _ _ (by omega), F0 8 (by omega) (by omega)]; exact a8
  · rw [F0 0 (by omega) (by omega)] at hc
    obtain ⟨b0, b1, b2, b3, b4⟩ := hr.2.1 c hc
    rw [Fr5 1 (by omega) (by omega), Fr5 2 (by omega) (by omega), Fr5 3 (by omega) (by omega), Fr5 4 (by omega) (by omega), M1 _ (by omega) (by omega), M1 _ (by omega) (by omega), M1 _ (by omega) (by omega), M1 _ (by omega) (by omega), M1 _ (by omega) (by omega)]
    exact ⟨b0, b1, b2, b3, b4⟩
  · rw [F01] at hj
    have m0 := Ml j 0 (by omega) hj
    rw [Nat.add_zero, Nat.add_zero] at m0
    rw [m0, Ml j 1 (by omega) hj, Ml j 2 (by omega) hj, Ml j 3 (by omega) hj, Ml j 4 (by omega) hj, Frl 5 j (by omega) (by omega) hj, Frl 6 j (by omega) (by omega) hj, Frl 7 j (by omega) (by omega) hj, Frl 8 j (by omega) (by omega) hj, Frl 9 j (by omega) (by omega) hj]
    by_cases q : j < i
    · simp only [q, ↓reduceIte]; exact hr.2.2 j (by omega)
    · simp only [q, ↓reduceIte]; exact hr.2.2 (j + 1) (by omega)
  · rw [F0 0 (by omega) (by omega)]; exact h8
  · rw [F01]; omega
  · rw [F0 0 (by omega) (by omega)] at hc
    rw [Fr5 1 (by omega) (by omega), Fr5 2 (by omega) (by omega), Fr5 3 (by omega) (by omega), Fr5 4 (by omega) (by omega)]
    exact hi.2.2.1 c hc
  · rw [F01] at hj
    rw [F0 0 (by omega) (by omega), Frl 5 j (by omega) (by omega) hj, Frl 6 j (by omega) (by omega) hj, Frl 7 j (by omega) (by omega) hj, Frl 8 j (by omega) (by omega) hj]
    by_cases q : j < i
    · simp only [q, ↓reduceIte]; exact hi.2.2.2 j (by omega) (by omega)
    · simp only [q, ↓reduceIte]; exact hi.2.2.2 (j + 1) (by omega) (by omega)
  · refine ⟨fun r h => ?_, fun k h3 h4 => ?_, fun h => ?_⟩
    · rw [ss_off _ _ _ (by omega), ss_off _ _ _ (by omega), mvM_off _ _ _ (by omega)]
    · rw [ss_ne _ _ _ h3, ss_off _ _ _ (by omega), mvM_off _ _ _ (by omega)]
    · trivial
  · rw [ss_off _ _ _ (by omega), ss_off _ _ _ (by omega), mvM_off _ _ _ (by omega)]
