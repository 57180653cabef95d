/-! ===== the pure claim: the law's loop ===== -/
/-- a call by a wrapper, and the model's, compared -/
theorem w_call {kap : Nat → Option Int32} {M : lc_MM} {X : Option (Nat × Int32 × lc_MM)} {Yf : lc_St → Option (Int32 × lc_St)} {Wf : Nat → Int32 → lc_MM → Option (Int32 × lc_MM)} {K : Int32 → lc_MM → Option Int32} {x4 : Int32} (hC : Cl kap M X (Yf (M 22))) (hk0 : kap 0 = some 0) (W0 : ∀ r M1, Wf 0 r M1 = some (0, va_up M1 23 (lc_ss (M1 23) 0 0 r))) (W1 : ∀ e r M1 k, e ≠ 0 → kap e = some k → k ≠ 0 ∧ Wf e r M1 = some (k, M1)) (hK : ∀ M', Rel M' (M' 22) → K (x4 + 5) M' = some 1) : lc_bd2 (lc_bd3 X Wf) (fun r160 M1 => lc_bd2 (Yf (M1 22)) (fun r172 s2 => lc_let (va_up M1 22 s2) (fun M3 => lc_bd (P_X4_thrown (M3 22)) (fun r178 => if r178 = r160 then if r160 = 0 then if (lg_cmp (M3 23 0 0).toInt64 r172.toInt64) = 0 then P_L_law_1619 K x4 M3 else some (0 : Int32) else P_L_law_1619 K x4 M3 else some (0 : Int32))))) = some 1 := by
  obtain ⟨e, r, M', r4, s', hX, hY, h22, hk, hr, hR⟩ := hC
  rw [hX, q_bd3]
  by_cases he : e = 0
  · subst he
    have hs : s' 0 0 = 0 := (Option.some.inj (hk0.symm.trans hk)).symm
    have hrr := hr rfl
    subst hrr
    rw [W0, q_bd2, lc_up_off _ _ (by omega), h22, hY, q_bd2, q_let]
    unfold P_X4_thrown P_L_law_1619
    rw [q_bd, lc_up_at, if_pos hs, if_pos rfl, lc_up_off _ _ (show (23 : Nat) ≠ 22 by omega), lc_up_at, ss_eq, if_pos ((lg_cmp_eq _ _).mpr rfl)]
    exact hK _ (by rw [lc_up_at]; exact (hR.up23 _).up22 _)
  · obtain ⟨k0, e1⟩ := W1 e r M' (s' 0 0) he hk
    rw [e1, q_bd2, h22, hY, q_bd2, q_let]
    unfold P_X4_thrown P_L_law_1619
    rw [q_bd, lc_up_at, if_pos rfl, if_neg k0]
    exact hK _ (by rw [lc_up_at]; exact hR.up22 _)
theorem w_same {M : lc_MM} {X : Option (Int32 × lc_MM)} {Yf : lc_St → Option (Int32 × lc_St)} {K : Int32 → lc_MM → Option Int32} {x4 : Int32} (hC : ∃ r M' s', X = some (r, M') ∧ Yf (M 22) = some (r, s') ∧ M' 22 = M 22 ∧ Rel M' s') (hK : ∀ M', Rel M' (M' 22) → K (x4 + 5) M' = some 1) : lc_bd2 X (fun r209 M4 => lc_bd2 (Yf (M4 22)) (fun r213 s5 => lc_let (va_up M4 22 s5) (fun M6 => if r209 = r213 then P_L_law_1619 K x4 M6 else some (0 : Int32)))) = some 1 := by
  obtain ⟨r, M', s', hX, hY, h22, hR⟩ := hC
  rw [hX, q_bd2, h22, hY, q_bd2, q_let, if_pos rfl]
  unfold P_L_law_1619
  exact hK _ (by rw [lc_up_at]; exact hR.up22 _)

theorem kA_cs {e : Nat} {k : Int32} (he : e ≠ 0) (h : kA e = some k) : (e = 1 ∧ k = 1) := by
  unfold kA at h
  rw [if_neg he] at h
  by_cases a0 : e = 1
  · rw [if_pos a0] at h
    exact ⟨a0, (Option.some.inj h).symm⟩
  · rw [if_neg a0] at h
    cases h
theorem kB_cs {e : Nat} {k : Int32} (he : e ≠ 0) (h : kB e = some k) : (e = 3 ∧ k = 1) ∨ (e = 1 ∧ k = 2) := by
  unfold kB at h
  rw [if_neg he] at h
  by_cases a0 : e = 3
  · rw [if_pos a0] at h
    exact Or.inl ⟨a0, (Option.some.inj h).symm⟩
  · rw [if_neg a0] at h
    by_cases a1 : e = 1
    · rw [if_pos a1] at h
      exact Or.inr (⟨a1, (Option.some.inj h).symm⟩)
    · rw [if_neg a1] at h
      cases h
theorem kC_cs {e : Nat} {k : Int32} (he : e ≠ 0) (h : kC e = some k) : (e = 3 ∧ k = 1) ∨ (e = 1 ∧ k = 2) ∨ (e = 2 ∧ k = 3) := by
  unfold kC at h
  rw [if_neg he] at h
  by_cases a0 : e = 3
  · rw [if_pos a0] at h
    exact Or.inl ⟨a0, (Option.some.inj h).symm⟩
  · rw [if_neg a0] at h
    by_cases a1 : e = 1
    · rw [if_pos a1] at h
      exact Or.inr (Or.inl ⟨a1, (Option.some.inj h).symm⟩)
    · rw [if_neg a1] at h
      by_cases a2 : e = 2
      · rw [if_pos a2] at h
        exact Or.inr (Or.inr (⟨a2, (Option.some.inj h).symm⟩))
      · rw [if_neg a2] at h
        cases h
theorem kD_cs {e : Nat} {k : Int32} (he : e ≠ 0) (h : kD e = some k) : (e = 1 ∧ k = 1) ∨ (e = 2 ∧ k = 2) := by
  unfold kD at h
  rw [if_neg he] at h
  by_cases a0 : e = 1
  · rw [if_pos a0] at h
    exact Or.inl ⟨a0, (Option.some.inj h).symm⟩
  · rw [if_neg a0] at h
    by_cases a1 : e = 2
    · rw [if_pos a1] at h
      exact Or.inr (⟨a1, (Option.some.inj h).symm⟩)
    · rw [if_neg a1] at h
      cases h
theorem kE_cs {e : Nat} {k : Int32} (he : e ≠ 0) (h : kE e = some k) : (e = 2 ∧ k = 1) := by
  unfold kE at h
  rw [if_neg he] at h
  by_cases a0 : e = 2
  · rw [if_pos a0] at h
    exact ⟨a0, (Option.some.inj h).symm⟩
  · rw [if_neg a0] at h
    cases h
theorem kF_cs {e : Nat} {k : Int32} (he : e ≠ 0) (h : kF e = some k) : (e = 3 ∧ k = 1) := by
  unfold kF at h
  rw [if_neg he] at h
  by_cases a0 : e = 3
  · rw [if_pos a0] at h
    exact ⟨a0, (Option.some.inj h).symm⟩
  · rw [if_neg a0] at h
    cases h
theorem kG_cs {e : Nat} {k : Int32} (he : e ≠ 0) (h : kG e = some k) : (e = 3 ∧ k = 1) ∨ (e = 2 ∧ k = 2) := by
  unfold kG at h
  rw [if_neg he] at h
  by_cases a0 : e = 3
  · rw [if_pos a0] at h
    exact Or.inl ⟨a0, (Option.some.inj h).symm⟩
  · rw [if_neg a0] at h
    by_cases a1 : e = 2
    · rw [if_pos a1] at h
      exact Or.inr (⟨a1, (Option.some.inj h).symm⟩)
    · rw [if_neg a1] at h
      cases h
section
variable {L : Nat} {xs : Nat → Int32} {K : Int32 → lc_MM → Option Int32} {i : Nat} {M : lc_MM}
theorem ok_n {j : Nat} {v : Int32} (hv : v = nI j) (hL : L ≤ 2560) (h : i + j < L) : lc_ok (nI i + v) L := by
  rw [hv, nI_add]
  exact (q_okn (by omega)).mpr h
theorem cs_0 (h : Rel M (M 22)) (hL : L ≤ 2560) (hi : i + 5 ≤ L) (hK : ∀ M', Rel M' (M' 22) → K (nI i + 5) M' = some 1) : P_L_case0 L xs K (nI i) M = some 1 := by
  unfold P_L_case0 P_L_append
  simp only [q_ift (ok_n (L := L) (i := i) q_1 hL (by omega)), q_ift (ok_n (L := L) (i := i) q_2 hL (by omega)), q_ift (ok_n (L := L) (i := i) q_3 hL (by omega)), q_ift (ok_n (L := L) (i := i) q_4 hL (by omega))]
  refine w_call (kap := kD) (Yf := fun s => P_X4_append (xs (nI i + (1 : Int32)).toNatClampNeg) s) (r_append h (xs (nI i + (1 : Int32)).toNatClampNeg)) rfl (fun _ _ => rfl) (fun e r M1 k he hk => ?_) hK
  rcases kD_cs he hk with ⟨rfl, rfl⟩ | ⟨rfl, rfl⟩ <;> exact ⟨by decide +kernel, rfl⟩
theorem cs_3 (h : Rel M (M 22)) (hL : L ≤ 2560) (hi : i + 5 ≤ L) (hK : ∀ M', Rel M' (M' 22) → K (nI i + 5) M' = some 1) : P_L_case3 L xs K (nI i) M = some 1 := by
  unfold P_L_case3 P_L_load
  refine w_call (kap := kE) (Yf := fun s => P_X4_load  s) (r_load h ) rfl (fun _ _ => rfl) (fun e r M1 k he hk => ?_) hK
  rcases kE_cs he hk with ⟨rfl, rfl⟩ <;> exact ⟨by decide +kernel, rfl⟩
theorem cs_4 (h : Rel M (M 22)) (hL : L ≤ 2560) (hi : i + 5 ≤ L) (hK : ∀ M', Rel M' (M' 22) → K (nI i + 5) M' = some 1) : P_L_case4 L xs K (nI i) M = some 1 := by
  unfold P_L_case4 P_L_about
  simp only [q_ift (ok_n (L := L) (i := i) q_1 hL (by omega)), q_ift (ok_n (L := L) (i := i) q_2 hL (by omega)), q_ift (ok_n (L := L) (i := i) q_3 hL (by omega)), q_ift (ok_n (L := L) (i := i) q_4 hL (by omega))]
  refine w_call (kap := kA) (Yf := fun s => P_X4_about (xs (nI i + (1 : Int32)).toNatClampNeg) s) (r_about h (xs (nI i + (1 : Int32)).toNatClampNeg)) rfl (fun _ _ => rfl) (fun e r M1 k he hk => ?_) hK
  rcases kA_cs he hk with ⟨rfl, rfl⟩ <;> exact ⟨by decide +kernel, rfl⟩
theorem cs_5 (h : Rel M (M 22)) (hL : L ≤ 2560) (hi : i + 5 ≤ L) (hK : ∀ M', Rel M' (M' 22) → K (nI i + 5) M' = some 1) : P_L_case5 L xs K (nI i) M = some 1 := by
  unfold P_L_case5 P_L_cell
  simp only [q_ift (ok_n (L := L) (i := i) q_1 hL (by omega)), q_ift (ok_n (L := L) (i := i) q_2 hL (by omega)), q_ift (ok_n (L := L) (i := i) q_3 hL (by omega)), q_ift (ok_n (L := L) (i := i) q_4 hL (by omega))]
  refine w_call (kap := kB) (Yf := fun s => P_X4_cell (xs (nI i + (1 : Int32)).toNatClampNeg) (xs (nI i + (2 : Int32)).toNatClampNeg) s) (r_cell h (xs (nI i + (1 : Int32)).toNatClampNeg) (xs (nI i + (2 : Int32)).toNatClampNeg)) rfl (fun _ _ => rfl) (fun e r M1 k he hk => ?_) hK
  rcases kB_cs he hk with ⟨rfl, rfl⟩ | ⟨rfl, rfl⟩ <;> exact ⟨by decide +kernel, rfl⟩
theorem cs_6 (h : Rel M (M 22)) (hL : L ≤ 2560) (hi : i + 5 ≤ L) (hK : ∀ M', Rel M' (M' 22) → K (nI i + 5) M' = some 1) : P_L_case6 L xs K (nI i) M = some 1 := by
  unfold P_L_case6 P_L_loan
  simp only [q_ift (ok_n (L := L) (i := i) q_1 hL (by omega)), q_ift (ok_n (L := L) (i := i) q_2 hL (by omega)), q_ift (ok_n (L := L) (i := i) q_3 hL (by omega)), q_ift (ok_n (L := L) (i := i) q_4 hL (by omega))]
  refine w_call (kap := kB) (Yf := fun s => P_X4_loan (xs (nI i + (1 : Int32)).toNatClampNeg) (xs (nI i + (2 : Int32)).toNatClampNeg) s) (r_loan h (xs (nI i + (1 : Int32)).toNatClampNeg) (xs (nI i + (2 : Int32)).toNatClampNeg)) rfl (fun _ _ => rfl) (fun e r M1 k he hk => ?_) hK
  rcases kB_cs he hk with ⟨rfl, rfl⟩ | ⟨rfl, rfl⟩ <;> exact ⟨by decide +kernel, rfl⟩
theorem cs_7 (h : Rel M (M 22)) (hL : L ≤ 2560) (hi : i + 5 ≤ L) (hK : ∀ M', Rel M' (M' 22) → K (nI i + 5) M' = some 1) : P_L_case7 L xs K (nI i) M = some 1 := by
  unfold P_L_case7 P_L_order
  simp only [q_ift (ok_n (L := L) (i := i) q_1 hL (by omega)), q_ift (ok_n (L := L) (i := i) q_2 hL (by omega)), q_ift (ok_n (L := L) (i := i) q_3 hL (by omega)), q_ift (ok_n (L := L) (i := i) q_4 hL (by omega))]
  refine w_call (kap := kA) (Yf := fun s => P_X4_order (xs (nI i + (1 : Int32)).toNatClampNeg) s) (r_order h (xs (nI i + (1 : Int32)).toNatClampNeg)) rfl (fun _ _ => rfl) (fun e r M1 k he hk => ?_) hK
  rcases kA_cs he hk with ⟨rfl, rfl⟩ <;> exact ⟨by decide +kernel, rfl⟩
theorem cs_8 (h : Rel M (M 22)) (hL : L ≤ 2560) (hi : i + 5 ≤ L) (hK : ∀ M', Rel M' (M' 22) → K (nI i + 5) M' = some 1) : P_L_case8 L xs K (nI i) M = some 1 := by
  unfold P_L_case8 P_L_addCell
  simp only [q_ift (ok_n (L := L) (i := i) q_1 hL (by omega)), q_ift (ok_n (L := L) (i := i) q_2 hL (by omega)), q_ift (ok_n (L := L) (i := i) q_3 hL (by omega)), q_ift (ok_n (L := L) (i := i) q_4 hL (by omega))]
  refine w_call (kap := kD) (Yf := fun s => P_X4_addCell (xs (nI i + (1 : Int32)).toNatClampNeg) (xs (nI i + (2 : Int32)).toNatClampNeg) (xs (nI i + (3 : Int32)).toNatClampNeg) s) (r_addCell h (xs (nI i + (1 : Int32)).toNatClampNeg) (xs (nI i + (2 : Int32)).toNatClampNeg) (xs (nI i + (3 : Int32)).toNatClampNeg)) rfl (fun _ _ => rfl) (fun e r M1 k he hk => ?_) hK
  rcases kD_cs he hk with ⟨rfl, rfl⟩ | ⟨rfl, rfl⟩ <;> exact ⟨by decide +kernel, rfl⟩
theorem cs_9 (h : Rel M (M 22)) (hL : L ≤ 2560) (hi : i + 5 ≤ L) (hK : ∀ M', Rel M' (M' 22) → K (nI i + 5) M' = some 1) : P_L_case9 L xs K (nI i) M = some 1 := by
  unfold P_L_case9 P_L_lend
  simp only [q_ift (ok_n (L := L) (i := i) q_1 hL (by omega)), q_ift (ok_n (L := L) (i := i) q_2 hL (by omega)), q_ift (ok_n (L := L) (i := i) q_3 hL (by omega)), q_ift (ok_n (L := L) (i := i) q_4 hL (by omega))]
  refine w_call (kap := kC) (Yf := fun s => P_X4_lend (xs (nI i + (1 : Int32)).toNatClampNeg) (xs (nI i + (2 : Int32)).toNatClampNeg) (xs (nI i + (3 : Int32)).toNatClampNeg) (xs (nI i + (4 : Int32)).toNatClampNeg) s) (r_lend h (xs (nI i + (1 : Int32)).toNatClampNeg) (xs (nI i + (2 : Int32)).toNatClampNeg) (xs (nI i + (3 : Int32)).toNatClampNeg) (xs (nI i + (4 : Int32)).toNatClampNeg)) rfl (fun _ _ => rfl) (fun e r M1 k he hk => ?_) hK
  rcases kC_cs he hk with ⟨rfl, rfl⟩ | ⟨rfl, rfl⟩ | ⟨rfl, rfl⟩ <;> exact ⟨by decide +kernel, rfl⟩
theorem cs_10 (h : Rel M (M 22)) (hL : L ≤ 2560) (hi : i + 5 ≤ L) (hK : ∀ M', Rel M' (M' 22) → K (nI i + 5) M' = some 1) : P_L_case10 L xs K (nI i) M = some 1 := by
  unfold P_L_case10 P_L_repay
  simp only [q_ift (ok_n (L := L) (i := i) q_1 hL (by omega)), q_ift (ok_n (L := L) (i := i) q_2 hL (by omega)), q_ift (ok_n (L := L) (i := i) q_3 hL (by omega)), q_ift (ok_n (L := L) (i := i) q_4 hL (by omega))]
  refine w_call (kap := kC) (Yf := fun s => P_X4_repay (xs (nI i + (1 : Int32)).toNatClampNeg) (xs (nI i + (2 : Int32)).toNatClampNeg) s) (r_repay h (xs (nI i + (1 : Int32)).toNatClampNeg) (xs (nI i + (2 : Int32)).toNatClampNeg)) rfl (fun _ _ => rfl) (fun e r M1 k he hk => ?_) hK
  rcases kC_cs he hk with ⟨rfl, rfl⟩ | ⟨rfl, rfl⟩ | ⟨rfl, rfl⟩ <;> exact ⟨by decide +kernel, rfl⟩
theorem cs_11 (h : Rel M (M 22)) (hL : L ≤ 2560) (hi : i + 5 ≤ L) (hK : ∀ M', Rel M' (M' 22) → K (nI i + 5) M' = some 1) : P_L_case11 L xs K (nI i) M = some 1 := by
  unfold P_L_case11 P_L_setLeak
  simp only [q_ift (ok_n (L := L) (i := i) q_1 hL (by omega)), q_ift (ok_n (L := L) (i := i) q_2 hL (by omega)), q_ift (ok_n (L := L) (i := i) q_3 hL (by omega)), q_ift (ok_n (L := L) (i := i) q_4 hL (by omega))]
  refine w_call (kap := kB) (Yf := fun s => P_X4_setLeak (xs (nI i + (1 : Int32)).toNatClampNeg) (xs (nI i + (2 : Int32)).toNatClampNeg) s) (r_setLeak h (xs (nI i + (1 : Int32)).toNatClampNeg) (xs (nI i + (2 : Int32)).toNatClampNeg)) rfl (fun _ _ => rfl) (fun e r M1 k he hk => ?_) hK
  rcases kB_cs he hk with ⟨rfl, rfl⟩ | ⟨rfl, rfl⟩ <;> exact ⟨by decide +kernel, rfl⟩
theorem cs_12 (h : Rel M (M 22)) (hL : L ≤ 2560) (hi : i + 5 ≤ L) (hK : ∀ M', Rel M' (M' 22) → K (nI i + 5) M' = some 1) : P_L_case12 L xs K (nI i) M = some 1 := by
  unfold P_L_case12 P_L_charge
  simp only [q_ift (ok_n (L := L) (i := i) q_1 hL (by omega)), q_ift (ok_n (L := L) (i := i) q_2 hL (by omega)), q_ift (ok_n (L := L) (i := i) q_3 hL (by omega)), q_ift (ok_n (L := L) (i := i) q_4 hL (by omega))]
  refine w_call (kap := kA) (Yf := fun s => P_X4_charge (xs (nI i + (1 : Int32)).toNatClampNeg) s) (r_charge h (xs (nI i + (1 : Int32)).toNatClampNeg)) rfl (fun _ _ => rfl) (fun e r M1 k he hk => ?_) hK
  rcases kA_cs he hk with ⟨rfl, rfl⟩ <;> exact ⟨by decide +kernel, rfl⟩
theorem cs_13 (h : Rel M (M 22)) (hL : L ≤ 2560) (hi : i + 5 ≤ L) (hK : ∀ M', Rel M' (M' 22) → K (nI i + 5) M' = some 1) : P_L_case13 L xs K (nI i) M = some 1 := by
  unfold P_L_case13 P_L_draw
  simp only [q_ift (ok_n (L := L) (i := i) q_1 hL (by omega)), q_ift (ok_n (L := L) (i := i) q_2 hL (by omega)), q_ift (ok_n (L := L) (i := i) q_3 hL (by omega)), q_ift (ok_n (L := L) (i := i) q_4 hL (by omega))]
  refine w_call (kap := kD) (Yf := fun s => P_X4_draw (xs (nI i + (1 : Int32)).toNatClampNeg) s) (r_draw h (xs (nI i + (1 : Int32)).toNatClampNeg)) rfl (fun _ _ => rfl) (fun e r M1 k he hk => ?_) hK
  rcases kD_cs he hk with ⟨rfl, rfl⟩ | ⟨rfl, rfl⟩ <;> exact ⟨by decide +kernel, rfl⟩
theorem cs_14 (h : Rel M (M 22)) (hL : L ≤ 2560) (hi : i + 5 ≤ L) (hK : ∀ M', Rel M' (M' 22) → K (nI i + 5) M' = some 1) : P_L_case14 L xs K (nI i) M = some 1 := by
  unfold P_L_case14 P_L_pass
  simp only [q_ift (ok_n (L := L) (i := i) q_1 hL (by omega)), q_ift (ok_n (L := L) (i := i) q_2 hL (by omega)), q_ift (ok_n (L := L) (i := i) q_3 hL (by omega)), q_ift (ok_n (L := L) (i := i) q_4 hL (by omega))]
  refine w_call (kap := kA) (Yf := fun s => P_X4_pass (xs (nI i + (1 : Int32)).toNatClampNeg) s) (r_pass h (xs (nI i + (1 : Int32)).toNatClampNeg)) rfl (fun _ _ => rfl) (fun e r M1 k he hk => ?_) hK
  rcases kA_cs he hk with ⟨rfl, rfl⟩ <;> exact ⟨by decide +kernel, rfl⟩
theorem cs_15 (h : Rel M (M 22)) (hL : L ≤ 2560) (hi : i + 5 ≤ L) (hK : ∀ M', Rel M' (M' 22) → K (nI i + 5) M' = some 1) : P_L_case15 L xs K (nI i) M = some 1 := by
  unfold P_L_case15 P_L_undo
  refine w_call (kap := kE) (Yf := fun s => P_X4_undo  s) (r_undo h ) rfl (fun _ _ => rfl) (fun e r M1 k he hk => ?_) hK
  rcases kE_cs he hk with ⟨rfl, rfl⟩ <;> exact ⟨by decide +kernel, rfl⟩
theorem cs_16 (h : Rel M (M 22)) (hL : L ≤ 2560) (hi : i + 5 ≤ L) (hK : ∀ M', Rel M' (M' 22) → K (nI i + 5) M' = some 1) : P_L_case16 L xs K (nI i) M = some 1 := by
  unfold P_L_case16 P_L_holds
  simp only [q_ift (ok_n (L := L) (i := i) q_1 hL (by omega)), q_ift (ok_n (L := L) (i := i) q_2 hL (by omega)), q_ift (ok_n (L := L) (i := i) q_3 hL (by omega)), q_ift (ok_n (L := L) (i := i) q_4 hL (by omega))]
  refine w_call (kap := kF) (Yf := fun s => P_X4_holds (xs (nI i + (1 : Int32)).toNatClampNeg) s) (r_holds h (xs (nI i + (1 : Int32)).toNatClampNeg)) rfl (fun _ _ => rfl) (fun e r M1 k he hk => ?_) hK
  rcases kF_cs he hk with ⟨rfl, rfl⟩ <;> exact ⟨by decide +kernel, rfl⟩
theorem cs_17 (h : Rel M (M 22)) (hL : L ≤ 2560) (hi : i + 5 ≤ L) (hK : ∀ M', Rel M' (M' 22) → K (nI i + 5) M' = some 1) : P_L_case17 L xs K (nI i) M = some 1 := by
  unfold P_L_case17 P_L_draws
  simp only [q_ift (ok_n (L := L) (i := i) q_1 hL (by omega)), q_ift (ok_n (L := L) (i := i) q_2 hL (by omega)), q_ift (ok_n (L := L) (i := i) q_3 hL (by omega)), q_ift (ok_n (L := L) (i := i) q_4 hL (by omega))]
  refine w_call (kap := kA) (Yf := fun s => P_X4_draws (xs (nI i + (1 : Int32)).toNatClampNeg) s) (r_draws h (xs (nI i + (1 : Int32)).toNatClampNeg)) rfl (fun _ _ => rfl) (fun e r M1 k he hk => ?_) hK
  rcases kA_cs he hk with ⟨rfl, rfl⟩ <;> exact ⟨by decide +kernel, rfl⟩
theorem cs_19 (h : Rel M (M 22)) (hL : L ≤ 2560) (hi : i + 5 ≤ L) (hK : ∀ M', Rel M' (M' 22) → K (nI i + 5) M' = some 1) : P_L_case19 L xs K (nI i) M = some 1 := by
  unfold P_L_case19 P_L_bestLender
  simp only [q_ift (ok_n (L := L) (i := i) q_1 hL (by omega)), q_ift (ok_n (L := L) (i := i) q_2 hL (by omega)), q_ift (ok_n (L := L) (i := i) q_3 hL (by omega)), q_ift (ok_n (L := L) (i := i) q_4 hL (by omega))]
  refine w_call (kap := kB) (Yf := fun s => P_X4_bestLender (xs (nI i + (1 : Int32)).toNatClampNeg) (xs (nI i + (2 : Int32)).toNatClampNeg) s) (r_best h (xs (nI i + (1 : Int32)).toNatClampNeg) (xs (nI i + (2 : Int32)).toNatClampNeg)) rfl (fun _ _ => rfl) (fun e r M1 k he hk => ?_) hK
  rcases kB_cs he hk with ⟨rfl, rfl⟩ | ⟨rfl, rfl⟩ <;> exact ⟨by decide +kernel, rfl⟩
theorem cs_20 (h : Rel M (M 22)) (hL : L ≤ 2560) (hi : i + 5 ≤ L) (hK : ∀ M', Rel M' (M' 22) → K (nI i + 5) M' = some 1) : P_L_case20 L xs K (nI i) M = some 1 := by
  unfold P_L_case20 P_L_costs
  simp only [q_ift (ok_n (L := L) (i := i) q_1 hL (by omega)), q_ift (ok_n (L := L) (i := i) q_2 hL (by omega)), q_ift (ok_n (L := L) (i := i) q_3 hL (by omega)), q_ift (ok_n (L := L) (i := i) q_4 hL (by omega))]
  refine w_call (kap := kB) (Yf := fun s => P_X4_costs (xs (nI i + (1 : Int32)).toNatClampNeg) (xs (nI i + (2 : Int32)).toNatClampNeg) s) (r_costs h (xs (nI i + (1 : Int32)).toNatClampNeg) (xs (nI i + (2 : Int32)).toNatClampNeg)) rfl (fun _ _ => rfl) (fun e r M1 k he hk => ?_) hK
  rcases kB_cs he hk with ⟨rfl, rfl⟩ | ⟨rfl, rfl⟩ <;> exact ⟨by decide +kernel, rfl⟩
theorem cs_21 (h : Rel M (M 22)) (hL : L ≤ 2560) (hi : i + 5 ≤ L) (hK : ∀ M', Rel M' (M' 22) → K (nI i + 5) M' = some 1) : P_L_case21 L xs K (nI i) M = some 1 := by
  unfold P_L_case21 P_L_runScript
  simp only [q_ift (ok_n (L := L) (i := i) q_1 hL (by omega)), q_ift (ok_n (L := L) (i := i) q_2 hL (by omega)), q_ift (ok_n (L := L) (i := i) q_3 hL (by omega)), q_ift (ok_n (L := L) (i := i) q_4 hL (by omega))]
  refine w_call (kap := kA) (Yf := fun s => P_X4_runScript (xs (nI i + (1 : Int32)).toNatClampNeg) ((xs (nI i + (2 : Int32)).toNatClampNeg).toInt64 <<< ((32 : Int32).toInt64 &&& 63) ||| (xs (nI i + (3 : Int32)).toNatClampNeg).toInt64 &&& (4294967295 : Int64)) s) (r_runScript h (xs (nI i + (1 : Int32)).toNatClampNeg) ((xs (nI i + (2 : Int32)).toNatClampNeg).toInt64 <<< ((32 : Int32).toInt64 &&& 63) ||| (xs (nI i + (3 : Int32)).toNatClampNeg).toInt64 &&& (4294967295 : Int64))) rfl (fun _ _ => rfl) (fun e r M1 k he hk => ?_) hK
  rcases kA_cs he hk with ⟨rfl, rfl⟩ <;> exact ⟨by decide +kernel, rfl⟩
theorem cs_22 (h : Rel M (M 22)) (hL : L ≤ 2560) (hi : i + 5 ≤ L) (hK : ∀ M', Rel M' (M' 22) → K (nI i + 5) M' = some 1) : P_L_case22 L xs K (nI i) M = some 1 := by
  unfold P_L_case22 P_L_simulate
  simp only [q_ift (ok_n (L := L) (i := i) q_1 hL (by omega)), q_ift (ok_n (L := L) (i := i) q_2 hL (by omega)), q_ift (ok_n (L := L) (i := i) q_3 hL (by omega)), q_ift (ok_n (L := L) (i := i) q_4 hL (by omega))]
  refine w_call (kap := kA) (Yf := fun s => P_X4_simulate ((xs (nI i + (1 : Int32)).toNatClampNeg).toInt64 <<< ((32 : Int32).toInt64 &&& 63) ||| (xs (nI i + (2 : Int32)).toNatClampNeg).toInt64 &&& (4294967295 : Int64)) (xs (nI i + (3 : Int32)).toNatClampNeg) s) (r_simulate h ((xs (nI i + (1 : Int32)).toNatClampNeg).toInt64 <<< ((32 : Int32).toInt64 &&& 63) ||| (xs (nI i + (2 : Int32)).toNatClampNeg).toInt64 &&& (4294967295 : Int64)) (xs (nI i + (3 : Int32)).toNatClampNeg)) rfl (fun _ _ => rfl) (fun e r M1 k he hk => ?_) hK
  rcases kA_cs he hk with ⟨rfl, rfl⟩ <;> exact ⟨by decide +kernel, rfl⟩
theorem cs_23 (h : Rel M (M 22)) (hL : L ≤ 2560) (hi : i + 5 ≤ L) (hK : ∀ M', Rel M' (M' 22) → K (nI i + 5) M' = some 1) : P_L_case23 L xs K (nI i) M = some 1 := by
  unfold P_L_case23 P_L_save
  simp only [q_ift (ok_n (L := L) (i := i) q_1 hL (by omega)), q_ift (ok_n (L := L) (i := i) q_2 hL (by omega)), q_ift (ok_n (L := L) (i := i) q_3 hL (by omega)), q_ift (ok_n (L := L) (i := i) q_4 hL (by omega))]
  refine w_call (kap := kF) (Yf := fun s => P_X4_save (xs (nI i + (1 : Int32)).toNatClampNeg) s) (r_save h (xs (nI i + (1 : Int32)).toNatClampNeg)) rfl (fun _ _ => rfl) (fun e r M1 k he hk => ?_) hK
  rcases kF_cs he hk with ⟨rfl, rfl⟩ <;> exact ⟨by decide +kernel, rfl⟩
theorem cs_24 (h : Rel M (M 22)) (hL : L ≤ 2560) (hi : i + 5 ≤ L) (hK : ∀ M', Rel M' (M' 22) → K (nI i + 5) M' = some 1) : P_L_case24 L xs K (nI i) M = some 1 := by
  unfold P_L_case24 P_L_restore
  simp only [q_ift (ok_n (L := L) (i := i) q_1 hL (by omega)), q_ift (ok_n (L := L) (i := i) q_2 hL (by omega)), q_ift (ok_n (L := L) (i := i) q_3 hL (by omega)), q_ift (ok_n (L := L) (i := i) q_4 hL (by omega))]
  refine w_call (kap := kG) (Yf := fun s => P_X4_restore (xs (nI i + (1 : Int32)).toNatClampNeg) s) (r_restore h (xs (nI i + (1 : Int32)).toNatClampNeg)) rfl (fun _ _ => rfl) (fun e r M1 k he hk => ?_) hK
  rcases kG_cs he hk with ⟨rfl, rfl⟩ | ⟨rfl, rfl⟩ <;> exact ⟨by decide +kernel, rfl⟩
theorem cs_1 (h : Rel M (M 22)) (hL : L ≤ 2560) (hi : i + 5 ≤ L) (hK : ∀ M', Rel M' (M' 22) → K (nI i + 5) M' = some 1) : P_L_case1 L xs K (nI i) M = some 1 := by
  unfold P_L_case1
  exact w_same (Yf := fun s => P_X4_clearText s) (r_clearText h) hK
theorem cs_2 (h : Rel M (M 22)) (hL : L ≤ 2560) (hi : i + 5 ≤ L) (hK : ∀ M', Rel M' (M' 22) → K (nI i + 5) M' = some 1) : P_L_case2 L xs K (nI i) M = some 1 := by
  unfold P_L_case2
  exact w_same (Yf := fun s => P_X4_errorPosition s) (r_error h) hK
theorem cs_18 (h : Rel M (M 22)) (hL : L ≤ 2560) (hi : i + 5 ≤ L) (hK : ∀ M', Rel M' (M' 22) → K (nI i + 5) M' = some 1) : P_L_case18 L xs K (nI i) M = some 1 := by
  unfold P_L_case18
  exact w_same (Yf := fun s => P_X4_most s) (r_most h) hK
end
theorem l_law {L : Nat} (hL : L ≤ 2560) (xs : Nat → Int32) : ∀ n i (M : lc_MM), i ≤ L → L + 5 ≤ i + 5 * n → Rel M (M 22) → P_L_law_23 L xs n (nI i) M = some 1 := by
  intro n
  induction n with
  | zero =>
    intro i M h1 h2 h
    omega
  | succ n ih =>
    intro i M h1 h2 h
    have e5 : Int32.ofNat L - (5 : Int32) = nI L - nI 5 := by rw [q_5]; rfl
    have hc : (nI L - nI 5 < nI i) = (L < 5 + i) := q_sublt (by omega) (by omega) (by omega)
    rw [P_L_law_23, e5]
    by_cases hi : L < 5 + i
    · rw [if_pos (show nI L - nI 5 < nI i by rw [hc]; exact hi)]
    · have ok0 : lc_ok (nI i) L := (q_okn (by omega)).mpr (by omega)
      have hK : ∀ M', Rel M' (M' 22) → (fun x4 M => P_L_law_23 L xs n x4 M) (nI i + 5) M' = some 1 := fun M' hM => by
        show P_L_law_23 L xs n (nI i + 5) M' = some 1
        rw [q_5, nI_add]
        exact ih (i + 5) M' (by omega) (by omega) hM
      have hi5 : i + 5 ≤ L := by omega
      rw [if_neg (show ¬ nI L - nI 5 < nI i by rw [hc]; exact hi), q_ift ok0, q_let]
      generalize xs (nI i).toNatClampNeg &&& 31 = y
      by_cases c0 : y = (0 : Int32)
      · rw [if_pos c0]; exact cs_0 h hL hi5 hK
      rw [if_neg c0]
      by_cases c1 : y = (1 : Int32)
      · rw [if_pos c1]; exact cs_1 h hL hi5 hK
      rw [if_neg c1]
      by_cases c2 : y = (2 : Int32)
      · rw [if_pos c2]; exact cs_2 h hL hi5 hK
      rw [if_neg c2]
      by_cases c3 : y = (3 : Int32)
      · rw [if_pos c3]; exact cs_3 h hL hi5 hK
      rw [if_neg c3]
      by_cases c4 : y = (4 : Int32)
      · rw [if_pos c4]; exact cs_4 h hL hi5 hK
      rw [if_neg c4]
      by_cases c5 : y = (5 : Int32)
      · rw [if_pos c5]; exact cs_5 h hL hi5 hK
      rw [if_neg c5]
      by_cases c6 : y = (6 : Int32)
      · rw [if_pos c6]; exact cs_6 h hL hi5 hK
      rw [if_neg c6]
      by_cases c7 : y = (7 : Int32)
      · rw [if_pos c7]; exact cs_7 h hL hi5 hK
      rw [if_neg c7]
      by_cases c8 : y = (8 : Int32)
      · rw [if_pos c8]; exact cs_8 h hL hi5 hK
      rw [if_neg c8]
      by_cases c9 : y = (9 : Int32)
      · rw [if_pos c9]; exact cs_9 h hL hi5 hK
      rw [if_neg c9]
      by_cases c10 : y = (10 : Int32)
      · rw [if_pos c10]; exact cs_10 h hL hi5 hK
      rw [if_neg c10]
      by_cases c11 : y = (11 : Int32)
      · rw [if_pos c11]; exact cs_11 h hL hi5 hK
      rw [if_neg c11]
      by_cases c12 : y = (12 : Int32)
      · rw [if_pos c12]; exact cs_12 h hL hi5 hK
      rw [if_neg c12]
      by_cases c13 : y = (13 : Int32)
      · rw [if_pos c13]; exact cs_13 h hL hi5 hK
      rw [if_neg c13]
      by_cases c14 : y = (14 : Int32)
      · rw [if_pos c14]; exact cs_14 h hL hi5 hK
      rw [if_neg c14]
      by_cases c15 : y = (15 : Int32)
      · rw [if_pos c15]; exact cs_15 h hL hi5 hK
      rw [if_neg c15]
      by_cases c16 : y = (16 : Int32)
      · rw [if_pos c16]; exact cs_16 h hL hi5 hK
      rw [if_neg c16]
      by_cases c17 : y = (17 : Int32)
      · rw [if_pos c17]; exact cs_17 h hL hi5 hK
      rw [if_neg c17]
      by_cases c18 : y = (18 : Int32)
      · rw [if_pos c18]; exact cs_18 h hL hi5 hK
      rw [if_neg c18]
      by_cases c19 : y = (19 : Int32)
      · rw [if_pos c19]; exact cs_19 h hL hi5 hK
      rw [if_neg c19]
      by_cases c20 : y = (20 : Int32)
      · rw [if_pos c20]; exact cs_20 h hL hi5 hK
      rw [if_neg c20]
      by_cases c21 : y = (21 : Int32)
      · rw [if_pos c21]; exact cs_21 h hL hi5 hK
      rw [if_neg c21]
      by_cases c22 : y = (22 : Int32)
      · rw [if_pos c22]; exact cs_22 h hL hi5 hK
      rw [if_neg c22]
      by_cases c23 : y = (23 : Int32)
      · rw [if_pos c23]; exact cs_23 h hL hi5 hK
      rw [if_neg c23]
      by_cases c24 : y = (24 : Int32)
      · rw [if_pos c24]; exact cs_24 h hL hi5 hK
      rw [if_neg c24]
      exact hK M h
theorem M0_z {u r i : Nat} (h : ¬ (u < 19 ∧ r = 0 ∧ i = 7)) : lw_M0 u r i = nI 0 := by
  unfold lw_M0
  rw [if_neg h]; rfl
theorem M0_b (u : Nat) (hu : u < 19) : lw_M0 u = nB (emS (fun _ _ => 0)) := by
  have h9 : (-9 : Int32) = nI 4294967287 := by decide +kernel
  funext r i
  by_cases h : r = 0 ∧ i = 7
  · obtain ⟨rfl, rfl⟩ := h
    unfold lw_M0 nB emS
    rw [if_pos ⟨hu, rfl, rfl⟩, if_pos ⟨rfl, by omega⟩, if_pos rfl, h9]
  · rw [M0_z (fun z => h z.2)]
    unfold nB emS
    by_cases h2 : r = 0 ∧ i < 9
    · rw [if_pos h2, if_neg (fun z => h ⟨h2.1, z⟩)]
    · rw [if_neg h2]
theorem Rel_0 : Rel lw_M0 (lw_M0 22) := by
  have e : ∀ j, lw_M0 22 1 j = nI 0 := fun j => M0_z (by omega)
  have hr : RM 8 none (lw_M0 22) (emS (fun _ _ => 0)) := by
    refine ⟨⟨by rw [e, emS_0 _ (by omega)], by rw [e, emS_0 _ (by omega)], by rw [e, emS_0 _ (by omega)], by rw [e, emS_0 _ (by omega)], by rw [e, emS_0 _ (by omega)], by rw [e, emS_0 _ (by omega)], by rw [e, emS_0 _ (by omega)], trivial, trivial⟩, fun c hc => ?_, fun i hi => ?_⟩
    · rw [emS_0 _ (by omega)] at hc; omega
    · rw [emS_0 _ (by omega)] at hi; omega
  refine ⟨?_, trivial, fun k hk => Or.inl ⟨M0_z (by omega), M0_z (by omega)⟩, ⟨0, 0, by omega, by omega, M0_z (by omega), M0_z (by omega), M0_z (by omega), fun i hi => absurd hi (by omega)⟩, ⟨0, by omega, M0_z (by omega), M0_z (by omega), fun i hi => absurd hi (by omega)⟩⟩
  rw [M0_b 0 (by omega)]
  exact Pr.mk (Iv_em _) hr trivial
theorem pure_main (L : Nat) (xs : Nat → Int32) (hL : L ≤ 2560) : P_L_law_23 L xs 600 0 lw_M0 = some 1 := l_law hL xs 600 0 lw_M0 (by omega) (by omega) Rel_0

