/-! ===== the pure claim: what the law compares after each action ===== -/
variable {e : Nat} {m : lc_St} {g : Nat → Nat → Nat} {M M' : lc_MM}
theorem x3_cell0 (h0 : M 0 = nB g) (hi : Iv g) {c : Nat} (hc : c < g 0 0) : P_X3_cell (nI c) (nI 0) M = some (nI (g 1 c), M) := by
  have h8 : c < 8 := by have := hi.1; omega
  have e1 := x0_has hi (show c < 2 ^ 31 by omega)
  rw [if_pos hc] at e1
  unfold P_X3_cell
  simp only [q_0, q_1, q_2, q_3, q_4, q_5, q_6, q_7, q_8, q_10, q_11, q_12, q_13, q_14, q_20, q_26, q_30, q_40, q_50, q_51, q_56, q_60, q_90, q_99, q_100, q_19, h0]
  rw [bE e1]
  simp (disch := omega) only [nI_ltI, nI_leI, nI_eq, q_okn, nI_clamp, nI_add, pk_mul, pk_sub, pk_div, q_nlt9, q_neg0, q_ne9, q_9ne, q_nle9, Nat.one_ne_zero, ↓reduceIte, Nat.reduceEqDiff, q_ift, q_ifT, nB_at]
theorem x3_cell1 (h0 : M 0 = nB g) (hi : Iv g) {c : Nat} (hc : c < g 0 0) : P_X3_cell (nI c) (nI 1) M = some (nI (g 2 c), M) := by
  have h8 : c < 8 := by have := hi.1; omega
  have e1 := x0_has hi (show c < 2 ^ 31 by omega)
  rw [if_pos hc] at e1
  unfold P_X3_cell
  simp only [q_0, q_1, q_2, q_3, q_4, q_5, q_6, q_7, q_8, q_10, q_11, q_12, q_13, q_14, q_20, q_26, q_30, q_40, q_50, q_51, q_56, q_60, q_90, q_99, q_100, q_19, h0]
  rw [bE e1]
  simp (disch := omega) only [nI_ltI, nI_leI, nI_eq, q_okn, nI_clamp, nI_add, pk_mul, pk_sub, pk_div, q_nlt9, q_neg0, q_ne9, q_9ne, q_nle9, Nat.one_ne_zero, ↓reduceIte, Nat.reduceEqDiff, q_ift, q_ifT, nB_at]
theorem x3_cell2 (h0 : M 0 = nB g) (hi : Iv g) {c : Nat} (hc : c < g 0 0) : P_X3_cell (nI c) (nI 2) M = some (nI (g 3 c), M) := by
  have h8 : c < 8 := by have := hi.1; omega
  have e1 := x0_has hi (show c < 2 ^ 31 by omega)
  rw [if_pos hc] at e1
  unfold P_X3_cell
  simp only [q_0, q_1, q_2, q_3, q_4, q_5, q_6, q_7, q_8, q_10, q_11, q_12, q_13, q_14, q_20, q_26, q_30, q_40, q_50, q_51, q_56, q_60, q_90, q_99, q_100, q_19, h0]
  rw [bE e1]
  simp (disch := omega) only [nI_ltI, nI_leI, nI_eq, q_okn, nI_clamp, nI_add, pk_mul, pk_sub, pk_div, q_nlt9, q_neg0, q_ne9, q_9ne, q_nle9, Nat.one_ne_zero, ↓reduceIte, Nat.reduceEqDiff, q_ift, q_ifT, nB_at]
theorem x3_cell3 (h0 : M 0 = nB g) (hi : Iv g) {c : Nat} (hc : c < g 0 0) : P_X3_cell (nI c) (nI 3) M = some (nI (g 4 c), M) := by
  have h8 : c < 8 := by have := hi.1; omega
  have e1 := x0_has hi (show c < 2 ^ 31 by omega)
  rw [if_pos hc] at e1
  unfold P_X3_cell
  simp only [q_0, q_1, q_2, q_3, q_4, q_5, q_6, q_7, q_8, q_10, q_11, q_12, q_13, q_14, q_20, q_26, q_30, q_40, q_50, q_51, q_56, q_60, q_90, q_99, q_100, q_19, h0]
  rw [bE e1]
  simp (disch := omega) only [nI_ltI, nI_leI, nI_eq, q_okn, nI_clamp, nI_add, pk_mul, pk_sub, pk_div, q_nlt9, q_neg0, q_ne9, q_9ne, q_nle9, Nat.one_ne_zero, ↓reduceIte, Nat.reduceEqDiff, q_ift, q_ifT, nB_at]
theorem x3_cell4 (h0 : M 0 = nB g) (hi : Iv g) {c : Nat} (hc : c < g 0 0) : P_X3_cell (nI c) (nI 4) M = some (nI (ow g 6 c (g 0 1)), M) := by
  have h8 : c < 8 := by have := hi.1; omega
  have e1 := x0_has hi (show c < 2 ^ 31 by omega)
  rw [if_pos hc] at e1
  unfold P_X3_cell
  simp only [q_0, q_1, q_2, q_3, q_4, q_5, q_6, q_7, q_8, q_10, q_11, q_12, q_13, q_14, q_20, q_26, q_30, q_40, q_50, q_51, q_56, q_60, q_90, q_99, q_100, q_19, h0]
  rw [bE e1]
  simp (disch := omega) only [nI_ltI, nI_leI, nI_eq, q_okn, nI_clamp, nI_add, pk_mul, pk_sub, pk_div, q_nlt9, q_neg0, q_ne9, q_9ne, q_nle9, Nat.one_ne_zero, ↓reduceIte, Nat.reduceEqDiff, q_ift, q_ifT, nB_at]
  rw [bE (x0_owedBy hi h8)]
theorem x3_cell5 (h0 : M 0 = nB g) (hi : Iv g) {c : Nat} (hc : c < g 0 0) : P_X3_cell (nI c) (nI 5) M = some (nI (ow g 5 c (g 0 1)), M) := by
  have h8 : c < 8 := by have := hi.1; omega
  have e1 := x0_has hi (show c < 2 ^ 31 by omega)
  rw [if_pos hc] at e1
  unfold P_X3_cell
  simp only [q_0, q_1, q_2, q_3, q_4, q_5, q_6, q_7, q_8, q_10, q_11, q_12, q_13, q_14, q_20, q_26, q_30, q_40, q_50, q_51, q_56, q_60, q_90, q_99, q_100, q_19, h0]
  rw [bE e1]
  simp (disch := omega) only [nI_ltI, nI_leI, nI_eq, q_okn, nI_clamp, nI_add, pk_mul, pk_sub, pk_div, q_nlt9, q_neg0, q_ne9, q_9ne, q_nle9, Nat.one_ne_zero, ↓reduceIte, Nat.reduceEqDiff, q_ift, q_ifT, nB_at]
  rw [bE (x0_owedTo hi h8)]
theorem x3_cell6 (h0 : M 0 = nB g) (hi : Iv g) {c : Nat} (hc : c < g 0 0) : P_X3_cell (nI c) (nI 6) M = some (nI (ib g c (g 0 1)), M) := by
  have h8 : c < 8 := by have := hi.1; omega
  have e1 := x0_has hi (show c < 2 ^ 31 by omega)
  rw [if_pos hc] at e1
  unfold P_X3_cell
  simp only [q_0, q_1, q_2, q_3, q_4, q_5, q_6, q_7, q_8, q_10, q_11, q_12, q_13, q_14, q_20, q_26, q_30, q_40, q_50, q_51, q_56, q_60, q_90, q_99, q_100, q_19, h0]
  rw [bE e1]
  simp (disch := omega) only [nI_ltI, nI_leI, nI_eq, q_okn, nI_clamp, nI_add, pk_mul, pk_sub, pk_div, q_nlt9, q_neg0, q_ne9, q_9ne, q_nle9, Nat.one_ne_zero, ↓reduceIte, Nat.reduceEqDiff, q_ift, q_ifT, nB_at]
  rw [bE (x0_interestBy hi h8)]
theorem x3_cell7 (h0 : M 0 = nB g) (hi : Iv g) {c : Nat} (hc : c < g 0 0) : P_X3_cell (nI c) (nI 7) M = some (nI (kd g c), M) := by
  have h8 : c < 8 := by have := hi.1; omega
  have e1 := x0_has hi (show c < 2 ^ 31 by omega)
  rw [if_pos hc] at e1
  unfold P_X3_cell
  simp only [q_0, q_1, q_2, q_3, q_4, q_5, q_6, q_7, q_8, q_10, q_11, q_12, q_13, q_14, q_20, q_26, q_30, q_40, q_50, q_51, q_56, q_60, q_90, q_99, q_100, q_19, h0]
  rw [bE e1]
  simp (disch := omega) only [nI_ltI, nI_leI, nI_eq, q_okn, nI_clamp, nI_add, pk_mul, pk_sub, pk_div, q_nlt9, q_neg0, q_ne9, q_9ne, q_nle9, Nat.one_ne_zero, ↓reduceIte, Nat.reduceEqDiff, q_ift, q_ifT, nB_at]
  rw [bE (x0_kind hi hc)]
theorem x3_loan0 (h0 : M 0 = nB g) (hi : Iv g) {i : Nat} (hii : i < g 0 1) : P_X3_loan (nI i) (nI 0) M = some (nI (g 5 i), M) := by
  have h12 : i < 12 := by have := hi.2.1; omega
  have e1 := x0_hasL hi (show i < 2 ^ 31 by omega)
  rw [if_pos hii] at e1
  unfold P_X3_loan
  simp only [q_0, q_1, q_2, q_3, q_4, q_5, q_6, q_7, q_8, q_10, q_11, q_12, q_13, q_14, q_20, q_26, q_30, q_40, q_50, q_51, q_56, q_60, q_90, q_99, q_100, q_19, h0]
  rw [bE e1]
  simp (disch := omega) only [nI_ltI, nI_leI, nI_eq, q_okn, nI_clamp, nI_add, pk_mul, pk_sub, pk_div, q_nlt9, q_neg0, q_ne9, q_9ne, q_nle9, Nat.one_ne_zero, ↓reduceIte, Nat.reduceEqDiff, q_ift, q_ifT, nB_at]
theorem x3_loan1 (h0 : M 0 = nB g) (hi : Iv g) {i : Nat} (hii : i < g 0 1) : P_X3_loan (nI i) (nI 1) M = some (nI (g 6 i), M) := by
  have h12 : i < 12 := by have := hi.2.1; omega
  have e1 := x0_hasL hi (show i < 2 ^ 31 by omega)
  rw [if_pos hii] at e1
  unfold P_X3_loan
  simp only [q_0, q_1, q_2, q_3, q_4, q_5, q_6, q_7, q_8, q_10, q_11, q_12, q_13, q_14, q_20, q_26, q_30, q_40, q_50, q_51, q_56, q_60, q_90, q_99, q_100, q_19, h0]
  rw [bE e1]
  simp (disch := omega) only [nI_ltI, nI_leI, nI_eq, q_okn, nI_clamp, nI_add, pk_mul, pk_sub, pk_div, q_nlt9, q_neg0, q_ne9, q_9ne, q_nle9, Nat.one_ne_zero, ↓reduceIte, Nat.reduceEqDiff, q_ift, q_ifT, nB_at]
theorem x3_loan2 (h0 : M 0 = nB g) (hi : Iv g) {i : Nat} (hii : i < g 0 1) : P_X3_loan (nI i) (nI 2) M = some (nI (g 7 i), M) := by
  have h12 : i < 12 := by have := hi.2.1; omega
  have e1 := x0_hasL hi (show i < 2 ^ 31 by omega)
  rw [if_pos hii] at e1
  unfold P_X3_loan
  simp only [q_0, q_1, q_2, q_3, q_4, q_5, q_6, q_7, q_8, q_10, q_11, q_12, q_13, q_14, q_20, q_26, q_30, q_40, q_50, q_51, q_56, q_60, q_90, q_99, q_100, q_19, h0]
  rw [bE e1]
  simp (disch := omega) only [nI_ltI, nI_leI, nI_eq, q_okn, nI_clamp, nI_add, pk_mul, pk_sub, pk_div, q_nlt9, q_neg0, q_ne9, q_9ne, q_nle9, Nat.one_ne_zero, ↓reduceIte, Nat.reduceEqDiff, q_ift, q_ifT, nB_at]
theorem x3_loan3 (h0 : M 0 = nB g) (hi : Iv g) {i : Nat} (hii : i < g 0 1) : P_X3_loan (nI i) (nI 3) M = some (nI (g 8 i), M) := by
  have h12 : i < 12 := by have := hi.2.1; omega
  have e1 := x0_hasL hi (show i < 2 ^ 31 by omega)
  rw [if_pos hii] at e1
  unfold P_X3_loan
  simp only [q_0, q_1, q_2, q_3, q_4, q_5, q_6, q_7, q_8, q_10, q_11, q_12, q_13, q_14, q_20, q_26, q_30, q_40, q_50, q_51, q_56, q_60, q_90, q_99, q_100, q_19, h0]
  rw [bE e1]
  simp (disch := omega) only [nI_ltI, nI_leI, nI_eq, q_okn, nI_clamp, nI_add, pk_mul, pk_sub, pk_div, q_nlt9, q_neg0, q_ne9, q_9ne, q_nle9, Nat.one_ne_zero, ↓reduceIte, Nat.reduceEqDiff, q_ift, q_ifT, nB_at]
theorem x3_loan4 (h0 : M 0 = nB g) (hi : Iv g) {i : Nat} (hii : i < g 0 1) : P_X3_loan (nI i) (nI 4) M = some (nI (itr g i), M) := by
  have h12 : i < 12 := by have := hi.2.1; omega
  have e1 := x0_hasL hi (show i < 2 ^ 31 by omega)
  rw [if_pos hii] at e1
  unfold P_X3_loan
  simp only [q_0, q_1, q_2, q_3, q_4, q_5, q_6, q_7, q_8, q_10, q_11, q_12, q_13, q_14, q_20, q_26, q_30, q_40, q_50, q_51, q_56, q_60, q_90, q_99, q_100, q_19, h0]
  rw [bE e1]
  simp (disch := omega) only [nI_ltI, nI_leI, nI_eq, q_okn, nI_clamp, nI_add, pk_mul, pk_sub, pk_div, q_nlt9, q_neg0, q_ne9, q_9ne, q_nle9, Nat.one_ne_zero, ↓reduceIte, Nat.reduceEqDiff, q_ift, q_ifT, nB_at]
  rw [bE (x0_interest hi hii)]
theorem x3_loan5 (h0 : M 0 = nB g) (hi : Iv g) {i : Nat} (hii : i < g 0 1) : P_X3_loan (nI i) (nI 5) M = some (nI (g 9 i), M) := by
  have h12 : i < 12 := by have := hi.2.1; omega
  have e1 := x0_hasL hi (show i < 2 ^ 31 by omega)
  rw [if_pos hii] at e1
  unfold P_X3_loan
  simp only [q_0, q_1, q_2, q_3, q_4, q_5, q_6, q_7, q_8, q_10, q_11, q_12, q_13, q_14, q_20, q_26, q_30, q_40, q_50, q_51, q_56, q_60, q_90, q_99, q_100, q_19, h0]
  rw [bE e1]
  simp (disch := omega) only [nI_ltI, nI_leI, nI_eq, q_okn, nI_clamp, nI_add, pk_mul, pk_sub, pk_div, q_nlt9, q_neg0, q_ne9, q_9ne, q_nle9, Nat.one_ne_zero, ↓reduceIte, Nat.reduceEqDiff, q_ift, q_ifT, nB_at]
theorem x3_about0 (h0 : M 0 = nB g) (hi : Iv g) : P_X3_about (nI 0) M = some (nI (g 0 0), M) := by
  unfold P_X3_about
  simp only [q_0, q_1, q_2, q_3, q_4, q_5, q_6, q_7, q_8, q_10, q_11, q_12, q_13, q_14, q_20, q_26, q_30, q_40, q_50, q_51, q_56, q_60, q_90, q_99, q_100, q_19, q_9L, h0]
  simp (disch := omega) only [nI_ltI, nI_leI, nI_eq, q_okn, nI_clamp, nI_add, pk_mul, pk_sub, pk_div, q_nlt9, q_neg0, q_ne9, q_9ne, q_nle9, Nat.one_ne_zero, ↓reduceIte, Nat.reduceEqDiff, nB_at]
theorem x3_about1 (h0 : M 0 = nB g) (hi : Iv g) : P_X3_about (nI 1) M = some (nI (g 0 1), M) := by
  unfold P_X3_about
  simp only [q_0, q_1, q_2, q_3, q_4, q_5, q_6, q_7, q_8, q_10, q_11, q_12, q_13, q_14, q_20, q_26, q_30, q_40, q_50, q_51, q_56, q_60, q_90, q_99, q_100, q_19, q_9L, h0]
  simp (disch := omega) only [nI_ltI, nI_leI, nI_eq, q_okn, nI_clamp, nI_add, pk_mul, pk_sub, pk_div, q_nlt9, q_neg0, q_ne9, q_9ne, q_nle9, Nat.one_ne_zero, ↓reduceIte, Nat.reduceEqDiff, nB_at]
theorem x3_about2 (h0 : M 0 = nB g) (hi : Iv g) : P_X3_about (nI 2) M = some (nI (g 0 2), M) := by
  unfold P_X3_about
  simp only [q_0, q_1, q_2, q_3, q_4, q_5, q_6, q_7, q_8, q_10, q_11, q_12, q_13, q_14, q_20, q_26, q_30, q_40, q_50, q_51, q_56, q_60, q_90, q_99, q_100, q_19, q_9L, h0]
  simp (disch := omega) only [nI_ltI, nI_leI, nI_eq, q_okn, nI_clamp, nI_add, pk_mul, pk_sub, pk_div, q_nlt9, q_neg0, q_ne9, q_9ne, q_nle9, Nat.one_ne_zero, ↓reduceIte, Nat.reduceEqDiff, nB_at]
theorem x3_about3 (h0 : M 0 = nB g) (hi : Iv g) : P_X3_about (nI 3) M = some (nI (tn (g 2) (g 0 0)), M) := by
  unfold P_X3_about
  simp only [q_0, q_1, q_2, q_3, q_4, q_5, q_6, q_7, q_8, q_10, q_11, q_12, q_13, q_14, q_20, q_26, q_30, q_40, q_50, q_51, q_56, q_60, q_90, q_99, q_100, q_19, q_9L, h0]
  simp (disch := omega) only [nI_ltI, nI_leI, nI_eq, q_okn, nI_clamp, nI_add, pk_mul, pk_sub, pk_div, q_nlt9, q_neg0, q_ne9, q_9ne, q_nle9, Nat.one_ne_zero, ↓reduceIte, Nat.reduceEqDiff, nB_at]
  rw [bE (x0_allCharge hi)]
theorem x3_about4 (h0 : M 0 = nB g) (hi : Iv g) : P_X3_about (nI 4) M = some (nI (g 0 3), M) := by
  unfold P_X3_about
  simp only [q_0, q_1, q_2, q_3, q_4, q_5, q_6, q_7, q_8, q_10, q_11, q_12, q_13, q_14, q_20, q_26, q_30, q_40, q_50, q_51, q_56, q_60, q_90, q_99, q_100, q_19, q_9L, h0]
  simp (disch := omega) only [nI_ltI, nI_leI, nI_eq, q_okn, nI_clamp, nI_add, pk_mul, pk_sub, pk_div, q_nlt9, q_neg0, q_ne9, q_9ne, q_nle9, Nat.one_ne_zero, ↓reduceIte, Nat.reduceEqDiff, nB_at]
theorem x3_about5 (h0 : M 0 = nB g) (hi : Iv g) : P_X3_about (nI 5) M = some (nI (g 0 4), M) := by
  unfold P_X3_about
  simp only [q_0, q_1, q_2, q_3, q_4, q_5, q_6, q_7, q_8, q_10, q_11, q_12, q_13, q_14, q_20, q_26, q_30, q_40, q_50, q_51, q_56, q_60, q_90, q_99, q_100, q_19, q_9L, h0]
  simp (disch := omega) only [nI_ltI, nI_leI, nI_eq, q_okn, nI_clamp, nI_add, pk_mul, pk_sub, pk_div, q_nlt9, q_neg0, q_ne9, q_9ne, q_nle9, Nat.one_ne_zero, ↓reduceIte, Nat.reduceEqDiff, nB_at]
theorem x3_about6 (h0 : M 0 = nB g) (hi : Iv g) : P_X3_about (nI 6) M = some (nI (g 0 5), M) := by
  unfold P_X3_about
  simp only [q_0, q_1, q_2, q_3, q_4, q_5, q_6, q_7, q_8, q_10, q_11, q_12, q_13, q_14, q_20, q_26, q_30, q_40, q_50, q_51, q_56, q_60, q_90, q_99, q_100, q_19, q_9L, h0]
  simp (disch := omega) only [nI_ltI, nI_leI, nI_eq, q_okn, nI_clamp, nI_add, pk_mul, pk_sub, pk_div, q_nlt9, q_neg0, q_ne9, q_9ne, q_nle9, Nat.one_ne_zero, ↓reduceIte, Nat.reduceEqDiff, nB_at]
theorem x3_about7 (h0 : M 0 = nB g) (hi : Iv g) : P_X3_about (nI 7) M = some (nI (tn (g 7) (g 0 1)), M) := by
  unfold P_X3_about
  simp only [q_0, q_1, q_2, q_3, q_4, q_5, q_6, q_7, q_8, q_10, q_11, q_12, q_13, q_14, q_20, q_26, q_30, q_40, q_50, q_51, q_56, q_60, q_90, q_99, q_100, q_19, q_9L, h0]
  simp (disch := omega) only [nI_ltI, nI_leI, nI_eq, q_okn, nI_clamp, nI_add, pk_mul, pk_sub, pk_div, q_nlt9, q_neg0, q_ne9, q_9ne, q_nle9, Nat.one_ne_zero, ↓reduceIte, Nat.reduceEqDiff, nB_at]
  rw [bE (x0_allOwed hi)]
theorem x3_about8 (h0 : M 0 = nB g) (hi : Iv g) : P_X3_about (nI 8) M = some (nI (g 0 6), M) := by
  unfold P_X3_about
  simp only [q_0, q_1, q_2, q_3, q_4, q_5, q_6, q_7, q_8, q_10, q_11, q_12, q_13, q_14, q_20, q_26, q_30, q_40, q_50, q_51, q_56, q_60, q_90, q_99, q_100, q_19, q_9L, h0]
  simp (disch := omega) only [nI_ltI, nI_leI, nI_eq, q_okn, nI_clamp, nI_add, pk_mul, pk_sub, pk_div, q_nlt9, q_neg0, q_ne9, q_9ne, q_nle9, Nat.one_ne_zero, ↓reduceIte, Nat.reduceEqDiff, nB_at]
theorem x3_about9 (h0 : M 0 = nB g) (hi : Iv g) : P_X3_about (nI 9) M = some (nI (bkm (g 4) (g 0 0)), M) := by
  unfold P_X3_about
  simp only [q_0, q_1, q_2, q_3, q_4, q_5, q_6, q_7, q_8, q_10, q_11, q_12, q_13, q_14, q_20, q_26, q_30, q_40, q_50, q_51, q_56, q_60, q_90, q_99, q_100, q_19, q_9L, h0]
  simp (disch := omega) only [nI_ltI, nI_leI, nI_eq, q_okn, nI_clamp, nI_add, pk_mul, pk_sub, pk_div, q_nlt9, q_neg0, q_ne9, q_9ne, q_nle9, Nat.one_ne_zero, ↓reduceIte, Nat.reduceEqDiff, nB_at]
  rw [bE (x0_bankrupts hi)]
theorem x3_loanf (h0 : M 0 = nB g) (hi : Iv g) {i f : Nat} (hii : i < g 0 1) (hf : f < 4) : P_X3_loan (nI i) (nI f) M = some (nI (g (5 + f) i), M) := by
  rcases (show f = 0 ∨ f = 1 ∨ f = 2 ∨ f = 3 by omega) with rfl | rfl | rfl | rfl
  · exact x3_loan0 h0 hi hii
  · exact x3_loan1 h0 hi hii
  · exact x3_loan2 h0 hi hii
  · exact x3_loan3 h0 hi hii
theorem qm_lf (h : QM e m g) {i f : Nat} (hi : i < g 0 1) (hf : f < 4) : m 2 (5 * i + f) = nI (g (5 + f) i) := by
  rcases (show f = 0 ∨ f = 1 ∨ f = 2 ∨ f = 3 by omega) with rfl | rfl | rfl | rfl
  · exact qm_l0 h hi
  · exact qm_l1 h hi
  · exact qm_l2 h hi
  · exact qm_l3 h hi
theorem r_288 (h : St M g) (K : Int32 → Int32 → Int32 → Int32 → lc_MM → Option (Int32 × lc_MM)) (X4 X5 : Int32) {i a : Nat} (hii : i < g 0 1) : ∀ k f n, f + k = 4 → k < n → P_L_areCells_288 K n X4 X5 (nI a) (nI i) (nI f) M = K X4 X5 (nI (a + g 7 i)) (nI (i + 1)) M := by
  obtain ⟨h0, hi, hn, hk, hq⟩ := h
  have h12 := hi.2.1
  intro k
  induction k with
  | zero =>
    intro f n hf h1
    obtain ⟨n, rfl⟩ : ∃ q, n = q + 1 := ⟨n - 1, by omega⟩
    have : f = 4 := by omega
    subst this
    have e4 := qm_l4 hq hii
    have e2 := qm_l2 hq hii
    rw [P_L_areCells_288]
    simp only [q_0, q_1, q_2, q_3, q_4, q_5, q_6, q_7, q_8, q_10, q_11, q_12, q_13, q_14, q_20, q_26, q_30, q_40, q_50, q_51, q_56, q_60, q_90, q_99, q_100, q_19]
    rw [if_pos (by rw [nI_leI (by omega) (by omega)]; exact Nat.le_refl _), bE2 (x3_loan4 h0 hi hii), bE (l_interest hq hi hii), if_pos rfl, bE2 (x3_loan5 h0 hi hii)]
    simp (disch := omega) only [nI_ltI, nI_leI, nI_eq, q_okn, nI_clamp, nI_add, pk_mul, pk_sub, pk_div, q_nlt9, q_neg0, q_ne9, q_9ne, q_nle9, q_0, q_1, q_2, q_3, q_4, q_5, q_6, q_7, q_8, q_10, q_11, q_12, q_13, q_14, q_20, q_26, q_30, q_40, q_50, q_51, q_56, q_60, q_90, q_99, q_100, q_19, q_ift, q_ifT, e4, e2, ↓reduceIte, lc_let]
  | succ k ih =>
    intro f n hf h1
    obtain ⟨n, rfl⟩ : ∃ q, n = q + 1 := ⟨n - 1, by omega⟩
    have z := ih (f + 1) n (by omega) (by omega)
    have ef := qm_lf hq hii (show f < 4 by omega)
    rw [← z, P_L_areCells_288]
    simp only [q_0, q_1, q_2, q_3, q_4, q_5, q_6, q_7, q_8, q_10, q_11, q_12, q_13, q_14, q_20, q_26, q_30, q_40, q_50, q_51, q_56, q_60, q_90, q_99, q_100, q_19]
    rw [if_neg (by rw [nI_leI (by omega) (by omega)]; omega), bE2 (x3_loanf h0 hi hii (by omega))]
    simp (disch := omega) only [nI_ltI, nI_leI, nI_eq, q_okn, nI_clamp, nI_add, pk_mul, pk_sub, pk_div, q_nlt9, q_neg0, q_ne9, q_9ne, q_nle9, q_0, q_1, q_2, q_3, q_4, q_5, q_6, q_7, q_8, q_10, q_11, q_12, q_13, q_14, q_20, q_26, q_30, q_40, q_50, q_51, q_56, q_60, q_90, q_99, q_100, q_19, q_ift, q_ifT, ef, ↓reduceIte, lc_let]
theorem r_459 (h : St M g) : P_L_areCells_459 (nI (tn (g 2) (g 0 0))) (nI (bkm (g 4) (g 0 0))) (nI (tn (g 7) (g 0 1))) (nI 1) M = some (nI 1, M) := by
  obtain ⟨h0, hi, hn, hk, hq⟩ := h
  have a := qm_wo hq
  have b := qm_us hq
  have c := qm_ht hq
  have d := qm_pi hq
  unfold P_L_areCells_459
  simp only [q_0, q_1, q_2, q_3, q_4, q_5, q_6, q_7, q_8, q_10, q_11, q_12, q_13, q_14, q_20, q_26, q_30, q_40, q_50, q_51, q_56, q_60, q_90, q_99, q_100, q_19, q_9L]
  rw [if_neg (show ¬ nI 1 = nI 0 by decide +kernel), bE2 (x3_about7 h0 hi), if_pos rfl, bE2 (x3_about8 h0 hi), a, if_pos rfl, bE2 (x3_about9 h0 hi), if_pos rfl, b, c, d, nI_add, nI_add]
  unfold Cn at hn
  rw [hn, if_pos rfl]
theorem r_277 (h : St M g) : ∀ k i n, i + k = g 0 1 → k < n → P_L_areCells_277 n (nI (tn (g 2) (g 0 0))) (nI (bkm (g 4) (g 0 0))) (nI (tn (g 7) i)) (nI i) M = some (nI 1, M) := by
  have hs := h
  obtain ⟨h0, hi, hn, hk, hq⟩ := h
  have h12 := hi.2.1
  have nl := qm_nl hq
  intro k
  induction k with
  | zero =>
    intro i n hik h1
    obtain ⟨n, rfl⟩ : ∃ q, n = q + 1 := ⟨n - 1, by omega⟩
    have hie : i = g 0 1 := by omega
    have r0 : M 22 0 0 = nI (g 0 2) := hq.1.1
    have nc := qm_nc hq
    have b := qm_us hq
    have c := qm_ht hq
    have d := qm_pi hq
    rw [hie, P_L_areCells_277]
    simp only [q_0, q_1, q_2, q_3, q_4, q_5, q_6, q_7, q_8, q_10, q_11, q_12, q_13, q_14, q_20, q_26, q_30, q_40, q_50, q_51, q_56, q_60, q_90, q_99, q_100, q_19]
    rw [nl, if_pos (by rw [nI_leI (by omega) (by omega)]; exact Nat.le_refl _), bE2 (x3_about0 h0 hi), nc, if_pos rfl, bE2 (x3_about1 h0 hi), nl, if_pos rfl, bE2 (x3_about2 h0 hi), r0, if_pos rfl, bE2 (x3_about3 h0 hi), if_pos rfl, bE2 (x3_about4 h0 hi), d, if_pos rfl, bE2 (x3_about5 h0 hi), b, if_pos rfl, bE2 (x3_about6 h0 hi), c, if_pos rfl]
    exact r_459 hs
  | succ k ih =>
    intro i n hik h1
    obtain ⟨n, rfl⟩ : ∃ q, n = q + 1 := ⟨n - 1, by omega⟩
    have hlt : i < g 0 1 := by omega
    have z := ih (i + 1) n (by omega) (by omega)
    rw [P_L_areCells_277]
    simp only [q_0, q_1, q_2, q_3, q_4, q_5, q_6, q_7, q_8, q_10, q_11, q_12, q_13, q_14, q_20, q_26, q_30, q_40, q_50, q_51, q_56, q_60, q_90, q_99, q_100, q_19]
    rw [nl, if_neg (by rw [nI_leI (by omega) (by omega)]; omega), r_288 hs _ _ _ hlt 4 0 lc_FU (by omega) (q_FUn (by omega))]
    exact z
theorem q_shl0 : ∀ c, c < 8 → (nI 0 <<< (nI c &&& 31)) = nI 0 := by decide +kernel
theorem r_118 (h : St M g) (K : Int32 → Int32 → Int32 → lc_MM → Option (Int32 × lc_MM)) {c a b : Nat} (hc : c < g 0 0) : P_L_areCells_118 K (nI a) (nI b) (nI c) (nI (5 * c)) (nI (ow g 6 c (g 0 1))) (nI (ib g c (g 0 1))) (nI (kd g c)) M = K (nI (a + g 2 c)) (nI (if g 4 c < 3 then b else b ||| 2 ^ c)) (nI (c + 1)) M := by
  obtain ⟨h0, hi, hn, hk, hq⟩ := h
  have h6 := hq.2.2.2.2
  have c0 := qm_c0 hq hc
  have c1 := qm_c1 hq hc
  have c2 := qm_c2 hq hc
  have c3 := qm_c3 hq hc
  have c4 := qm_c4 hq hc
  have eb : (nI 1 <<< (nI c &&& 31)) = nI (2 ^ c) := bit_nI c (by omega)
  have ez := q_shl0 c (by omega)
  unfold P_L_areCells_118
  simp only [q_0, q_1, q_2, q_3, q_4, q_5, q_6, q_7, q_8, q_10, q_11, q_12, q_13, q_14, q_20, q_26, q_30, q_40, q_50, q_51, q_56, q_60, q_90, q_99, q_100, q_19]
  rw [bE2 (x3_cell0 h0 hi hc)]
  simp (disch := omega) only [nI_ltI, nI_leI, nI_eq, q_okn, nI_clamp, nI_add, pk_mul, pk_sub, pk_div, q_nlt9, q_neg0, q_ne9, q_9ne, q_nle9, q_0, q_1, q_2, q_3, q_4, q_5, q_6, q_7, q_8, q_10, q_11, q_12, q_13, q_14, q_20, q_26, q_30, q_40, q_50, q_51, q_56, q_60, q_90, q_99, q_100, q_19, q_ift, q_ifT, c0, ↓reduceIte]
  rw [bE2 (x3_cell1 h0 hi hc)]
  simp (disch := omega) only [nI_ltI, nI_leI, nI_eq, q_okn, nI_clamp, nI_add, pk_mul, pk_sub, pk_div, q_nlt9, q_neg0, q_ne9, q_9ne, q_nle9, q_0, q_1, q_2, q_3, q_4, q_5, q_6, q_7, q_8, q_10, q_11, q_12, q_13, q_14, q_20, q_26, q_30, q_40, q_50, q_51, q_56, q_60, q_90, q_99, q_100, q_19, q_ift, q_ifT, c1, ↓reduceIte]
  rw [bE2 (x3_cell2 h0 hi hc)]
  simp (disch := omega) only [nI_ltI, nI_leI, nI_eq, q_okn, nI_clamp, nI_add, pk_mul, pk_sub, pk_div, q_nlt9, q_neg0, q_ne9, q_9ne, q_nle9, q_0, q_1, q_2, q_3, q_4, q_5, q_6, q_7, q_8, q_10, q_11, q_12, q_13, q_14, q_20, q_26, q_30, q_40, q_50, q_51, q_56, q_60, q_90, q_99, q_100, q_19, q_ift, q_ifT, c2, ↓reduceIte]
  rw [bE2 (x3_cell3 h0 hi hc)]
  simp (disch := omega) only [nI_ltI, nI_leI, nI_eq, q_okn, nI_clamp, nI_add, pk_mul, pk_sub, pk_div, q_nlt9, q_neg0, q_ne9, q_9ne, q_nle9, q_0, q_1, q_2, q_3, q_4, q_5, q_6, q_7, q_8, q_10, q_11, q_12, q_13, q_14, q_20, q_26, q_30, q_40, q_50, q_51, q_56, q_60, q_90, q_99, q_100, q_19, q_ift, q_ifT, c3, ↓reduceIte]
  rw [bE2 (x3_cell4 h0 hi hc), if_pos rfl, bE2 (x3_cell5 h0 hi hc), bE (l_gets hq hi (show c < 8 by omega)), if_pos rfl, bE2 (x3_cell6 h0 hi hc), if_pos rfl, bE2 (x3_cell7 h0 hi hc), if_pos rfl]
  by_cases h3 : g 4 c < 3
  · rw [if_pos h3] at c4 ⊢
    simp (disch := omega) only [nI_ltI, nI_leI, nI_eq, q_okn, nI_clamp, nI_add, pk_mul, pk_sub, pk_div, q_nlt9, q_neg0, q_ne9, q_9ne, q_nle9, q_0, q_1, q_2, q_3, q_4, q_5, q_6, q_7, q_8, q_10, q_11, q_12, q_13, q_14, q_20, q_26, q_30, q_40, q_50, q_51, q_56, q_60, q_90, q_99, q_100, q_19, q_ift, q_ifT, c1, c4, lc_let, ez, nI_or, Nat.or_zero]
  · rw [if_neg h3] at c4 ⊢
    simp (disch := omega) only [nI_ltI, nI_leI, nI_eq, q_okn, nI_clamp, nI_add, pk_mul, pk_sub, pk_div, q_nlt9, q_neg0, q_ne9, q_9ne, q_nle9, q_0, q_1, q_2, q_3, q_4, q_5, q_6, q_7, q_8, q_10, q_11, q_12, q_13, q_14, q_20, q_26, q_30, q_40, q_50, q_51, q_56, q_60, q_90, q_99, q_100, q_19, q_ift, q_ifT, c1, c4, lc_let, eb, nI_or]
theorem r_39 (h : St M g) (K : Int32 → Int32 → Int32 → lc_MM → Option (Int32 × lc_MM)) {c a b : Nat} (hc : c < g 0 0) : ∀ k i n, i + k = g 0 1 → k < n → P_L_areCells_39 K n (nI a) (nI b) (nI c) (nI (5 * c)) (nI (ow g 6 c (g 0 1))) (nI (ib g c i)) (nI i) M = K (nI (a + g 2 c)) (nI (if g 4 c < 3 then b else b ||| 2 ^ c)) (nI (c + 1)) M := by
  have hs := h
  obtain ⟨h0, hi, hn, hk, hq⟩ := h
  have h12 := hi.2.1
  have h6 := hq.2.2.2.2
  have nl := qm_nl hq
  intro k
  induction k with
  | zero =>
    intro i n hik h1
    obtain ⟨n, rfl⟩ : ∃ q, n = q + 1 := ⟨n - 1, by omega⟩
    have hie : i = g 0 1 := by omega
    have c3 := qm_c3 hq hc
    have c4 := qm_c4 hq hc
    have hcl := hi.2.2.1 c hc
    have how := ow_le hi 6 c (g 0 1) (Nat.le_refl _)
    have R := r_118 hs K (a := a) (b := b) hc
    rw [hie, P_L_areCells_39]
    simp only [q_0, q_1, q_2, q_3, q_4, q_5, q_6, q_7, q_8, q_10, q_11, q_12, q_13, q_14, q_20, q_26, q_30, q_40, q_50, q_51, q_56, q_60, q_90, q_99, q_100, q_19]
    rw [nl, if_pos (by rw [nI_leI (by omega) (by omega)]; exact Nat.le_refl _)]
    unfold kd at R
    by_cases h3 : g 4 c < 3
    · rw [if_pos h3] at c4 R
      by_cases h4 : g 4 c ≤ 0
      · rw [if_pos h4] at R
        by_cases h5 : ow g 6 c (g 0 1) ≤ 0
        · rw [if_pos h5] at R
          simp (disch := omega) only [nI_ltI, nI_leI, nI_eq, q_okn, nI_clamp, nI_add, pk_mul, pk_sub, pk_div, q_nlt9, q_neg0, q_ne9, q_9ne, q_nle9, q_0, q_1, q_2, q_3, q_4, q_5, q_6, q_7, q_8, q_10, q_11, q_12, q_13, q_14, q_20, q_26, q_30, q_40, q_50, q_51, q_56, q_60, q_90, q_99, q_100, q_19, q_ift, q_ifT, c4, c3, h4, h5, ↓reduceIte, Nat.zero_ne_one]
          exact R
        · rw [if_neg h5] at R
          simp (disch := omega) only [nI_ltI, nI_leI, nI_eq, q_okn, nI_clamp, nI_add, pk_mul, pk_sub, pk_div, q_nlt9, q_neg0, q_ne9, q_9ne, q_nle9, q_0, q_1, q_2, q_3, q_4, q_5, q_6, q_7, q_8, q_10, q_11, q_12, q_13, q_14, q_20, q_26, q_30, q_40, q_50, q_51, q_56, q_60, q_90, q_99, q_100, q_19, q_ift, q_ifT, c4, c3, h4, h5, ↓reduceIte, Nat.zero_ne_one]
          exact R
      · rw [if_neg h4] at R
        simp (disch := omega) only [nI_ltI, nI_leI, nI_eq, q_okn, nI_clamp, nI_add, pk_mul, pk_sub, pk_div, q_nlt9, q_neg0, q_ne9, q_9ne, q_nle9, q_0, q_1, q_2, q_3, q_4, q_5, q_6, q_7, q_8, q_10, q_11, q_12, q_13, q_14, q_20, q_26, q_30, q_40, q_50, q_51, q_56, q_60, q_90, q_99, q_100, q_19, q_ift, q_ifT, c4, c3, h4, ↓reduceIte, Nat.zero_ne_one]
        exact R
    · rw [if_neg h3] at c4
      rw [if_neg (show ¬ g 4 c < 3 from h3)] at R
      simp (disch := omega) only [nI_ltI, nI_leI, nI_eq, q_okn, nI_clamp, nI_add, pk_mul, pk_sub, pk_div, q_nlt9, q_neg0, q_ne9, q_9ne, q_nle9, q_0, q_1, q_2, q_3, q_4, q_5, q_6, q_7, q_8, q_10, q_11, q_12, q_13, q_14, q_20, q_26, q_30, q_40, q_50, q_51, q_56, q_60, q_90, q_99, q_100, q_19, q_ift, q_ifT, c4, ↓reduceIte]
      exact R
  | succ k ih =>
    intro i n hik h1
    obtain ⟨n, rfl⟩ : ∃ q, n = q + 1 := ⟨n - 1, by omega⟩
    have hlt : i < g 0 1 := by omega
    have hl := hi.2.2.2 i hlt
    have z := ih (i + 1) n (by omega) (by omega)
    have l1 := qm_l1 hq hlt
    rw [ib] at z
    rw [← z, P_L_areCells_39]
    simp only [q_0, q_1, q_2, q_3, q_4, q_5, q_6, q_7, q_8, q_10, q_11, q_12, q_13, q_14, q_20, q_26, q_30, q_40, q_50, q_51, q_56, q_60, q_90, q_99, q_100, q_19]
    simp (disch := omega) only [nI_ltI, nI_leI, nI_eq, q_okn, nI_clamp, nI_add, pk_mul, pk_sub, pk_div, q_nlt9, q_neg0, q_ne9, q_9ne, q_nle9, q_0, q_1, q_2, q_3, q_4, q_5, q_6, q_7, q_8, q_10, q_11, q_12, q_13, q_14, q_20, q_26, q_30, q_40, q_50, q_51, q_56, q_60, q_90, q_99, q_100, q_19, nl, l1, Nat.not_le.mpr hlt, ↓reduceIte, q_ift, q_ifT, P_L_areCells_72, lc_let]
    by_cases hb : g 6 i = c
    · rw [if_pos hb, if_pos hb, bE (l_interest hq hi hlt), nI_add]
    · rw [if_neg hb, if_neg hb]
theorem r_9 (h : St M g) : ∀ k c n, c + k = g 0 0 → k < n → P_L_areCells_9 n (nI (tn (g 2) c)) (nI (bkm (g 4) c)) (nI c) M = some (nI 1, M) := by
  have hs := h
  obtain ⟨h0, hi, hn, hk, hq⟩ := h
  have h12 := hi.2.1
  have h6 := hq.2.2.2.2
  have nc := qm_nc hq
  intro k
  induction k with
  | zero =>
    intro c n hck h1
    obtain ⟨n, rfl⟩ : ∃ q, n = q + 1 := ⟨n - 1, by omega⟩
    have hce : c = g 0 0 := by omega
    have z := r_277 hs (g 0 1) 0 lc_FU (by omega) (q_FUn (by omega))
    rw [hce, P_L_areCells_9]
    simp only [q_0, q_1, q_2, q_3, q_4, q_5, q_6, q_7, q_8, q_10, q_11, q_12, q_13, q_14, q_20, q_26, q_30, q_40, q_50, q_51, q_56, q_60, q_90, q_99, q_100, q_19]
    rw [nc, if_pos (by rw [nI_leI (by omega) (by omega)]; exact Nat.le_refl _)]
    exact z
  | succ k ih =>
    intro c n hck h1
    obtain ⟨n, rfl⟩ : ∃ q, n = q + 1 := ⟨n - 1, by omega⟩
    have hlt : c < g 0 0 := by omega
    have z := ih (c + 1) n (by omega) (by omega)
    have R := r_39 hs (fun x4 x5 x6 M => P_L_areCells_9 n x4 x5 x6 M) (a := tn (g 2) c) (b := bkm (g 4) c) hlt (g 0 1) 0 lc_FU (by omega) (q_FUn (by omega))
    rw [bkm] at z
    rw [P_L_areCells_9]
    simp only [q_0, q_1, q_2, q_3, q_4, q_5, q_6, q_7, q_8, q_10, q_11, q_12, q_13, q_14, q_20, q_26, q_30, q_40, q_50, q_51, q_56, q_60, q_90, q_99, q_100, q_19]
    rw [nc, if_neg (by rw [nI_leI (by omega) (by omega)]; omega)]
    simp only [lc_let, pk_mul]
    rw [bE (l_owes hq hi (show c < 8 by omega))]
    exact R.trans z
/-- all that the law compares is so -/
theorem r_are (h : St M g) : P_L_areCells M = some (nI 1, M) := by
  have h6 := h.2.2.2.2.2.2.2.2
  exact r_9 h (g 0 0) 0 lc_FU (by omega) (q_FUn (by omega))
