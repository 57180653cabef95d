abbrev rm_X4_thrown : Room := { frames := 0, cells := 0, slots := 0, locals := 0 }
def P_X4_thrown   (s : lc_St) : Option (Int32) :=
  some (s 0 0)
set_option maxRecDepth 100000 in
set_option maxHeartbeats 4000000 in
theorem c_X4_thrown (S : lc_Se) (l : Launch) (M : lc_MM)   (s : lc_St) (out : Int32) (h : P_X4_thrown  s = some out) : lc_MI S l yX4_thrown cX4_thrown 1 (some .int) rm_X4_thrown [.ref (lc_ad S 197)] (va_up M 22 s) out (va_up M 22 s) := by
  refine lc_mkI (own := RX4) pn_RX4 rfl (Nat.le_of_ble_eq_true rfl) (lo := [(0, .ref (lc_ad S 197))]) rfl (fun X hX C => ?_)
  rw [P_X4_thrown] at h
  refine lc_aload_n C (pc' := 1) 0 dX4_thrown_0 rfl rfl ?_
  refine lc_g197_thrown C (pc' := 4) (va_up_self _ _ _) dX4_thrown_1 kf_RX4_35 rfl ?_
  obtain rfl := Option.some.inj h
  exact lc_iret C rfl dX4_thrown_4
abbrev rm_X4_in : Room := { frames := 0, cells := 0, slots := 0, locals := 0 }
def P_X4_in  (x0 : Int32) (x1 : Int32) (x2 : Int32)  : Option (Int32) :=
  if x0 < x1 then some (0 : Int32) else if x2 < x0 then some (0 : Int32) else some (1 : Int32)
set_option maxRecDepth 100000 in
set_option maxHeartbeats 4000000 in
theorem c_X4_in (S : lc_Se) (l : Launch) (M : lc_MM)  (x0 : Int32) (x1 : Int32) (x2 : Int32)  (out : Int32) (h : P_X4_in x0 x1 x2  = some out) : lc_MI S l yX4_in cX4_in 3 (some .boolean) rm_X4_in [.int x0, .int x1, .int x2] M out M := by
  refine lc_mkI (own := RX4) pn_RX4 rfl (Nat.le_of_ble_eq_true rfl) (lo := [(0, .int x0), (1, .int x1), (2, .int x2)]) rfl (fun X hX C => ?_)
  rw [P_X4_in] at h
  refine lc_iload_n C (pc' := 1) 0 dX4_in_0 rfl rfl ?_
  refine lc_iload_n C (pc' := 2) 1 dX4_in_1 rfl rfl ?_
  refine lc_icmp_lt C (pc' := 5) (tgt := 14) dX4_in_2 (by decide) rfl (fun c2 => ?_) (fun c2 => ?_)
  · have h := (lc_if2 h).1 c2
    refine lc_iconst C (pc' := 15) (v := (0 : Int32)) dX4_in_14 (by decide) rfl ?_
    obtain rfl := Option.some.inj h
    exact lc_zret C rfl (Or.inl rfl) dX4_in_15
  · have h := (lc_if2 h).2 c2
    refine lc_iload_n C (pc' := 6) 0 dX4_in_5 rfl rfl ?_
    refine lc_iload_n C (pc' := 7) 2 dX4_in_6 rfl rfl ?_
    refine lc_icmp_gt C (pc' := 10) (tgt := 14) dX4_in_7 (by decide) rfl (fun c7 => ?_) (fun c7 => ?_)
    · have h := (lc_if2 h).1 c7
      refine lc_iconst C (pc' := 15) (v := (0 : Int32)) dX4_in_14 (by decide) rfl ?_
      obtain rfl := Option.some.inj h
      exact lc_zret C rfl (Or.inl rfl) dX4_in_15
    · have h := (lc_if2 h).2 c7
      refine lc_iconst C (pc' := 11) (v := (1 : Int32)) dX4_in_10 (by decide) rfl ?_
      refine lc_goto C (tgt := 15) dX4_in_11 (by decide) ?_
      obtain rfl := Option.some.inj h
      exact lc_zret C rfl (Or.inr rfl) dX4_in_15
abbrev rm_X4_of : Room := { frames := 0, cells := 0, slots := 0, locals := 0 }
def P_X4_of  (x1 : Int32) (x2 : Int32) (s : lc_St) : Option (Int32) :=
  lc_if (lc_ok (((7 : Int32) + ((5 : Int32) * x1)) + x2) 107) (some (s 1 (((7 : Int32) + ((5 : Int32) * x1)) + x2).toNatClampNeg))
set_option maxRecDepth 100000 in
set_option maxHeartbeats 4000000 in
theorem c_X4_of (S : lc_Se) (l : Launch) (M : lc_MM)  (x1 : Int32) (x2 : Int32) (s : lc_St) (out : Int32) (h : P_X4_of x1 x2 s = some out) : lc_MI S l yX4_of cX4_of 3 (some .int) rm_X4_of [.ref (lc_ad S 197), .int x1, .int x2] (va_up M 22 s) out (va_up M 22 s) := by
  refine lc_mkI (own := RX4) pn_RX4 rfl (Nat.le_of_ble_eq_true rfl) (lo := [(0, .ref (lc_ad S 197)), (1, .int x1), (2, .int x2)]) rfl (fun X hX C => ?_)
  rw [P_X4_of] at h
  refine lc_aload_n C (pc' := 1) 0 dX4_of_0 rfl rfl ?_
  refine lc_g197_now C (pc' := 4) (va_up_self _ _ _) dX4_of_1 kf_RX4_7 rfl ?_
  refine lc_bipush C (pc' := 6) (v := (7 : Int32)) dX4_of_4 (by decide) rfl ?_
  refine lc_iconst C (pc' := 7) (v := (5 : Int32)) dX4_of_6 (by decide) rfl ?_
  refine lc_iload_n C (pc' := 8) 1 dX4_of_7 rfl rfl ?_
  refine lc_imul C (pc' := 9) dX4_of_8 rfl ?_
  refine lc_iadd C (pc' := 10) dX4_of_9 rfl ?_
  refine lc_iload_n C (pc' := 11) 2 dX4_of_10 rfl rfl ?_
  refine lc_iadd C (pc' := 12) dX4_of_11 rfl ?_
  obtain ⟨hi12, h⟩ := lc_ife h
  refine lc_ld198 C (pc' := 13) (jj := (((7 : Int32) + ((5 : Int32) * x1)) + x2).toNatClampNeg) (va_up_self _ _ _) hi12 rfl dX4_of_12 rfl ?_
  obtain rfl := Option.some.inj h
  exact lc_iret C rfl dX4_of_13
abbrev rm_X4_more : Room := { frames := 0, cells := 0, slots := 0, locals := 0 }
def P_X4_more  (x1 : Int32) (x2 : Int32) (x3 : Int32) (s : lc_St) : Option (lc_St) :=
  lc_if (lc_ok (((7 : Int32) + ((5 : Int32) * x1)) + x2) 107) (lc_if (lc_ok (((7 : Int32) + ((5 : Int32) * x1)) + x2) 107) (lc_let (lc_ss s 1 ((((7 : Int32) + ((5 : Int32) * x1)) + x2).toNatClampNeg) ((s 1 (((7 : Int32) + ((5 : Int32) * x1)) + x2).toNatClampNeg) + x3)) (fun s1 => some s1)))
set_option maxRecDepth 100000 in
set_option maxHeartbeats 4000000 in
theorem c_X4_more (S : lc_Se) (l : Launch) (M : lc_MM)  (x1 : Int32) (x2 : Int32) (x3 : Int32) (s : lc_St) (out : lc_St) (h : P_X4_more x1 x2 x3 s = some out) : lc_MV S l yX4_more cX4_more 4 none rm_X4_more [.ref (lc_ad S 197), .int x1, .int x2, .int x3] (va_up M 22 s)  (va_up M 22 out) := by
  refine lc_mkV (own := RX4) pn_RX4 rfl (Nat.le_of_ble_eq_true rfl) (lo := [(0, .ref (lc_ad S 197)), (1, .int x1), (2, .int x2), (3, .int x3)]) rfl (fun X hX C => ?_)
  rw [P_X4_more] at h
  refine lc_aload_n C (pc' := 1) 0 dX4_more_0 rfl rfl ?_
  refine lc_g197_now C (pc' := 4) (va_up_self _ _ _) dX4_more_1 kf_RX4_7 rfl ?_
  refine lc_bipush C (pc' := 6) (v := (7 : Int32)) dX4_more_4 (by decide) rfl ?_
  refine lc_iconst C (pc' := 7) (v := (5 : Int32)) dX4_more_6 (by decide) rfl ?_
  refine lc_iload_n C (pc' := 8) 1 dX4_more_7 rfl rfl ?_
  refine lc_imul C (pc' := 9) dX4_more_8 rfl ?_
  refine lc_iadd C (pc' := 10) dX4_more_9 rfl ?_
  refine lc_iload_n C (pc' := 11) 2 dX4_more_10 rfl rfl ?_
  refine lc_iadd C (pc' := 12) dX4_more_11 rfl ?_
  refine lc_dup2 C (pc' := 13) dX4_more_12 rfl rfl rfl ?_
  obtain ⟨hi13, h⟩ := lc_ife h
  refine lc_ld198 C (pc' := 14) (jj := (((7 : Int32) + ((5 : Int32) * x1)) + x2).toNatClampNeg) (va_up_self _ _ _) hi13 rfl dX4_more_13 rfl ?_
  refine lc_iload_n C (pc' := 15) 3 dX4_more_14 rfl rfl ?_
  refine lc_iadd C (pc' := 16) dX4_more_15 rfl ?_
  obtain ⟨hi16, h⟩ := lc_ife h
  obtain ⟨s1, es1, h⟩ := lc_let2 h
  refine lc_sd198 C (pc' := 17) (jj := (((7 : Int32) + ((5 : Int32) * x1)) + x2).toNatClampNeg) (M' := (va_up M 22 s1)) (va_up_self _ _ _) hi16 rfl es1 (lc_up_up _ _ _ _) dX4_more_16 rfl ?_
  obtain rfl := Option.some.inj h
  exact lc_vret C rfl dX4_more_17
abbrev rm_X4_ofLoan : Room := { frames := 0, cells := 0, slots := 0, locals := 0 }
def P_X4_ofLoan  (x1 : Int32) (x2 : Int32) (s : lc_St) : Option (Int32) :=
  lc_if (lc_ok (((47 : Int32) + ((5 : Int32) * x1)) + x2) 107) (some (s 1 (((47 : Int32) + ((5 : Int32) * x1)) + x2).toNatClampNeg))
set_option maxRecDepth 100000 in
set_option maxHeartbeats 4000000 in
theorem c_X4_ofLoan (S : lc_Se) (l : Launch) (M : lc_MM)  (x1 : Int32) (x2 : Int32) (s : lc_St) (out : Int32) (h : P_X4_ofLoan x1 x2 s = some out) : lc_MI S l yX4_ofLoan cX4_ofLoan 3 (some .int) rm_X4_ofLoan [.ref (lc_ad S 197), .int x1, .int x2] (va_up M 22 s) out (va_up M 22 s) := by
  refine lc_mkI (own := RX4) pn_RX4 rfl (Nat.le_of_ble_eq_true rfl) (lo := [(0, .ref (lc_ad S 197)), (1, .int x1), (2, .int x2)]) rfl (fun X hX C => ?_)
  rw [P_X4_ofLoan] at h
  refine lc_aload_n C (pc' := 1) 0 dX4_ofLoan_0 rfl rfl ?_
  refine lc_g197_now C (pc' := 4) (va_up_self _ _ _) dX4_ofLoan_1 kf_RX4_7 rfl ?_
  refine lc_bipush C (pc' := 6) (v := (47 : Int32)) dX4_ofLoan_4 (by decide) rfl ?_
  refine lc_iconst C (pc' := 7) (v := (5 : Int32)) dX4_ofLoan_6 (by decide) rfl ?_
  refine lc_iload_n C (pc' := 8) 1 dX4_ofLoan_7 rfl rfl ?_
  refine lc_imul C (pc' := 9) dX4_ofLoan_8 rfl ?_
  refine lc_iadd C (pc' := 10) dX4_ofLoan_9 rfl ?_
  refine lc_iload_n C (pc' := 11) 2 dX4_ofLoan_10 rfl rfl ?_
  refine lc_iadd C (pc' := 12) dX4_ofLoan_11 rfl ?_
  obtain ⟨hi12, h⟩ := lc_ife h
  refine lc_ld198 C (pc' := 13) (jj := (((47 : Int32) + ((5 : Int32) * x1)) + x2).toNatClampNeg) (va_up_self _ _ _) hi12 rfl dX4_ofLoan_12 rfl ?_
  obtain rfl := Option.some.inj h
  exact lc_iret C rfl dX4_ofLoan_13
abbrev rm_X4_isCell : Room := { frames := 1, cells := 0, slots := 0, locals := 22 }
def P_X4_isCell  (x1 : Int32) (s : lc_St) : Option (Int32) :=
  lc_bd (P_X4_in x1 (0 : Int32) ((s 1 1) - (1 : Int32))) (fun r10 => lc_if (r10 = 0 ∨ r10 = 1) (some r10))
set_option maxRecDepth 100000 in
set_option maxHeartbeats 4000000 in
theorem c_X4_isCell (S : lc_Se) (l : Launch) (M : lc_MM)  (x1 : Int32) (s : lc_St) (out : Int32) (h : P_X4_isCell x1 s = some out) : lc_MI S l yX4_isCell cX4_isCell 2 (some .boolean) rm_X4_isCell [.ref (lc_ad S 197), .int x1] (va_up M 22 s) out (va_up M 22 s) := by
  refine lc_mkI (own := RX4) pn_RX4 rfl (Nat.le_of_ble_eq_true rfl) (lo := [(0, .ref (lc_ad S 197)), (1, .int x1)]) rfl (fun X hX C => ?_)
  rw [P_X4_isCell] at h
  refine lc_iload_n C (pc' := 1) 1 dX4_isCell_0 rfl rfl ?_
  refine lc_iconst C (pc' := 2) (v := (0 : Int32)) dX4_isCell_1 (by decide) rfl ?_
  refine lc_aload_n C (pc' := 3) 0 dX4_isCell_2 rfl rfl ?_
  refine lc_g197_now C (pc' := 6) (va_up_self _ _ _) dX4_isCell_3 kf_RX4_7 rfl ?_
  refine lc_iconst C (pc' := 7) (v := (1 : Int32)) dX4_isCell_6 (by decide) rfl ?_
  refine lc_ld198 C (pc' := 8) (jj := 1) (va_up_self _ _ _) (by decide) (by decide) dX4_isCell_7 rfl ?_
  refine lc_iconst C (pc' := 9) (v := (1 : Int32)) dX4_isCell_8 (by decide) rfl ?_
  refine lc_isub C (pc' := 10) dX4_isCell_9 rfl ?_
  obtain ⟨r10, h10, h⟩ := lc_bde h
  refine lc_csi C (pc' := 13) (r := r10) (M' := (va_up M 22 s)) (As := [.int x1, .int (0 : Int32), .int ((s 1 1) - (1 : Int32))]) (rest := []) (c_X4_in S X.2.1 (va_up M 22 s)   x1 (0 : Int32) ((s 1 1) - (1 : Int32))  r10 h10) kl_RX4_39 rfl rfl (Nat.le_of_ble_eq_true rfl) ⟨Nat.le_of_ble_eq_true rfl, Nat.le_of_ble_eq_true rfl⟩ ⟨rfl, rfl⟩ (lc_z2 _ _) dX4_isCell_10 rfl ?_
  obtain ⟨hb13, h⟩ := lc_ife h
  obtain rfl := Option.some.inj h
  exact lc_zret C rfl hb13 dX4_isCell_13
abbrev rm_X4_isLoan : Room := { frames := 1, cells := 0, slots := 0, locals := 22 }
def P_X4_isLoan  (x1 : Int32) (s : lc_St) : Option (Int32) :=
  lc_bd (P_X4_in x1 (0 : Int32) ((s 1 2) - (1 : Int32))) (fun r10 => lc_if (r10 = 0 ∨ r10 = 1) (some r10))
set_option maxRecDepth 100000 in
set_option maxHeartbeats 4000000 in
theorem c_X4_isLoan (S : lc_Se) (l : Launch) (M : lc_MM)  (x1 : Int32) (s : lc_St) (out : Int32) (h : P_X4_isLoan x1 s = some out) : lc_MI S l yX4_isLoan cX4_isLoan 2 (some .boolean) rm_X4_isLoan [.ref (lc_ad S 197), .int x1] (va_up M 22 s) out (va_up M 22 s) := by
  refine lc_mkI (own := RX4) pn_RX4 rfl (Nat.le_of_ble_eq_true rfl) (lo := [(0, .ref (lc_ad S 197)), (1, .int x1)]) rfl (fun X hX C => ?_)
  rw [P_X4_isLoan] at h
  refine lc_iload_n C (pc' := 1) 1 dX4_isLoan_0 rfl rfl ?_
  refine lc_iconst C (pc' := 2) (v := (0 : Int32)) dX4_isLoan_1 (by decide) rfl ?_
  refine lc_aload_n C (pc' := 3) 0 dX4_isLoan_2 rfl rfl ?_
  refine lc_g197_now C (pc' := 6) (va_up_self _ _ _) dX4_isLoan_3 kf_RX4_7 rfl ?_
  refine lc_iconst C (pc' := 7) (v := (2 : Int32)) dX4_isLoan_6 (by decide) rfl ?_
  refine lc_ld198 C (pc' := 8) (jj := 2) (va_up_self _ _ _) (by decide) (by decide) dX4_isLoan_7 rfl ?_
  refine lc_iconst C (pc' := 9) (v := (1 : Int32)) dX4_isLoan_8 (by decide) rfl ?_
  refine lc_isub C (pc' := 10) dX4_isLoan_9 rfl ?_
  obtain ⟨r10, h10, h⟩ := lc_bde h
  refine lc_csi C (pc' := 13) (r := r10) (M' := (va_up M 22 s)) (As := [.int x1, .int (0 : Int32), .int ((s 1 2) - (1 : Int32))]) (rest := []) (c_X4_in S X.2.1 (va_up M 22 s)   x1 (0 : Int32) ((s 1 2) - (1 : Int32))  r10 h10) kl_RX4_39 rfl rfl (Nat.le_of_ble_eq_true rfl) ⟨Nat.le_of_ble_eq_true rfl, Nat.le_of_ble_eq_true rfl⟩ ⟨rfl, rfl⟩ (lc_z2 _ _) dX4_isLoan_10 rfl ?_
  obtain ⟨hb13, h⟩ := lc_ife h
  obtain rfl := Option.some.inj h
  exact lc_zret C rfl hb13 dX4_isLoan_13
abbrev rm_X4_isSound : Room := { frames := 1, cells := 0, slots := 0, locals := 22 }
def P_X4_isSound  (x1 : Int32) (s : lc_St) : Option (Int32) :=
  lc_bd (P_X4_of x1 (4 : Int32) s) (fun r3 => if r3 = 0 then some (1 : Int32) else some (0 : Int32))
set_option maxRecDepth 100000 in
set_option maxHeartbeats 4000000 in
theorem c_X4_isSound (S : lc_Se) (l : Launch) (M : lc_MM)  (x1 : Int32) (s : lc_St) (out : Int32) (h : P_X4_isSound x1 s = some out) : lc_MI S l yX4_isSound cX4_isSound 2 (some .boolean) rm_X4_isSound [.ref (lc_ad S 197), .int x1] (va_up M 22 s) out (va_up M 22 s) := by
  refine lc_mkI (own := RX4) pn_RX4 rfl (Nat.le_of_ble_eq_true rfl) (lo := [(0, .ref (lc_ad S 197)), (1, .int x1)]) rfl (fun X hX C => ?_)
  rw [P_X4_isSound] at h
  refine lc_aload_n C (pc' := 1) 0 dX4_isSound_0 rfl rfl ?_
  refine lc_iload_n C (pc' := 2) 1 dX4_isSound_1 rfl rfl ?_
  refine lc_iconst C (pc' := 3) (v := (4 : Int32)) dX4_isSound_2 (by decide) rfl ?_
  obtain ⟨r3, h3, h⟩ := lc_bde h
  refine lc_cvi C (pc' := 6) (r := r3) (M' := (va_up M 22 s)) (As := [.int x1, .int (4 : Int32)]) (rest := []) (c_X4_of S X.2.1 M   x1 (4 : Int32) s r3 h3) kl_RX4_43 (lc_at197 S _) rfl rfl rfl rfl (Nat.le_of_ble_eq_true rfl) ⟨Nat.le_of_ble_eq_true rfl, Nat.le_of_ble_eq_true rfl⟩ ⟨rfl, rfl⟩ (lc_z2 _ _) dX4_isSound_3 rfl ?_
  refine lc_if_ne C (pc' := 9) (tgt := 13) dX4_isSound_6 (by decide) rfl (fun c6 => ?_) (fun c6 => ?_)
  · have h := (lc_if2 h).2 c6
    refine lc_iconst C (pc' := 14) (v := (0 : Int32)) dX4_isSound_13 (by decide) rfl ?_
    obtain rfl := Option.some.inj h
    exact lc_zret C rfl (Or.inl rfl) dX4_isSound_14
  · have h := (lc_if2 h).1 c6
    refine lc_iconst C (pc' := 10) (v := (1 : Int32)) dX4_isSound_9 (by decide) rfl ?_
    refine lc_goto C (tgt := 14) dX4_isSound_10 (by decide) ?_
    obtain rfl := Option.some.inj h
    exact lc_zret C rfl (Or.inr rfl) dX4_isSound_14
abbrev rm_X4_layPut : Room := { frames := 0, cells := 0, slots := 0, locals := 0 }
def P_X4_layPut_2  : Nat → Int32 → lc_St → Option (lc_St)
  | 0, _, _ => none
  | n + 1, x1, s =>
    if (107 : Int32) ≤ x1 then some s else lc_if (lc_ok x1 107) (lc_if (lc_ok x1 107) (lc_let (lc_ss s 2 (x1.toNatClampNeg) (s 1 x1.toNatClampNeg)) (fun s1 => lc_let (x1 + (1 : Int32)) (fun x1_20 => P_X4_layPut_2  n x1_20 s1))))
set_option maxRecDepth 100000 in
set_option maxHeartbeats 4000000 in
theorem w_X4_layPut_2 {S : lc_Se} {X : lc_X} (C : lc_C X cX4_layPut RX4 2 none rm_X4_layPut) {M : lc_MM}  (out : lc_St)  : ∀ (n : Nat) (x1 : Int32) (s : lc_St), P_X4_layPut_2  n x1 s = some out → lc_J S X 2 0 0 (lc_QV S X 0 0 (va_up M 22 out)) 2 [(0, .ref (lc_ad S 197)), (1, .int x1)] [] (va_up M 22 s) := by
  intro n
  induction n with
  | zero =>
    intro x1 s h
    rw [P_X4_layPut_2] at h
    cases h
  | succ n ih =>
    intro x1 s h
    rw [P_X4_layPut_2] at h
    refine lc_iload_n C (pc' := 3) 1 dX4_layPut_2 rfl rfl ?_
    refine lc_bipush C (pc' := 5) (v := (107 : Int32)) dX4_layPut_3 (by decide) rfl ?_
    refine lc_icmp_ge C (pc' := 8) (tgt := 26) dX4_layPut_5 (by decide) rfl (fun c5 => ?_) (fun c5 => ?_)
    · have h := (lc_if2 h).1 c5
      obtain rfl := Option.some.inj h
      exact lc_vret C rfl dX4_layPut_26
    · have h := (lc_if2 h).2 c5
      refine lc_aload_n C (pc' := 9) 0 dX4_layPut_8 rfl rfl ?_
      refine lc_g197_put C (pc' := 12) (va_up_self _ _ _) dX4_layPut_9 kf_RX4_13 rfl ?_
      refine lc_iload_n C (pc' := 13) 1 dX4_layPut_12 rfl rfl ?_
      refine lc_aload_n C (pc' := 14) 0 dX4_layPut_13 rfl rfl ?_
      refine lc_g197_now C (pc' := 17) (va_up_self _ _ _) dX4_layPut_14 kf_RX4_7 rfl ?_
      refine lc_iload_n C (pc' := 18) 1 dX4_layPut_17 rfl rfl ?_
      obtain ⟨hi18, h⟩ := lc_ife h
      refine lc_ld198 C (pc' := 19) (jj := x1.toNatClampNeg) (va_up_self _ _ _) hi18 rfl dX4_layPut_18 rfl ?_
      obtain ⟨hi19, h⟩ := lc_ife h
      obtain ⟨s1, es1, h⟩ := lc_let2 h
      refine lc_sd199 C (pc' := 20) (jj := x1.toNatClampNeg) (M' := (va_up M 22 s1)) (va_up_self _ _ _) hi19 rfl es1 (lc_up_up _ _ _ _) dX4_layPut_19 rfl ?_
      obtain ⟨x1_20, e1_20, h⟩ := lc_let2 h
      refine lc_iinc C (pc' := 23) (lo' := [(1, .int x1_20), (0, .ref (lc_ad S 197))]) (q := 1) dX4_layPut_20 rfl (by rw [← e1_20]; rfl) (Nat.le_of_ble_eq_true rfl) rfl rfl ?_
      refine lc_goto C (tgt := 2) dX4_layPut_23 (by decide) ?_
      refine lc_sub (lo' := [(0, .ref (lc_ad S 197)), (1, .int x1_20)]) [1, 0] rfl ?_
      exact ih x1_20 s1 h
def P_X4_layPut   (s : lc_St) : Option (lc_St) :=
  P_X4_layPut_2  lc_FU (0 : Int32) s
set_option maxRecDepth 100000 in
set_option maxHeartbeats 4000000 in
theorem c_X4_layPut (S : lc_Se) (l : Launch) (M : lc_MM)   (s : lc_St) (out : lc_St) (h : P_X4_layPut  s = some out) : lc_MV S l yX4_layPut cX4_layPut 2 none rm_X4_layPut [.ref (lc_ad S 197)] (va_up M 22 s)  (va_up M 22 out) := by
  refine lc_mkV (own := RX4) pn_RX4 rfl (Nat.le_of_ble_eq_true rfl) (lo := [(0, .ref (lc_ad S 197))]) rfl (fun X hX C => ?_)
  rw [P_X4_layPut] at h
  refine lc_iconst C (pc' := 1) (v := (0 : Int32)) dX4_layPut_0 (by decide) rfl ?_
  refine lc_istore_n C (pc' := 2) (lo' := [(1, .int (0 : Int32)), (0, .ref (lc_ad S 197))]) dX4_layPut_1 (Nat.le_of_ble_eq_true rfl) rfl rfl ?_
  refine lc_sub (lo' := [(0, .ref (lc_ad S 197)), (1, .int (0 : Int32))]) [1, 0] rfl ?_
  exact w_X4_layPut_2 C   out  lc_FU (0 : Int32) s h
abbrev rm_X4_putBack : Room := { frames := 0, cells := 0, slots := 0, locals := 0 }
def P_X4_putBack_2  : Nat → Int32 → lc_St → Option (lc_St)
  | 0, _, _ => none
  | n + 1, x1, s =>
    if (107 : Int32) ≤ x1 then some s else lc_if (lc_ok x1 107) (lc_if (lc_ok x1 107) (lc_let (lc_ss s 1 (x1.toNatClampNeg) (s 2 x1.toNatClampNeg)) (fun s1 => lc_let (x1 + (1 : Int32)) (fun x1_20 => P_X4_putBack_2  n x1_20 s1))))
set_option maxRecDepth 100000 in
set_option maxHeartbeats 4000000 in
theorem w_X4_putBack_2 {S : lc_Se} {X : lc_X} (C : lc_C X cX4_putBack RX4 2 none rm_X4_putBack) {M : lc_MM}  (out : lc_St)  : ∀ (n : Nat) (x1 : Int32) (s : lc_St), P_X4_putBack_2  n x1 s = some out → lc_J S X 2 0 0 (lc_QV S X 0 0 (va_up M 22 out)) 2 [(0, .ref (lc_ad S 197)), (1, .int x1)] [] (va_up M 22 s) := by
  intro n
  induction n with
  | zero =>
    intro x1 s h
    rw [P_X4_putBack_2] at h
    cases h
  | succ n ih =>
    intro x1 s h
    rw [P_X4_putBack_2] at h
    refine lc_iload_n C (pc' := 3) 1 dX4_putBack_2 rfl rfl ?_
    refine lc_bipush C (pc' := 5) (v := (107 : Int32)) dX4_putBack_3 (by decide) rfl ?_
    refine lc_icmp_ge C (pc' := 8) (tgt := 26) dX4_putBack_5 (by decide) rfl (fun c5 => ?_) (fun c5 => ?_)
    · have h := (lc_if2 h).1 c5
      obtain rfl := Option.some.inj h
      exact lc_vret C rfl dX4_putBack_26
    · have h := (lc_if2 h).2 c5
      refine lc_aload_n C (pc' := 9) 0 dX4_putBack_8 rfl rfl ?_
      refine lc_g197_now C (pc' := 12) (va_up_self _ _ _) dX4_putBack_9 kf_RX4_7 rfl ?_
      refine lc_iload_n C (pc' := 13) 1 dX4_putBack_12 rfl rfl ?_
      refine lc_aload_n C (pc' := 14) 0 dX4_putBack_13 rfl rfl ?_
      refine lc_g197_put C (pc' := 17) (va_up_self _ _ _) dX4_putBack_14 kf_RX4_13 rfl ?_
      refine lc_iload_n C (pc' := 18) 1 dX4_putBack_17 rfl rfl ?_
      obtain ⟨hi18, h⟩ := lc_ife h
      refine lc_ld199 C (pc' := 19) (jj := x1.toNatClampNeg) (va_up_self _ _ _) hi18 rfl dX4_putBack_18 rfl ?_
      obtain ⟨hi19, h⟩ := lc_ife h
      obtain ⟨s1, es1, h⟩ := lc_let2 h
      refine lc_sd198 C (pc' := 20) (jj := x1.toNatClampNeg) (M' := (va_up M 22 s1)) (va_up_self _ _ _) hi19 rfl es1 (lc_up_up _ _ _ _) dX4_putBack_19 rfl ?_
      obtain ⟨x1_20, e1_20, h⟩ := lc_let2 h
      refine lc_iinc C (pc' := 23) (lo' := [(1, .int x1_20), (0, .ref (lc_ad S 197))]) (q := 1) dX4_putBack_20 rfl (by rw [← e1_20]; rfl) (Nat.le_of_ble_eq_true rfl) rfl rfl ?_
      refine lc_goto C (tgt := 2) dX4_putBack_23 (by decide) ?_
      refine lc_sub (lo' := [(0, .ref (lc_ad S 197)), (1, .int x1_20)]) [1, 0] rfl ?_
      exact ih x1_20 s1 h
def P_X4_putBack   (s : lc_St) : Option (lc_St) :=
  P_X4_putBack_2  lc_FU (0 : Int32) s
set_option maxRecDepth 100000 in
set_option maxHeartbeats 4000000 in
theorem c_X4_putBack (S : lc_Se) (l : Launch) (M : lc_MM)   (s : lc_St) (out : lc_St) (h : P_X4_putBack  s = some out) : lc_MV S l yX4_putBack cX4_putBack 2 none rm_X4_putBack [.ref (lc_ad S 197)] (va_up M 22 s)  (va_up M 22 out) := by
  refine lc_mkV (own := RX4) pn_RX4 rfl (Nat.le_of_ble_eq_true rfl) (lo := [(0, .ref (lc_ad S 197))]) rfl (fun X hX C => ?_)
  rw [P_X4_putBack] at h
  refine lc_iconst C (pc' := 1) (v := (0 : Int32)) dX4_putBack_0 (by decide) rfl ?_
  refine lc_istore_n C (pc' := 2) (lo' := [(1, .int (0 : Int32)), (0, .ref (lc_ad S 197))]) dX4_putBack_1 (Nat.le_of_ble_eq_true rfl) rfl rfl ?_
  refine lc_sub (lo' := [(0, .ref (lc_ad S 197)), (1, .int (0 : Int32))]) [1, 0] rfl ?_
  exact w_X4_putBack_2 C   out  lc_FU (0 : Int32) s h
abbrev rm_X4_remember : Room := { frames := 0, cells := 0, slots := 0, locals := 0 }
def P_X4_remember_51  : Nat → Int32 → lc_St → Option (lc_St)
  | 0, _, _ => none
  | n + 1, x1, s =>
    if (107 : Int32) ≤ x1 then lc_let (lc_ss s 0 1 ((s 0 1) + (1 : Int32))) (fun s1 => some s1) else lc_if (lc_ok x1 107) (lc_if (lc_ok (((107 : Int32) * (s 0 1)) + x1) 1498) (lc_let (lc_ss s 5 ((((107 : Int32) * (s 0 1)) + x1).toNatClampNeg) (s 1 x1.toNatClampNeg)) (fun s2 => lc_let (x1 + (1 : Int32)) (fun x1_77 => P_X4_remember_51  n x1_77 s2))))
set_option maxRecDepth 100000 in
set_option maxHeartbeats 4000000 in
theorem w_X4_remember_51 {S : lc_Se} {X : lc_X} (C : lc_C X cX4_remember RX4 2 none rm_X4_remember) {M : lc_MM}  (out : lc_St)  : ∀ (n : Nat) (x1 : Int32) (s : lc_St), P_X4_remember_51  n x1 s = some out → lc_J S X 2 0 0 (lc_QV S X 0 0 (va_up M 22 out)) 51 [(0, .ref (lc_ad S 197)), (1, .int x1)] [] (va_up M 22 s) := by
  intro n
  induction n with
  | zero =>
    intro x1 s h
    rw [P_X4_remember_51] at h
    cases h
  | succ n ih =>
    intro x1 s h
    rw [P_X4_remember_51] at h
    refine lc_iload_n C (pc' := 52) 1 dX4_remember_51 rfl rfl ?_
    refine lc_bipush C (pc' := 54) (v := (107 : Int32)) dX4_remember_52 (by decide) rfl ?_
    refine lc_icmp_ge C (pc' := 57) (tgt := 83) dX4_remember_54 (by decide) rfl (fun c54 => ?_) (fun c54 => ?_)
    · have h := (lc_if2 h).1 c54
      refine lc_aload_n C (pc' := 84) 0 dX4_remember_83 rfl rfl ?_
      refine lc_dup C (pc' := 85) dX4_remember_84 rfl rfl ?_
      refine lc_g197_acts C (pc' := 88) (va_up_self _ _ _) dX4_remember_85 kf_RX4_47 rfl ?_
      refine lc_iconst C (pc' := 89) (v := (1 : Int32)) dX4_remember_88 (by decide) rfl ?_
      refine lc_iadd C (pc' := 90) dX4_remember_89 rfl ?_
      obtain ⟨s1, es1, h⟩ := lc_let2 h
      refine lc_p197_acts C (pc' := 93) (M' := (va_up M 22 s1)) (va_up_self _ _ _) es1 (lc_up_up _ _ _ _) dX4_remember_90 kf_RX4_47 rfl ?_
      obtain rfl := Option.some.inj h
      exact lc_vret C rfl dX4_remember_93
    · have h := (lc_if2 h).2 c54
      refine lc_aload_n C (pc' := 58) 0 dX4_remember_57 rfl rfl ?_
      refine lc_g197_was C (pc' := 61) (va_up_self _ _ _) dX4_remember_58 kf_RX4_23 rfl ?_
      refine lc_bipush C (pc' := 63) (v := (107 : Int32)) dX4_remember_61 (by decide) rfl ?_
      refine lc_aload_n C (pc' := 64) 0 dX4_remember_63 rfl rfl ?_
      refine lc_g197_acts C (pc' := 67) (va_up_self _ _ _) dX4_remember_64 kf_RX4_47 rfl ?_
      refine lc_imul C (pc' := 68) dX4_remember_67 rfl ?_
      refine lc_iload_n C (pc' := 69) 1 dX4_remember_68 rfl rfl ?_
      refine lc_iadd C (pc' := 70) dX4_remember_69 rfl ?_
      refine lc_aload_n C (pc' := 71) 0 dX4_remember_70 rfl rfl ?_
      refine lc_g197_now C (pc' := 74) (va_up_self _ _ _) dX4_remember_71 kf_RX4_7 rfl ?_
      refine lc_iload_n C (pc' := 75) 1 dX4_remember_74 rfl rfl ?_
      obtain ⟨hi75, h⟩ := lc_ife h
      refine lc_ld198 C (pc' := 76) (jj := x1.toNatClampNeg) (va_up_self _ _ _) hi75 rfl dX4_remember_75 rfl ?_
      obtain ⟨hi76, h⟩ := lc_ife h
      obtain ⟨s2, es2, h⟩ := lc_let2 h
      refine lc_sd202 C (pc' := 77) (jj := (((107 : Int32) * (s 0 1)) + x1).toNatClampNeg) (M' := (va_up M 22 s2)) (va_up_self _ _ _) hi76 rfl es2 (lc_up_up _ _ _ _) dX4_remember_76 rfl ?_
      obtain ⟨x1_77, e1_77, h⟩ := lc_let2 h
      refine lc_iinc C (pc' := 80) (lo' := [(1, .int x1_77), (0, .ref (lc_ad S 197))]) (q := 1) dX4_remember_77 rfl (by rw [← e1_77]; rfl) (Nat.le_of_ble_eq_true rfl) rfl rfl ?_
      refine lc_goto C (tgt := 51) dX4_remember_80 (by decide) ?_
      refine lc_sub (lo' := [(0, .ref (lc_ad S 197)), (1, .int x1_77)]) [1, 0] rfl ?_
      exact ih x1_77 s2 h
def P_X4_remember_49  (s : lc_St) : Option (lc_St) :=
  P_X4_remember_51  lc_FU (0 : Int32) s
set_option maxRecDepth 100000 in
set_option maxHeartbeats 4000000 in
theorem w_X4_remember_49 {S : lc_Se} {X : lc_X} (C : lc_C X cX4_remember RX4 2 none rm_X4_remember) {M : lc_MM}  (out : lc_St)  : ∀ (s : lc_St), P_X4_remember_49  s = some out → lc_J S X 2 0 0 (lc_QV S X 0 0 (va_up M 22 out)) 49 [(0, .ref (lc_ad S 197))] [] (va_up M 22 s) := by
  intro s h
  rw [P_X4_remember_49] at h
  refine lc_iconst C (pc' := 50) (v := (0 : Int32)) dX4_remember_49 (by decide) rfl ?_
  refine lc_istore_n C (pc' := 51) (lo' := [(1, .int (0 : Int32)), (0, .ref (lc_ad S 197))]) dX4_remember_50 (Nat.le_of_ble_eq_true rfl) rfl rfl ?_
  refine lc_sub (lo' := [(0, .ref (lc_ad S 197)), (1, .int (0 : Int32))]) [1, 0] rfl ?_
  exact w_X4_remember_51 C   out  lc_FU (0 : Int32) s h
def P_X4_remember_11  : Nat → Int32 → lc_St → Option (lc_St)
  | 0, _, _ => none
  | n + 1, x1, s =>
    if (1391 : Int32) ≤ x1 then lc_let (lc_ss s 0 1 ((s 0 1) - (1 : Int32))) (fun s3 => P_X4_remember_49   s3) else lc_if (lc_ok (x1 + (107 : Int32)) 1498) (lc_if (lc_ok x1 1498) (lc_let (lc_ss s 5 (x1.toNatClampNeg) (s 5 (x1 + (107 : Int32)).toNatClampNeg)) (fun s4 => lc_let (x1 + (1 : Int32)) (fun x1_33 => P_X4_remember_11  n x1_33 s4))))
set_option maxRecDepth 100000 in
set_option maxHeartbeats 4000000 in
theorem w_X4_remember_11 {S : lc_Se} {X : lc_X} (C : lc_C X cX4_remember RX4 2 none rm_X4_remember) {M : lc_MM}  (out : lc_St)  : ∀ (n : Nat) (x1 : Int32) (s : lc_St), P_X4_remember_11  n x1 s = some out → lc_J S X 2 0 0 (lc_QV S X 0 0 (va_up M 22 out)) 11 [(0, .ref (lc_ad S 197)), (1, .int x1)] [] (va_up M 22 s) := by
  intro n
  induction n with
  | zero =>
    intro x1 s h
    rw [P_X4_remember_11] at h
    cases h
  | succ n ih =>
    intro x1 s h
    rw [P_X4_remember_11] at h
    refine lc_iload_n C (pc' := 12) 1 dX4_remember_11 rfl rfl ?_
    refine lc_sipush C (pc' := 15) (v := (1391 : Int32)) dX4_remember_12 (by decide) rfl ?_
    refine lc_icmp_ge C (pc' := 18) (tgt := 39) dX4_remember_15 (by decide) rfl (fun c15 => ?_) (fun c15 => ?_)
    · have h := (lc_if2 h).1 c15
      refine lc_aload_n C (pc' := 40) 0 dX4_remember_39 rfl rfl ?_
      refine lc_dup C (pc' := 41) dX4_remember_40 rfl rfl ?_
      refine lc_g197_acts C (pc' := 44) (va_up_self _ _ _) dX4_remember_41 kf_RX4_47 rfl ?_
      refine lc_iconst C (pc' := 45) (v := (1 : Int32)) dX4_remember_44 (by decide) rfl ?_
      refine lc_isub C (pc' := 46) dX4_remember_45 rfl ?_
      obtain ⟨s3, es3, h⟩ := lc_let2 h
      refine lc_p197_acts C (pc' := 49) (M' := (va_up M 22 s3)) (va_up_self _ _ _) es3 (lc_up_up _ _ _ _) dX4_remember_46 kf_RX4_47 rfl ?_
      refine lc_sub (lo' := [(0, .ref (lc_ad S 197))]) [0] rfl ?_
      exact w_X4_remember_49 C   out   s3 h
    · have h := (lc_if2 h).2 c15
      refine lc_aload_n C (pc' := 19) 0 dX4_remember_18 rfl rfl ?_
      refine lc_g197_was C (pc' := 22) (va_up_self _ _ _) dX4_remember_19 kf_RX4_23 rfl ?_
      refine lc_iload_n C (pc' := 23) 1 dX4_remember_22 rfl rfl ?_
      refine lc_aload_n C (pc' := 24) 0 dX4_remember_23 rfl rfl ?_
      refine lc_g197_was C (pc' := 27) (va_up_self _ _ _) dX4_remember_24 kf_RX4_23 rfl ?_
      refine lc_iload_n C (pc' := 28) 1 dX4_remember_27 rfl rfl ?_
      refine lc_bipush C (pc' := 30) (v := (107 : Int32)) dX4_remember_28 (by decide) rfl ?_
      refine lc_iadd C (pc' := 31) dX4_remember_30 rfl ?_
      obtain ⟨hi31, h⟩ := lc_ife h
      refine lc_ld202 C (pc' := 32) (jj := (x1 + (107 : Int32)).toNatClampNeg) (va_up_self _ _ _) hi31 rfl dX4_remember_31 rfl ?_
      obtain ⟨hi32, h⟩ := lc_ife h
      obtain ⟨s4, es4, h⟩ := lc_let2 h
      refine lc_sd202 C (pc' := 33) (jj := x1.toNatClampNeg) (M' := (va_up M 22 s4)) (va_up_self _ _ _) hi32 rfl es4 (lc_up_up _ _ _ _) dX4_remember_32 rfl ?_
      obtain ⟨x1_33, e1_33, h⟩ := lc_let2 h
      refine lc_iinc C (pc' := 36) (lo' := [(1, .int x1_33), (0, .ref (lc_ad S 197))]) (q := 1) dX4_remember_33 rfl (by rw [← e1_33]; rfl) (Nat.le_of_ble_eq_true rfl) rfl rfl ?_
      refine lc_goto C (tgt := 11) dX4_remember_36 (by decide) ?_
      refine lc_sub (lo' := [(0, .ref (lc_ad S 197)), (1, .int x1_33)]) [1, 0] rfl ?_
      exact ih x1_33 s4 h
def P_X4_remember   (s : lc_St) : Option (lc_St) :=
  if (s 0 1) = (14 : Int32) then P_X4_remember_11  lc_FU (0 : Int32) s else P_X4_remember_49   s
set_option maxRecDepth 100000 in
set_option maxHeartbeats 4000000 in
theorem c_X4_remember (S : lc_Se) (l : Launch) (M : lc_MM)   (s : lc_St) (out : lc_St) (h : P_X4_remember  s = some out) : lc_MV S l yX4_remember cX4_remember 2 none rm_X4_remember [.ref (lc_ad S 197)] (va_up M 22 s)  (va_up M 22 out) := by
  refine lc_mkV (own := RX4) pn_RX4 rfl (Nat.le_of_ble_eq_true rfl) (lo := [(0, .ref (lc_ad S 197))]) rfl (fun X hX C => ?_)
  rw [P_X4_remember] at h
  refine lc_aload_n C (pc' := 1) 0 dX4_remember_0 rfl rfl ?_
  refine lc_g197_acts C (pc' := 4) (va_up_self _ _ _) dX4_remember_1 kf_RX4_47 rfl ?_
  refine lc_bipush C (pc' := 6) (v := (14 : Int32)) dX4_remember_4 (by decide) rfl ?_
  refine lc_icmp_ne C (pc' := 9) (tgt := 49) dX4_remember_6 (by decide) rfl (fun c6 => ?_) (fun c6 => ?_)
  · have h := (lc_if2 h).2 c6
    exact w_X4_remember_49 C   out   s h
  · have h := (lc_if2 h).1 c6
    refine lc_iconst C (pc' := 10) (v := (0 : Int32)) dX4_remember_9 (by decide) rfl ?_
    refine lc_istore_n C (pc' := 11) (lo' := [(1, .int (0 : Int32)), (0, .ref (lc_ad S 197))]) dX4_remember_10 (Nat.le_of_ble_eq_true rfl) rfl rfl ?_
    refine lc_sub (lo' := [(0, .ref (lc_ad S 197)), (1, .int (0 : Int32))]) [1, 0] rfl ?_
    exact w_X4_remember_11 C   out  lc_FU (0 : Int32) s h
abbrev rm_X4_arrives : Room := { frames := 0, cells := 0, slots := 0, locals := 0 }
def P_X4_arrives_14  (x0 : Int32) (t0 : Int32) : Option (Int32) :=
  some (x0 - ((x0 * t0) / (20 : Int32)))
set_option maxRecDepth 100000 in
set_option maxHeartbeats 4000000 in
theorem w_X4_arrives_14 {S : lc_Se} {X : lc_X} (C : lc_C X cX4_arrives RX4 4 (some .int) rm_X4_arrives) {M : lc_MM}  (out : Int32)  : ∀ (x0 : Int32) (t0 : Int32), P_X4_arrives_14  x0 t0 = some out → lc_J S X 4 0 0 (lc_QI S X 0 0 out M) 14 [(0, .int x0)] [.int t0] M := by
  intro x0 t0 h
  rw [P_X4_arrives_14] at h
  refine lc_istore_n C (pc' := 15) (lo' := [(3, .int t0), (0, .int x0)]) dX4_arrives_14 (Nat.le_of_ble_eq_true rfl) rfl rfl ?_
  refine lc_iload_n C (pc' := 16) 1 dX4_arrives_15 rfl rfl ?_
  refine lc_iload_n C (pc' := 17) 1 dX4_arrives_16 rfl rfl ?_
  refine lc_iload_n C (pc' := 18) 0 dX4_arrives_17 rfl rfl ?_
  refine lc_imul C (pc' := 19) dX4_arrives_18 rfl ?_
  refine lc_bipush C (pc' := 21) (v := (20 : Int32)) dX4_arrives_19 (by decide) rfl ?_
  refine lc_idiv C (pc' := 22) dX4_arrives_21 (by decide) rfl ?_
  refine lc_isub C (pc' := 23) dX4_arrives_22 rfl ?_
  obtain rfl := Option.some.inj h
  exact lc_iret C rfl dX4_arrives_23
def P_X4_arrives  (x0 : Int32) (x1 : Int32) (x2 : Int32)  : Option (Int32) :=
  if x1 ≤ x2 then P_X4_arrives_14   x0 (x2 - x1) else P_X4_arrives_14   x0 (x1 - x2)
set_option maxRecDepth 100000 in
set_option maxHeartbeats 4000000 in
theorem c_X4_arrives (S : lc_Se) (l : Launch) (M : lc_MM)  (x0 : Int32) (x1 : Int32) (x2 : Int32)  (out : Int32) (h : P_X4_arrives x0 x1 x2  = some out) : lc_MI S l yX4_arrives cX4_arrives 4 (some .int) rm_X4_arrives [.int x0, .int x1, .int x2] M out M := by
  refine lc_mkI (own := RX4) pn_RX4 rfl (Nat.le_of_ble_eq_true rfl) (lo := [(0, .int x0), (1, .int x1), (2, .int x2)]) rfl (fun X hX C => ?_)
  rw [P_X4_arrives] at h
  refine lc_iload_n C (pc' := 1) 1 dX4_arrives_0 rfl rfl ?_
  refine lc_iload_n C (pc' := 2) 2 dX4_arrives_1 rfl rfl ?_
  refine lc_icmp_le C (pc' := 5) (tgt := 11) dX4_arrives_2 (by decide) rfl (fun c2 => ?_) (fun c2 => ?_)
  · have h := (lc_if2 h).1 c2
    refine lc_iload_n C (pc' := 12) 2 dX4_arrives_11 rfl rfl ?_
    refine lc_iload_n C (pc' := 13) 1 dX4_arrives_12 rfl rfl ?_
    refine lc_isub C (pc' := 14) dX4_arrives_13 rfl ?_
    refine lc_sub (lo' := [(0, .int x0)]) [0] rfl ?_
    exact w_X4_arrives_14 C   out   x0 (x2 - x1) h
  · have h := (lc_if2 h).2 c2
    refine lc_iload_n C (pc' := 6) 1 dX4_arrives_5 rfl rfl ?_
    refine lc_iload_n C (pc' := 7) 2 dX4_arrives_6 rfl rfl ?_
    refine lc_isub C (pc' := 8) dX4_arrives_7 rfl ?_
    refine lc_goto C (tgt := 14) dX4_arrives_8 (by decide) ?_
    refine lc_sub (lo' := [(0, .int x0)]) [0] rfl ?_
    exact w_X4_arrives_14 C   out   x0 (x1 - x2) h
abbrev rm_X4_isTooMuch : Room := { frames := 1, cells := 0, slots := 0, locals := 23 }
def P_X4_isTooMuch  (x1 : Int32) (x2 : Int32) (x3 : Int32) (s : lc_St) : Option (Int32) :=
  lc_bd (P_X4_of x3 (1 : Int32) s) (fun r3 => lc_bd (P_X4_arrives x1 x2 x3) (fun r9 => lc_bd (P_X4_of x3 (0 : Int32) s) (fun r16 => if (r3 + r9) ≤ r16 then some (0 : Int32) else some (1 : Int32))))
set_option maxRecDepth 100000 in
set_option maxHeartbeats 4000000 in
theorem c_X4_isTooMuch (S : lc_Se) (l : Launch) (M : lc_MM)  (x1 : Int32) (x2 : Int32) (x3 : Int32) (s : lc_St) (out : Int32) (h : P_X4_isTooMuch x1 x2 x3 s = some out) : lc_MI S l yX4_isTooMuch cX4_isTooMuch 4 (some .boolean) rm_X4_isTooMuch [.ref (lc_ad S 197), .int x1, .int x2, .int x3] (va_up M 22 s) out (va_up M 22 s) := by
  refine lc_mkI (own := RX4) pn_RX4 rfl (Nat.le_of_ble_eq_true rfl) (lo := [(0, .ref (lc_ad S 197)), (1, .int x1), (2, .int x2), (3, .int x3)]) rfl (fun X hX C => ?_)
  rw [P_X4_isTooMuch] at h
  refine lc_aload_n C (pc' := 1) 0 dX4_isTooMuch_0 rfl rfl ?_
  refine lc_iload_n C (pc' := 2) 3 dX4_isTooMuch_1 rfl rfl ?_
  refine lc_iconst C (pc' := 3) (v := (1 : Int32)) dX4_isTooMuch_2 (by decide) rfl ?_
  obtain ⟨r3, h3, h⟩ := lc_bde h
  refine lc_cvi C (pc' := 6) (r := r3) (M' := (va_up M 22 s)) (As := [.int x3, .int (1 : Int32)]) (rest := []) (c_X4_of S X.2.1 M   x3 (1 : Int32) s r3 h3) kl_RX4_43 (lc_at197 S _) rfl rfl rfl rfl (Nat.le_of_ble_eq_true rfl) ⟨Nat.le_of_ble_eq_true rfl, Nat.le_of_ble_eq_true rfl⟩ ⟨rfl, rfl⟩ (lc_z2 _ _) dX4_isTooMuch_3 rfl ?_
  refine lc_iload_n C (pc' := 7) 1 dX4_isTooMuch_6 rfl rfl ?_
  refine lc_iload_n C (pc' := 8) 2 dX4_isTooMuch_7 rfl rfl ?_
  refine lc_iload_n C (pc' := 9) 3 dX4_isTooMuch_8 rfl rfl ?_
  obtain ⟨r9, h9, h⟩ := lc_bde h
  refine lc_csi C (pc' := 12) (r := r9) (M' := (va_up M 22 s)) (As := [.int x1, .int x2, .int x3]) (rest := [.int r3]) (c_X4_arrives S X.2.1 (va_up M 22 s)   x1 x2 x3  r9 h9) kl_RX4_50 rfl rfl (Nat.le_of_ble_eq_true rfl) ⟨Nat.le_of_ble_eq_true rfl, Nat.le_of_ble_eq_true rfl⟩ ⟨rfl, rfl⟩ (lc_z2 _ _) dX4_isTooMuch_9 rfl ?_
  refine lc_iadd C (pc' := 13) dX4_isTooMuch_12 rfl ?_
  refine lc_aload_n C (pc' := 14) 0 dX4_isTooMuch_13 rfl rfl ?_
  refine lc_iload_n C (pc' := 15) 3 dX4_isTooMuch_14 rfl rfl ?_
  refine lc_iconst C (pc' := 16) (v := (0 : Int32)) dX4_isTooMuch_15 (by decide) rfl ?_
  obtain ⟨r16, h16, h⟩ := lc_bde h
  refine lc_cvi C (pc' := 19) (r := r16) (M' := (va_up M 22 s)) (As := [.int x3, .int (0 : Int32)]) (rest := [.int (r3 + r9)]) (c_X4_of S X.2.1 M   x3 (0 : Int32) s r16 h16) kl_RX4_43 (lc_at197 S _) rfl rfl rfl rfl (Nat.le_of_ble_eq_true rfl) ⟨Nat.le_of_ble_eq_true rfl, Nat.le_of_ble_eq_true rfl⟩ ⟨rfl, rfl⟩ (lc_z2 _ _) dX4_isTooMuch_16 rfl ?_
  refine lc_icmp_le C (pc' := 22) (tgt := 26) dX4_isTooMuch_19 (by decide) rfl (fun c19 => ?_) (fun c19 => ?_)
  · have h := (lc_if2 h).1 c19
    refine lc_iconst C (pc' := 27) (v := (0 : Int32)) dX4_isTooMuch_26 (by decide) rfl ?_
    obtain rfl := Option.some.inj h
    exact lc_zret C rfl (Or.inl rfl) dX4_isTooMuch_27
  · have h := (lc_if2 h).2 c19
    refine lc_iconst C (pc' := 23) (v := (1 : Int32)) dX4_isTooMuch_22 (by decide) rfl ?_
    refine lc_goto C (tgt := 27) dX4_isTooMuch_23 (by decide) ?_
    obtain rfl := Option.some.inj h
    exact lc_zret C rfl (Or.inr rfl) dX4_isTooMuch_27
abbrev rm_X4_shuttle : Room := { frames := 1, cells := 0, slots := 0, locals := 23 }
def P_X4_shuttle  (x1 : Int32) (x2 : Int32) (x3 : Int32) (s : lc_St) : Option (Int32 × lc_St) :=
  lc_bd (P_X4_arrives x1 x2 x3) (fun r3 => lc_bd (P_X4_more x2 (1 : Int32) (-x1) s) (fun s1 => lc_bd (P_X4_more x3 (1 : Int32) r3 s1) (fun s2 => lc_let (lc_ss s2 1 5 ((s2 1 5) + (x1 - r3))) (fun s3 => some (r3, s3)))))
set_option maxRecDepth 100000 in
set_option maxHeartbeats 4000000 in
theorem c_X4_shuttle (S : lc_Se) (l : Launch) (M : lc_MM)  (x1 : Int32) (x2 : Int32) (x3 : Int32) (s : lc_St) (out : Int32 × lc_St) (h : P_X4_shuttle x1 x2 x3 s = some out) : lc_MI S l yX4_shuttle cX4_shuttle 5 (some .int) rm_X4_shuttle [.ref (lc_ad S 197), .int x1, .int x2, .int x3] (va_up M 22 s) out.1 (va_up M 22 out.2) := by
  refine lc_mkI (own := RX4) pn_RX4 rfl (Nat.le_of_ble_eq_true rfl) (lo := [(0, .ref (lc_ad S 197)), (1, .int x1), (2, .int x2), (3, .int x3)]) rfl (fun X hX C => ?_)
  rw [P_X4_shuttle] at h
  refine lc_iload_n C (pc' := 1) 1 dX4_shuttle_0 rfl rfl ?_
  refine lc_iload_n C (pc' := 2) 2 dX4_shuttle_1 rfl rfl ?_
  refine lc_iload_n C (pc' := 3) 3 dX4_shuttle_2 rfl rfl ?_
  obtain ⟨r3, h3, h⟩ := lc_bde h
  refine lc_csi C (pc' := 6) (r := r3) (M' := (va_up M 22 s)) (As := [.int x1, .int x2, .int x3]) (rest := []) (c_X4_arrives S X.2.1 (va_up M 22 s)   x1 x2 x3  r3 h3) kl_RX4_50 rfl rfl (Nat.le_of_ble_eq_true rfl) ⟨Nat.le_of_ble_eq_true rfl, Nat.le_of_ble_eq_true rfl⟩ ⟨rfl, rfl⟩ (lc_z2 _ _) dX4_shuttle_3 rfl ?_
  refine lc_istore C (pc' := 8) (lo' := [(4, .int r3), (0, .ref (lc_ad S 197)), (1, .int x1), (2, .int x2), (3, .int x3)]) dX4_shuttle_6 (Nat.le_of_ble_eq_true rfl) rfl rfl ?_
  refine lc_aload_n C (pc' := 9) 1 dX4_shuttle_8 rfl rfl ?_
  refine lc_iload_n C (pc' := 10) 3 dX4_shuttle_9 rfl rfl ?_
  refine lc_iconst C (pc' := 11) (v := (1 : Int32)) dX4_shuttle_10 (by decide) rfl ?_
  refine lc_iload_n C (pc' := 12) 2 dX4_shuttle_11 rfl rfl ?_
  refine lc_ineg C (pc' := 13) dX4_shuttle_12 rfl ?_
  obtain ⟨s1, h13, h⟩ := lc_bde h
  refine lc_cvv C (pc' := 16) (M' := (va_up M 22 s1)) (As := [.int x2, .int (1 : Int32), .int (-x1)]) (rest := []) (c_X4_more S X.2.1 M   x2 (1 : Int32) (-x1) s s1 h13) kl_RX4_54 (lc_at197 S _) rfl rfl rfl rfl (Nat.le_of_ble_eq_true rfl) ⟨Nat.le_of_ble_eq_true rfl, Nat.le_of_ble_eq_true rfl⟩ ⟨rfl, rfl⟩ (lc_z2 _ _) dX4_shuttle_13 rfl ?_
  refine lc_aload_n C (pc' := 17) 1 dX4_shuttle_16 rfl rfl ?_
  refine lc_iload_n C (pc' := 18) 4 dX4_shuttle_17 rfl rfl ?_
  refine lc_iconst C (pc' := 19) (v := (1 : Int32)) dX4_shuttle_18 (by decide) rfl ?_
  refine lc_iload C (pc' := 21) 0 dX4_shuttle_19 rfl rfl ?_
  obtain ⟨s2, h21, h⟩ := lc_bde h
  refine lc_cvv C (pc' := 24) (M' := (va_up M 22 s2)) (As := [.int x3, .int (1 : Int32), .int r3]) (rest := []) (c_X4_more S X.2.1 M   x3 (1 : Int32) r3 s1 s2 h21) kl_RX4_54 (lc_at197 S _) rfl rfl rfl rfl (Nat.le_of_ble_eq_true rfl) ⟨Nat.le_of_ble_eq_true rfl, Nat.le_of_ble_eq_true rfl⟩ ⟨rfl, rfl⟩ (lc_z2 _ _) dX4_shuttle_21 rfl ?_
  refine lc_aload_n C (pc' := 25) 1 dX4_shuttle_24 rfl rfl ?_
  refine lc_g197_now C (pc' := 28) (va_up_self _ _ _) dX4_shuttle_25 kf_RX4_7 rfl ?_
  refine lc_iconst C (pc' := 29) (v := (5 : Int32)) dX4_shuttle_28 (by decide) rfl ?_
  refine lc_dup2 C (pc' := 30) dX4_shuttle_29 rfl rfl rfl ?_
  refine lc_ld198 C (pc' := 31) (jj := 5) (va_up_self _ _ _) (by decide) (by decide) dX4_shuttle_30 rfl ?_
  refine lc_iload_n C (pc' := 32) 2 dX4_shuttle_31 rfl rfl ?_
  refine lc_iload C (pc' := 34) 0 dX4_shuttle_32 rfl rfl ?_
  refine lc_isub C (pc' := 35) dX4_shuttle_34 rfl ?_
  refine lc_iadd C (pc' := 36) dX4_shuttle_35 rfl ?_
  obtain ⟨s3, es3, h⟩ := lc_let2 h
  refine lc_sd198 C (pc' := 37) (jj := 5) (M' := (va_up M 22 s3)) (va_up_self _ _ _) (by decide) (by decide) es3 (lc_up_up _ _ _ _) dX4_shuttle_36 rfl ?_
  refine lc_iload C (pc' := 39) 0 dX4_shuttle_37 rfl rfl ?_
  obtain rfl := Option.some.inj h
  exact lc_iret C rfl dX4_shuttle_39
abbrev rm_X4_makeLoan : Room := { frames := 2, cells := 0, slots := 0, locals := 47 }
def P_X4_makeLoan  (x1 : Int32) (x2 : Int32) (x3 : Int32) (x4 : Int32) (s : lc_St) : Option (Int32 × lc_St) :=
  lc_let ((47 : Int32) + ((5 : Int32) * (s 1 2))) (fun x5_11 => lc_if (lc_ok x5_11 107) (lc_let (lc_ss s 1 (x5_11.toNatClampNeg) x1) (fun s1 => lc_if (lc_ok (x5_11 + (1 : Int32)) 107) (lc_let (lc_ss s1 1 ((x5_11 + (1 : Int32)).toNatClampNeg) x2) (fun s2 => lc_if (lc_ok (x5_11 + (2 : Int32)) 107) (lc_let (lc_ss s2 1 ((x5_11 + (2 : Int32)).toNatClampNeg) x3) (fun s3 => lc_if (lc_ok (x5_11 + (3 : Int32)) 107) (lc_let (lc_ss s3 1 ((x5_11 + (3 : Int32)).toNatClampNeg) x4) (fun s4 => lc_bd2 (P_X4_shuttle x3 x1 x2 s4) (fun r64 s5 => lc_if (lc_ok (x5_11 + (4 : Int32)) 107) (lc_let (lc_ss s5 1 ((x5_11 + (4 : Int32)).toNatClampNeg) r64) (fun s6 => lc_let (lc_ss s6 1 2 ((s6 1 2) + (1 : Int32))) (fun s7 => lc_if (lc_ok (x5_11 + (4 : Int32)) 107) (some ((s7 1 (x5_11 + (4 : Int32)).toNatClampNeg), s7)))))))))))))))
set_option maxRecDepth 100000 in
set_option maxHeartbeats 4000000 in
theorem c_X4_makeLoan (S : lc_Se) (l : Launch) (M : lc_MM)  (x1 : Int32) (x2 : Int32) (x3 : Int32) (x4 : Int32) (s : lc_St) (out : Int32 × lc_St) (h : P_X4_makeLoan x1 x2 x3 x4 s = some out) : lc_MI S l yX4_makeLoan cX4_makeLoan 6 (some .int) rm_X4_makeLoan [.ref (lc_ad S 197), .int x1, .int x2, .int x3, .int x4] (va_up M 22 s) out.1 (va_up M 22 out.2) := by
  refine lc_mkI (own := RX4) pn_RX4 rfl (Nat.le_of_ble_eq_true rfl) (lo := [(0, .ref (lc_ad S 197)), (1, .int x1), (2, .int x2), (3, .int x3), (4, .int x4)]) rfl (fun X hX C => ?_)
  rw [P_X4_makeLoan] at h
  refine lc_bipush C (pc' := 2) (v := (47 : Int32)) dX4_makeLoan_0 (by decide) rfl ?_
  refine lc_iconst C (pc' := 3) (v := (5 : Int32)) dX4_makeLoan_2 (by decide) rfl ?_
  refine lc_aload_n C (pc' := 4) 0 dX4_makeLoan_3 rfl rfl ?_
  refine lc_g197_now C (pc' := 7) (va_up_self _ _ _) dX4_makeLoan_4 kf_RX4_7 rfl ?_
  refine lc_iconst C (pc' := 8) (v := (2 : Int32)) dX4_makeLoan_7 (by decide) rfl ?_
  refine lc_ld198 C (pc' := 9) (jj := 2) (va_up_self _ _ _) (by decide) (by decide) dX4_makeLoan_8 rfl ?_
  refine lc_imul C (pc' := 10) dX4_makeLoan_9 rfl ?_
  refine lc_iadd C (pc' := 11) dX4_makeLoan_10 rfl ?_
  obtain ⟨x5_11, e5_11, h⟩ := lc_let2 h
  rw [e5_11]
  refine lc_istore C (pc' := 13) (lo' := [(5, .int x5_11), (0, .ref (lc_ad S 197)), (1, .int x1), (2, .int x2), (3, .int x3), (4, .int x4)]) dX4_makeLoan_11 (Nat.le_of_ble_eq_true rfl) rfl rfl ?_
  refine lc_aload_n C (pc' := 14) 1 dX4_makeLoan_13 rfl rfl ?_
  refine lc_g197_now C (pc' := 17) (va_up_self _ _ _) dX4_makeLoan_14 kf_RX4_7 rfl ?_
  refine lc_iload C (pc' := 19) 0 dX4_makeLoan_17 rfl rfl ?_
  refine lc_iload_n C (pc' := 20) 2 dX4_makeLoan_19 rfl rfl ?_
  obtain ⟨hi20, h⟩ := lc_ife h
  obtain ⟨s1, es1, h⟩ := lc_let2 h
  refine lc_sd198 C (pc' := 21) (jj := x5_11.toNatClampNeg) (M' := (va_up M 22 s1)) (va_up_self _ _ _) hi20 rfl es1 (lc_up_up _ _ _ _) dX4_makeLoan_20 rfl ?_
  refine lc_aload_n C (pc' := 22) 1 dX4_makeLoan_21 rfl rfl ?_
  refine lc_g197_now C (pc' := 25) (va_up_self _ _ _) dX4_makeLoan_22 kf_RX4_7 rfl ?_
  refine lc_iload C (pc' := 27) 0 dX4_makeLoan_25 rfl rfl ?_
  refine lc_iconst C (pc' := 28) (v := (1 : Int32)) dX4_makeLoan_27 (by decide) rfl ?_
  refine lc_iadd C (pc' := 29) dX4_makeLoan_28 rfl ?_
  refine lc_iload_n C (pc' := 30) 3 dX4_makeLoan_29 rfl rfl ?_
  obtain ⟨hi30, h⟩ := lc_ife h
  obtain ⟨s2, es2, h⟩ := lc_let2 h
  refine lc_sd198 C (pc' := 31) (jj := (x5_11 + (1 : Int32)).toNatClampNeg) (M' := (va_up M 22 s2)) (va_up_self _ _ _) hi30 rfl es2 (lc_up_up _ _ _ _) dX4_makeLoan_30 rfl ?_
  refine lc_aload_n C (pc' := 32) 1 dX4_makeLoan_31 rfl rfl ?_
  refine lc_g197_now C (pc' := 35) (va_up_self _ _ _) dX4_makeLoan_32 kf_RX4_7 rfl ?_
  refine lc_iload C (pc' := 37) 0 dX4_makeLoan_35 rfl rfl ?_
  refine lc_iconst C (pc' := 38) (v := (2 : Int32)) dX4_makeLoan_37 (by decide) rfl ?_
  refine lc_iadd C (pc' := 39) dX4_makeLoan_38 rfl ?_
  refine lc_iload_n C (pc' := 40) 4 dX4_makeLoan_39 rfl rfl ?_
  obtain ⟨hi40, h⟩ := lc_ife h
  obtain ⟨s3, es3, h⟩ := lc_let2 h
  refine lc_sd198 C (pc' := 41) (jj := (x5_11 + (2 : Int32)).toNatClampNeg) (M' := (va_up M 22 s3)) (va_up_self _ _ _) hi40 rfl es3 (lc_up_up _ _ _ _) dX4_makeLoan_40 rfl ?_
  refine lc_aload_n C (pc' := 42) 1 dX4_makeLoan_41 rfl rfl ?_
  refine lc_g197_now C (pc' := 45) (va_up_self _ _ _) dX4_makeLoan_42 kf_RX4_7 rfl ?_
  refine lc_iload C (pc' := 47) 0 dX4_makeLoan_45 rfl rfl ?_
  refine lc_iconst C (pc' := 48) (v := (3 : Int32)) dX4_makeLoan_47 (by decide) rfl ?_
  refine lc_iadd C (pc' := 49) dX4_makeLoan_48 rfl ?_
  refine lc_iload C (pc' := 51) 5 dX4_makeLoan_49 rfl rfl ?_
  obtain ⟨hi51, h⟩ := lc_ife h
  obtain ⟨s4, es4, h⟩ := lc_let2 h
  refine lc_sd198 C (pc' := 52) (jj := (x5_11 + (3 : Int32)).toNatClampNeg) (M' := (va_up M 22 s4)) (va_up_self _ _ _) hi51 rfl es4 (lc_up_up _ _ _ _) dX4_makeLoan_51 rfl ?_
  refine lc_aload_n C (pc' := 53) 1 dX4_makeLoan_52 rfl rfl ?_
  refine lc_g197_now C (pc' := 56) (va_up_self _ _ _) dX4_makeLoan_53 kf_RX4_7 rfl ?_
  refine lc_iload C (pc' := 58) 0 dX4_makeLoan_56 rfl rfl ?_
  refine lc_iconst C (pc' := 59) (v := (4 : Int32)) dX4_makeLoan_58 (by decide) rfl ?_
  refine lc_iadd C (pc' := 60) dX4_makeLoan_59 rfl ?_
  refine lc_aload_n C (pc' := 61) 1 dX4_makeLoan_60 rfl rfl ?_
  refine lc_iload_n C (pc' := 62) 4 dX4_makeLoan_61 rfl rfl ?_
  refine lc_iload_n C (pc' := 63) 2 dX4_makeLoan_62 rfl rfl ?_
  refine lc_iload_n C (pc' := 64) 3 dX4_makeLoan_63 rfl rfl ?_
  obtain ⟨r64, s5, h64, h⟩ := lc_bd2e h
  refine lc_cvi C (pc' := 67) (r := r64) (M' := (va_up M 22 s5)) (As := [.int x3, .int x1, .int x2]) (rest := [.int (x5_11 + (4 : Int32)), .ref (lc_ad S 198)]) (c_X4_shuttle S X.2.1 M   x3 x1 x2 s4 (r64, s5) h64) kl_RX4_58 (lc_at197 S _) rfl rfl rfl rfl (Nat.le_of_ble_eq_true rfl) ⟨Nat.le_of_ble_eq_true rfl, Nat.le_of_ble_eq_true rfl⟩ ⟨rfl, rfl⟩ (lc_z2 _ _) dX4_makeLoan_64 rfl ?_
  obtain ⟨hi67, h⟩ := lc_ife h
  obtain ⟨s6, es6, h⟩ := lc_let2 h
  refine lc_sd198 C (pc' := 68) (jj := (x5_11 + (4 : Int32)).toNatClampNeg) (M' := (va_up M 22 s6)) (va_up_self _ _ _) hi67 rfl es6 (lc_up_up _ _ _ _) dX4_makeLoan_67 rfl ?_
  refine lc_aload_n C (pc' := 69) 1 dX4_makeLoan_68 rfl rfl ?_
  refine lc_g197_now C (pc' := 72) (va_up_self _ _ _) dX4_makeLoan_69 kf_RX4_7 rfl ?_
  refine lc_iconst C (pc' := 73) (v := (2 : Int32)) dX4_makeLoan_72 (by decide) rfl ?_
  refine lc_dup2 C (pc' := 74) dX4_makeLoan_73 rfl rfl rfl ?_
  refine lc_ld198 C (pc' := 75) (jj := 2) (va_up_self _ _ _) (by decide) (by decide) dX4_makeLoan_74 rfl ?_
  refine lc_iconst C (pc' := 76) (v := (1 : Int32)) dX4_makeLoan_75 (by decide) rfl ?_
  refine lc_iadd C (pc' := 77) dX4_makeLoan_76 rfl ?_
  obtain ⟨s7, es7, h⟩ := lc_let2 h
  refine lc_sd198 C (pc' := 78) (jj := 2) (M' := (va_up M 22 s7)) (va_up_self _ _ _) (by decide) (by decide) es7 (lc_up_up _ _ _ _) dX4_makeLoan_77 rfl ?_
  refine lc_aload_n C (pc' := 79) 1 dX4_makeLoan_78 rfl rfl ?_
  refine lc_g197_now C (pc' := 82) (va_up_self _ _ _) dX4_makeLoan_79 kf_RX4_7 rfl ?_
  refine lc_iload C (pc' := 84) 0 dX4_makeLoan_82 rfl rfl ?_
  refine lc_iconst C (pc' := 85) (v := (4 : Int32)) dX4_makeLoan_84 (by decide) rfl ?_
  refine lc_iadd C (pc' := 86) dX4_makeLoan_85 rfl ?_
  obtain ⟨hi86, h⟩ := lc_ife h
  refine lc_ld198 C (pc' := 87) (jj := (x5_11 + (4 : Int32)).toNatClampNeg) (va_up_self _ _ _) hi86 rfl dX4_makeLoan_86 rfl ?_
  obtain rfl := Option.some.inj h
  exact lc_iret C rfl dX4_makeLoan_87
abbrev rm_X4_removeLoan : Room := { frames := 0, cells := 0, slots := 0, locals := 0 }
def P_X4_removeLoan_89  (t1 : Int32) (s : lc_St) : Option (lc_St) :=
  lc_let (lc_ss s 0 3 t1) (fun s2 => some s2)
set_option maxRecDepth 100000 in
set_option maxHeartbeats 4000000 in
theorem w_X4_removeLoan_89 {S : lc_Se} {X : lc_X} (C : lc_C X cX4_removeLoan RX4 3 none rm_X4_removeLoan) {M : lc_MM}  (out : lc_St)  : ∀ (t1 : Int32) (s : lc_St), P_X4_removeLoan_89  t1 s = some out → lc_J S X 3 0 0 (lc_QV S X 0 0 (va_up M 22 out)) 89 [] [.int t1, .ref (lc_ad S 197)] (va_up M 22 s) := by
  intro t1 s h
  rw [P_X4_removeLoan_89] at h
  obtain ⟨s2, es2, h⟩ := lc_let2 h
  refine lc_p197_watched C (pc' := 92) (M' := (va_up M 22 s2)) (va_up_self _ _ _) es2 (lc_up_up _ _ _ _) dX4_removeLoan_89 kf_RX4_61 rfl ?_
  obtain rfl := Option.some.inj h
  exact lc_vret C rfl dX4_removeLoan_92
def P_X4_removeLoan_7  : Nat → Int32 → Int32 → lc_St → Option (lc_St)
  | 0, _, _, _ => none
  | n + 1, x1, x2, s =>
    if (((47 : Int32) + ((5 : Int32) * (s 1 2))) - (5 : Int32)) ≤ x2 then lc_let (lc_ss s 1 2 ((s 1 2) - (1 : Int32))) (fun s1 => if (s1 0 3) = x1 then P_X4_removeLoan_89   (-9 : Int32) s1 else if (s1 0 3) ≤ x1 then P_X4_removeLoan_89   (s1 0 3) s1 else P_X4_removeLoan_89   ((s1 0 3) - (1 : Int32)) s1) else lc_if (lc_ok (x2 + (5 : Int32)) 107) (lc_if (lc_ok x2 107) (lc_let (lc_ss s 1 (x2.toNatClampNeg) (s 1 (x2 + (5 : Int32)).toNatClampNeg)) (fun s3 => lc_let (x2 + (1 : Int32)) (fun x2_38 => P_X4_removeLoan_7  n x1 x2_38 s3))))
set_option maxRecDepth 100000 in
set_option maxHeartbeats 4000000 in
theorem w_X4_removeLoan_7 {S : lc_Se} {X : lc_X} (C : lc_C X cX4_removeLoan RX4 3 none rm_X4_removeLoan) {M : lc_MM}  (out : lc_St)  : ∀ (n : Nat) (x1 : Int32) (x2 : Int32) (s : lc_St), P_X4_removeLoan_7  n x1 x2 s = some out → lc_J S X 3 0 0 (lc_QV S X 0 0 (va_up M 22 out)) 7 [(0, .ref (lc_ad S 197)), (1, .int x1), (2, .int x2)] [] (va_up M 22 s) := by
  intro n
  induction n with
  | zero =>
    intro x1 x2 s h
    rw [P_X4_removeLoan_7] at h
    cases h
  | succ n ih =>
    intro x1 x2 s h
    rw [P_X4_removeLoan_7] at h
    refine lc_iload_n C (pc' := 8) 2 dX4_removeLoan_7 rfl rfl ?_
    refine lc_bipush C (pc' := 10) (v := (47 : Int32)) dX4_removeLoan_8 (by decide) rfl ?_
    refine lc_iconst C (pc' := 11) (v := (5 : Int32)) dX4_removeLoan_10 (by decide) rfl ?_
    refine lc_aload_n C (pc' := 12) 0 dX4_removeLoan_11 rfl rfl ?_
    refine lc_g197_now C (pc' := 15) (va_up_self _ _ _) dX4_removeLoan_12 kf_RX4_7 rfl ?_
    refine lc_iconst C (pc' := 16) (v := (2 : Int32)) dX4_removeLoan_15 (by decide) rfl ?_
    refine lc_ld198 C (pc' := 17) (jj := 2) (va_up_self _ _ _) (by decide) (by decide) dX4_removeLoan_16 rfl ?_
    refine lc_imul C (pc' := 18) dX4_removeLoan_17 rfl ?_
    refine lc_iadd C (pc' := 19) dX4_removeLoan_18 rfl ?_
    refine lc_iconst C (pc' := 20) (v := (5 : Int32)) dX4_removeLoan_19 (by decide) rfl ?_
    refine lc_isub C (pc' := 21) dX4_removeLoan_20 rfl ?_
    refine lc_icmp_ge C (pc' := 24) (tgt := 44) dX4_removeLoan_21 (by decide) rfl (fun c21 => ?_) (fun c21 => ?_)
    · have h := (lc_if2 h).1 c21
      refine lc_aload_n C (pc' := 45) 0 dX4_removeLoan_44 rfl rfl ?_
      refine lc_g197_now C (pc' := 48) (va_up_self _ _ _) dX4_removeLoan_45 kf_RX4_7 rfl ?_
      refine lc_iconst C (pc' := 49) (v := (2 : Int32)) dX4_removeLoan_48 (by decide) rfl ?_
      refine lc_dup2 C (pc' := 50) dX4_removeLoan_49 rfl rfl rfl ?_
      refine lc_ld198 C (pc' := 51) (jj := 2) (va_up_self _ _ _) (by decide) (by decide) dX4_removeLoan_50 rfl ?_
      refine lc_iconst C (pc' := 52) (v := (1 : Int32)) dX4_removeLoan_51 (by decide) rfl ?_
      refine lc_isub C (pc' := 53) dX4_removeLoan_52 rfl ?_
      obtain ⟨s1, es1, h⟩ := lc_let2 h
      refine lc_sd198 C (pc' := 54) (jj := 2) (M' := (va_up M 22 s1)) (va_up_self _ _ _) (by decide) (by decide) es1 (lc_up_up _ _ _ _) dX4_removeLoan_53 rfl ?_
      refine lc_aload_n C (pc' := 55) 0 dX4_removeLoan_54 rfl rfl ?_
      refine lc_aload_n C (pc' := 56) 0 dX4_removeLoan_55 rfl rfl ?_
      refine lc_g197_watched C (pc' := 59) (va_up_self _ _ _) dX4_removeLoan_56 kf_RX4_61 rfl ?_
      refine lc_iload_n C (pc' := 60) 1 dX4_removeLoan_59 rfl rfl ?_
      refine lc_icmp_ne C (pc' := 63) (tgt := 68) dX4_removeLoan_60 (by decide) rfl (fun c60 => ?_) (fun c60 => ?_)
      · have h := (lc_if2 h).2 c60
        refine lc_aload_n C (pc' := 69) 0 dX4_removeLoan_68 rfl rfl ?_
        refine lc_g197_watched C (pc' := 72) (va_up_self _ _ _) dX4_removeLoan_69 kf_RX4_61 rfl ?_
        refine lc_iload_n C (pc' := 73) 1 dX4_removeLoan_72 rfl rfl ?_
        refine lc_icmp_le C (pc' := 76) (tgt := 85) dX4_removeLoan_73 (by decide) rfl (fun c73 => ?_) (fun c73 => ?_)
        · have h := (lc_if2 h).1 c73
          refine lc_aload_n C (pc' := 86) 0 dX4_removeLoan_85 rfl rfl ?_
          refine lc_g197_watched C (pc' := 89) (va_up_self _ _ _) dX4_removeLoan_86 kf_RX4_61 rfl ?_
          refine lc_sub (lo' := []) [] rfl ?_
          exact w_X4_removeLoan_89 C   out   (s1 0 3) s1 h
        · have h := (lc_if2 h).2 c73
          refine lc_aload_n C (pc' := 77) 0 dX4_removeLoan_76 rfl rfl ?_
          refine lc_g197_watched C (pc' := 80) (va_up_self _ _ _) dX4_removeLoan_77 kf_RX4_61 rfl ?_
          refine lc_iconst C (pc' := 81) (v := (1 : Int32)) dX4_removeLoan_80 (by decide) rfl ?_
          refine lc_isub C (pc' := 82) dX4_removeLoan_81 rfl ?_
          refine lc_goto C (tgt := 89) dX4_removeLoan_82 (by decide) ?_
          refine lc_sub (lo' := []) [] rfl ?_
          exact w_X4_removeLoan_89 C   out   ((s1 0 3) - (1 : Int32)) s1 h
      · have h := (lc_if2 h).1 c60
        refine lc_bipush C (pc' := 65) (v := (-9 : Int32)) dX4_removeLoan_63 (by decide) rfl ?_
        refine lc_goto C (tgt := 89) dX4_removeLoan_65 (by decide) ?_
        refine lc_sub (lo' := []) [] rfl ?_
        exact w_X4_removeLoan_89 C   out   (-9 : Int32) s1 h
    · have h := (lc_if2 h).2 c21
      refine lc_aload_n C (pc' := 25) 0 dX4_removeLoan_24 rfl rfl ?_
      refine lc_g197_now C (pc' := 28) (va_up_self _ _ _) dX4_removeLoan_25 kf_RX4_7 rfl ?_
      refine lc_iload_n C (pc' := 29) 2 dX4_removeLoan_28 rfl rfl ?_
      refine lc_aload_n C (pc' := 30) 0 dX4_removeLoan_29 rfl rfl ?_
      refine lc_g197_now C (pc' := 33) (va_up_self _ _ _) dX4_removeLoan_30 kf_RX4_7 rfl ?_
      refine lc_iload_n C (pc' := 34) 2 dX4_removeLoan_33 rfl rfl ?_
      refine lc_iconst C (pc' := 35) (v := (5 : Int32)) dX4_removeLoan_34 (by decide) rfl ?_
      refine lc_iadd C (pc' := 36) dX4_removeLoan_35 rfl ?_
      obtain ⟨hi36, h⟩ := lc_ife h
      refine lc_ld198 C (pc' := 37) (jj := (x2 + (5 : Int32)).toNatClampNeg) (va_up_self _ _ _) hi36 rfl dX4_removeLoan_36 rfl ?_
      obtain ⟨hi37, h⟩ := lc_ife h
      obtain ⟨s3, es3, h⟩ := lc_let2 h
      refine lc_sd198 C (pc' := 38) (jj := x2.toNatClampNeg) (M' := (va_up M 22 s3)) (va_up_self _ _ _) hi37 rfl es3 (lc_up_up _ _ _ _) dX4_removeLoan_37 rfl ?_
      obtain ⟨x2_38, e2_38, h⟩ := lc_let2 h
      refine lc_iinc C (pc' := 41) (lo' := [(2, .int x2_38), (0, .ref (lc_ad S 197)), (1, .int x1)]) (q := 2) dX4_removeLoan_38 rfl (by rw [← e2_38]; rfl) (Nat.le_of_ble_eq_true rfl) rfl rfl ?_
      refine lc_goto C (tgt := 7) dX4_removeLoan_41 (by decide) ?_
      refine lc_sub (lo' := [(0, .ref (lc_ad S 197)), (1, .int x1), (2, .int x2_38)]) [1, 2, 0] rfl ?_
      exact ih x1 x2_38 s3 h
def P_X4_removeLoan  (x1 : Int32) (s : lc_St) : Option (lc_St) :=
  lc_let ((47 : Int32) + ((5 : Int32) * x1)) (fun x2_6 => P_X4_removeLoan_7  lc_FU x1 x2_6 s)
set_option maxRecDepth 100000 in
set_option maxHeartbeats 4000000 in
theorem c_X4_removeLoan (S : lc_Se) (l : Launch) (M : lc_MM)  (x1 : Int32) (s : lc_St) (out : lc_St) (h : P_X4_removeLoan x1 s = some out) : lc_MV S l yX4_removeLoan cX4_removeLoan 3 none rm_X4_removeLoan [.ref (lc_ad S 197), .int x1] (va_up M 22 s)  (va_up M 22 out) := by
  refine lc_mkV (own := RX4) pn_RX4 rfl (Nat.le_of_ble_eq_true rfl) (lo := [(0, .ref (lc_ad S 197)), (1, .int x1)]) rfl (fun X hX C => ?_)
  rw [P_X4_removeLoan] at h
  refine lc_bipush C (pc' := 2) (v := (47 : Int32)) dX4_removeLoan_0 (by decide) rfl ?_
  refine lc_iconst C (pc' := 3) (v := (5 : Int32)) dX4_removeLoan_2 (by decide) rfl ?_
  refine lc_iload_n C (pc' := 4) 1 dX4_removeLoan_3 rfl rfl ?_
  refine lc_imul C (pc' := 5) dX4_removeLoan_4 rfl ?_
  refine lc_iadd C (pc' := 6) dX4_removeLoan_5 rfl ?_
  obtain ⟨x2_6, e2_6, h⟩ := lc_let2 h
  rw [e2_6]
  refine lc_istore_n C (pc' := 7) (lo' := [(2, .int x2_6), (0, .ref (lc_ad S 197)), (1, .int x1)]) dX4_removeLoan_6 (Nat.le_of_ble_eq_true rfl) rfl rfl ?_
  refine lc_sub (lo' := [(0, .ref (lc_ad S 197)), (1, .int x1), (2, .int x2_6)]) [1, 2, 0] rfl ?_
  exact w_X4_removeLoan_7 C   out  lc_FU x1 x2_6 s h
abbrev rm_X4_interest : Room := { frames := 1, cells := 0, slots := 0, locals := 22 }
def P_X4_interest  (x1 : Int32) (s : lc_St) : Option (Int32) :=
  lc_bd (P_X4_ofLoan x1 (2 : Int32) s) (fun r3 => lc_bd (P_X4_ofLoan x1 (3 : Int32) s) (fun r9 => some (((r3 * r9) + (99 : Int32)) / (100 : Int32))))
set_option maxRecDepth 100000 in
set_option maxHeartbeats 4000000 in
theorem c_X4_interest (S : lc_Se) (l : Launch) (M : lc_MM)  (x1 : Int32) (s : lc_St) (out : Int32) (h : P_X4_interest x1 s = some out) : lc_MI S l yX4_interest cX4_interest 2 (some .int) rm_X4_interest [.ref (lc_ad S 197), .int x1] (va_up M 22 s) out (va_up M 22 s) := by
  refine lc_mkI (own := RX4) pn_RX4 rfl (Nat.le_of_ble_eq_true rfl) (lo := [(0, .ref (lc_ad S 197)), (1, .int x1)]) rfl (fun X hX C => ?_)
  rw [P_X4_interest] at h
  refine lc_aload_n C (pc' := 1) 0 dX4_interest_0 rfl rfl ?_
  refine lc_iload_n C (pc' := 2) 1 dX4_interest_1 rfl rfl ?_
  refine lc_iconst C (pc' := 3) (v := (2 : Int32)) dX4_interest_2 (by decide) rfl ?_
  obtain ⟨r3, h3, h⟩ := lc_bde h
  refine lc_cvi C (pc' := 6) (r := r3) (M' := (va_up M 22 s)) (As := [.int x1, .int (2 : Int32)]) (rest := []) (c_X4_ofLoan S X.2.1 M   x1 (2 : Int32) s r3 h3) kl_RX4_64 (lc_at197 S _) rfl rfl rfl rfl (Nat.le_of_ble_eq_true rfl) ⟨Nat.le_of_ble_eq_true rfl, Nat.le_of_ble_eq_true rfl⟩ ⟨rfl, rfl⟩ (lc_z2 _ _) dX4_interest_3 rfl ?_
  refine lc_aload_n C (pc' := 7) 0 dX4_interest_6 rfl rfl ?_
  refine lc_iload_n C (pc' := 8) 1 dX4_interest_7 rfl rfl ?_
  refine lc_iconst C (pc' := 9) (v := (3 : Int32)) dX4_interest_8 (by decide) rfl ?_
  obtain ⟨r9, h9, h⟩ := lc_bde h
  refine lc_cvi C (pc' := 12) (r := r9) (M' := (va_up M 22 s)) (As := [.int x1, .int (3 : Int32)]) (rest := [.int r3]) (c_X4_ofLoan S X.2.1 M   x1 (3 : Int32) s r9 h9) kl_RX4_64 (lc_at197 S _) rfl rfl rfl rfl (Nat.le_of_ble_eq_true rfl) ⟨Nat.le_of_ble_eq_true rfl, Nat.le_of_ble_eq_true rfl⟩ ⟨rfl, rfl⟩ (lc_z2 _ _) dX4_interest_9 rfl ?_
  refine lc_imul C (pc' := 13) dX4_interest_12 rfl ?_
  refine lc_bipush C (pc' := 15) (v := (99 : Int32)) dX4_interest_13 (by decide) rfl ?_
  refine lc_iadd C (pc' := 16) dX4_interest_15 rfl ?_
  refine lc_bipush C (pc' := 18) (v := (100 : Int32)) dX4_interest_16 (by decide) rfl ?_
  refine lc_idiv C (pc' := 19) dX4_interest_18 (by decide) rfl ?_
  obtain rfl := Option.some.inj h
  exact lc_iret C rfl dX4_interest_19
abbrev rm_X4_owedBy : Room := { frames := 1, cells := 0, slots := 0, locals := 22 }
def P_X4_owedBy_39 (K5 : Int32 → Int32 → Int32 → Int32 → lc_St → Option (Int32)) (x1 : Int32) (x2 : Int32) (x4 : Int32) (t0 : Int32) (t1 : Int32) (s : lc_St) : Option (Int32) :=
  lc_let (t0 + t1) (fun x3_40 => lc_let (x4 + (1 : Int32)) (fun x4_41 => K5 x1 x2 x3_40 x4_41 s))
set_option maxRecDepth 100000 in
set_option maxHeartbeats 4000000 in
theorem w_X4_owedBy_39 {S : lc_Se} {X : lc_X} (C : lc_C X cX4_owedBy RX4 5 (some .int) rm_X4_owedBy) {M : lc_MM}  (out : Int32) (K5 : Int32 → Int32 → Int32 → Int32 → lc_St → Option (Int32)) (hK5 : ∀ (x1 : Int32) (x2 : Int32) (x3 : Int32) (x4 : Int32) (s : lc_St), K5 x1 x2 x3 x4 s = some out → lc_J S X 5 0 0 (lc_QI S X 0 0 out (va_up M 22 s)) 5 [(0, .ref (lc_ad S 197)), (1, .int x1), (2, .int x2), (3, .int x3), (4, .int x4)] [] (va_up M 22 s)) : ∀ (x1 : Int32) (x2 : Int32) (x4 : Int32) (t0 : Int32) (t1 : Int32) (s : lc_St), P_X4_owedBy_39 K5 x1 x2 x4 t0 t1 s = some out → lc_J S X 5 0 0 (lc_QI S X 0 0 out (va_up M 22 s)) 39 [(0, .ref (lc_ad S 197)), (1, .int x1), (2, .int x2), (4, .int x4)] [.int t1, .int t0] (va_up M 22 s) := by
  intro x1 x2 x4 t0 t1 s h
  rw [P_X4_owedBy_39] at h
  refine lc_iadd C (pc' := 40) dX4_owedBy_39 rfl ?_
  obtain ⟨x3_40, e3_40, h⟩ := lc_let2 h
  rw [e3_40]
  refine lc_istore_n C (pc' := 41) (lo' := [(3, .int x3_40), (0, .ref (lc_ad S 197)), (1, .int x1), (2, .int x2), (4, .int x4)]) dX4_owedBy_40 (Nat.le_of_ble_eq_true rfl) rfl rfl ?_
  obtain ⟨x4_41, e4_41, h⟩ := lc_let2 h
  refine lc_iinc C (pc' := 44) (lo' := [(4, .int x4_41), (3, .int x3_40), (0, .ref (lc_ad S 197)), (1, .int x1), (2, .int x2)]) (q := 4) dX4_owedBy_41 rfl (by rw [← e4_41]; rfl) (Nat.le_of_ble_eq_true rfl) rfl rfl ?_
  refine lc_goto C (tgt := 5) dX4_owedBy_44 (by decide) ?_
  refine lc_sub (lo' := [(0, .ref (lc_ad S 197)), (1, .int x1), (2, .int x2), (3, .int x3_40), (4, .int x4_41)]) [2, 3, 4, 1, 0] rfl ?_
  exact hK5 x1 x2 x3_40 x4_41 s h
def P_X4_owedBy_5  : Nat → Int32 → Int32 → Int32 → Int32 → lc_St → Option (Int32)
  | 0, _, _, _, _, _ => none
  | n + 1, x1, x2, x3, x4, s =>
    if (s 1 2) ≤ x4 then some x3 else lc_bd (P_X4_ofLoan x4 x2 s) (fun r21 => if r21 = x1 then lc_bd (P_X4_ofLoan x4 (2 : Int32) s) (fun r32 => P_X4_owedBy_39 (fun x1 x2 x3 x4 s => P_X4_owedBy_5  n x1 x2 x3 x4 s)  x1 x2 x4 x3 r32 s) else P_X4_owedBy_39 (fun x1 x2 x3 x4 s => P_X4_owedBy_5  n x1 x2 x3 x4 s)  x1 x2 x4 x3 (0 : Int32) s)
set_option maxRecDepth 100000 in
set_option maxHeartbeats 4000000 in
theorem w_X4_owedBy_5 {S : lc_Se} {X : lc_X} (C : lc_C X cX4_owedBy RX4 5 (some .int) rm_X4_owedBy) {M : lc_MM}  (out : Int32)  : ∀ (n : Nat) (x1 : Int32) (x2 : Int32) (x3 : Int32) (x4 : Int32) (s : lc_St), P_X4_owedBy_5  n x1 x2 x3 x4 s = some out → lc_J S X 5 0 0 (lc_QI S X 0 0 out (va_up M 22 s)) 5 [(0, .ref (lc_ad S 197)), (1, .int x1), (2, .int x2), (3, .int x3), (4, .int x4)] [] (va_up M 22 s) := by
  intro n
  induction n with
  | zero =>
    intro x1 x2 x3 x4 s h
    rw [P_X4_owedBy_5] at h
    cases h
  | succ n ih =>
    intro x1 x2 x3 x4 s h
    rw [P_X4_owedBy_5] at h
    refine lc_iload C (pc' := 7) 4 dX4_owedBy_5 rfl rfl ?_
    refine lc_aload_n C (pc' := 8) 0 dX4_owedBy_7 rfl rfl ?_
    refine lc_g197_now C (pc' := 11) (va_up_self _ _ _) dX4_owedBy_8 kf_RX4_7 rfl ?_
    refine lc_iconst C (pc' := 12) (v := (2 : Int32)) dX4_owedBy_11 (by decide) rfl ?_
    refine lc_ld198 C (pc' := 13) (jj := 2) (va_up_self _ _ _) (by decide) (by decide) dX4_owedBy_12 rfl ?_
    refine lc_icmp_ge C (pc' := 16) (tgt := 47) dX4_owedBy_13 (by decide) rfl (fun c13 => ?_) (fun c13 => ?_)
    · have h := (lc_if2 h).1 c13
      refine lc_iload_n C (pc' := 48) 3 dX4_owedBy_47 rfl rfl ?_
      obtain rfl := Option.some.inj h
      exact lc_iret C rfl dX4_owedBy_48
    · have h := (lc_if2 h).2 c13
      refine lc_iload_n C (pc' := 17) 3 dX4_owedBy_16 rfl rfl ?_
      refine lc_aload_n C (pc' := 18) 0 dX4_owedBy_17 rfl rfl ?_
      refine lc_iload C (pc' := 20) 4 dX4_owedBy_18 rfl rfl ?_
      refine lc_iload_n C (pc' := 21) 2 dX4_owedBy_20 rfl rfl ?_
      obtain ⟨r21, h21, h⟩ := lc_bde h
      refine lc_cvi C (pc' := 24) (r := r21) (M' := (va_up M 22 s)) (As := [.int x4, .int x2]) (rest := [.int x3]) (c_X4_ofLoan S X.2.1 M   x4 x2 s r21 h21) kl_RX4_64 (lc_at197 S _) rfl rfl rfl rfl (Nat.le_of_ble_eq_true rfl) ⟨Nat.le_of_ble_eq_true rfl, Nat.le_of_ble_eq_true rfl⟩ ⟨rfl, rfl⟩ (lc_z2 _ _) dX4_owedBy_21 rfl ?_
      refine lc_iload_n C (pc' := 25) 1 dX4_owedBy_24 rfl rfl ?_
      refine lc_icmp_ne C (pc' := 28) (tgt := 38) dX4_owedBy_25 (by decide) rfl (fun c25 => ?_) (fun c25 => ?_)
      · have h := (lc_if2 h).2 c25
        refine lc_iconst C (pc' := 39) (v := (0 : Int32)) dX4_owedBy_38 (by decide) rfl ?_
        refine lc_sub (lo' := [(0, .ref (lc_ad S 197)), (1, .int x1), (2, .int x2), (4, .int x4)]) [0, 1, 2, 4] rfl ?_
        exact w_X4_owedBy_39 C   out (fun x1 x2 x3 x4 s => P_X4_owedBy_5  n x1 x2 x3 x4 s) ih  x1 x2 x4 x3 (0 : Int32) s h
      · have h := (lc_if2 h).1 c25
        refine lc_aload_n C (pc' := 29) 0 dX4_owedBy_28 rfl rfl ?_
        refine lc_iload C (pc' := 31) 4 dX4_owedBy_29 rfl rfl ?_
        refine lc_iconst C (pc' := 32) (v := (2 : Int32)) dX4_owedBy_31 (by decide) rfl ?_
        obtain ⟨r32, h32, h⟩ := lc_bde h
        refine lc_cvi C (pc' := 35) (r := r32) (M' := (va_up M 22 s)) (As := [.int x4, .int (2 : Int32)]) (rest := [.int x3]) (c_X4_ofLoan S X.2.1 M   x4 (2 : Int32) s r32 h32) kl_RX4_64 (lc_at197 S _) rfl rfl rfl rfl (Nat.le_of_ble_eq_true rfl) ⟨Nat.le_of_ble_eq_true rfl, Nat.le_of_ble_eq_true rfl⟩ ⟨rfl, rfl⟩ (lc_z2 _ _) dX4_owedBy_32 rfl ?_
        refine lc_goto C (tgt := 39) dX4_owedBy_35 (by decide) ?_
        refine lc_sub (lo' := [(0, .ref (lc_ad S 197)), (1, .int x1), (2, .int x2), (4, .int x4)]) [0, 1, 2, 4] rfl ?_
        exact w_X4_owedBy_39 C   out (fun x1 x2 x3 x4 s => P_X4_owedBy_5  n x1 x2 x3 x4 s) ih  x1 x2 x4 x3 r32 s h
def P_X4_owedBy  (x1 : Int32) (x2 : Int32) (s : lc_St) : Option (Int32) :=
  P_X4_owedBy_5  lc_FU x1 x2 (0 : Int32) (0 : Int32) s
set_option maxRecDepth 100000 in
set_option maxHeartbeats 4000000 in
theorem c_X4_owedBy (S : lc_Se) (l : Launch) (M : lc_MM)  (x1 : Int32) (x2 : Int32) (s : lc_St) (out : Int32) (h : P_X4_owedBy x1 x2 s = some out) : lc_MI S l yX4_owedBy cX4_owedBy 5 (some .int) rm_X4_owedBy [.ref (lc_ad S 197), .int x1, .int x2] (va_up M 22 s) out (va_up M 22 s) := by
  refine lc_mkI (own := RX4) pn_RX4 rfl (Nat.le_of_ble_eq_true rfl) (lo := [(0, .ref (lc_ad S 197)), (1, .int x1), (2, .int x2)]) rfl (fun X hX C => ?_)
  rw [P_X4_owedBy] at h
  refine lc_iconst C (pc' := 1) (v := (0 : Int32)) dX4_owedBy_0 (by decide) rfl ?_
  refine lc_istore_n C (pc' := 2) (lo' := [(3, .int (0 : Int32)), (0, .ref (lc_ad S 197)), (1, .int x1), (2, .int x2)]) dX4_owedBy_1 (Nat.le_of_ble_eq_true rfl) rfl rfl ?_
  refine lc_iconst C (pc' := 3) (v := (0 : Int32)) dX4_owedBy_2 (by decide) rfl ?_
  refine lc_istore C (pc' := 5) (lo' := [(4, .int (0 : Int32)), (3, .int (0 : Int32)), (0, .ref (lc_ad S 197)), (1, .int x1), (2, .int x2)]) dX4_owedBy_3 (Nat.le_of_ble_eq_true rfl) rfl rfl ?_
  refine lc_sub (lo' := [(0, .ref (lc_ad S 197)), (1, .int x1), (2, .int x2), (3, .int (0 : Int32)), (4, .int (0 : Int32))]) [2, 3, 4, 1, 0] rfl ?_
  exact w_X4_owedBy_5 C   out  lc_FU x1 x2 (0 : Int32) (0 : Int32) s h
abbrev rm_X4_burnInterest : Room := { frames := 2, cells := 0, slots := 0, locals := 43 }
def P_X4_burnInterest_133 (K23 : Int32 → lc_St → Option (lc_St)) (x1 : Int32) (t1 : Int32) (t2 : Int32) (s : lc_St) : Option (lc_St) :=
  lc_let (lc_ss s 0 4 (t1 + t2)) (fun s4 => lc_let (x1 + (1 : Int32)) (fun x1_137 => K23 x1_137 s4))
set_option maxRecDepth 100000 in
set_option maxHeartbeats 4000000 in
theorem w_X4_burnInterest_133 {S : lc_Se} {X : lc_X} (C : lc_C X cX4_burnInterest RX4 5 none rm_X4_burnInterest) {M : lc_MM}  (out : lc_St) (K23 : Int32 → lc_St → Option (lc_St)) (hK23 : ∀ (x1 : Int32) (s : lc_St), K23 x1 s = some out → lc_J S X 5 0 0 (lc_QV S X 0 0 (va_up M 22 out)) 23 [(0, .ref (lc_ad S 197)), (1, .int x1)] [] (va_up M 22 s)) : ∀ (x1 : Int32) (t1 : Int32) (t2 : Int32) (s : lc_St), P_X4_burnInterest_133 K23 x1 t1 t2 s = some out → lc_J S X 5 0 0 (lc_QV S X 0 0 (va_up M 22 out)) 133 [(0, .ref (lc_ad S 197)), (1, .int x1)] [.int t2, .int t1, .ref (lc_ad S 197)] (va_up M 22 s) := by
  intro x1 t1 t2 s h
  rw [P_X4_burnInterest_133] at h
  refine lc_iadd C (pc' := 134) dX4_burnInterest_133 rfl ?_
  obtain ⟨s4, es4, h⟩ := lc_let2 h
  refine lc_p197_burned C (pc' := 137) (M' := (va_up M 22 s4)) (va_up_self _ _ _) es4 (lc_up_up _ _ _ _) dX4_burnInterest_134 kf_RX4_71 rfl ?_
  obtain ⟨x1_137, e1_137, h⟩ := lc_let2 h
  refine lc_iinc C (pc' := 140) (lo' := [(1, .int x1_137), (0, .ref (lc_ad S 197))]) (q := 1) dX4_burnInterest_137 rfl (by rw [← e1_137]; rfl) (Nat.le_of_ble_eq_true rfl) rfl rfl ?_
  refine lc_goto C (tgt := 23) dX4_burnInterest_140 (by decide) ?_
  refine lc_sub (lo' := [(0, .ref (lc_ad S 197)), (1, .int x1_137)]) [1, 0] rfl ?_
  exact hK23 x1_137 s4 h
def P_X4_burnInterest_93 (K23 : Int32 → lc_St → Option (lc_St)) (x1 : Int32) (x2 : Int32) (x4 : Int32) (t1 : Int32) (t2 : Int32) (s : lc_St) : Option (lc_St) :=
  lc_if (lc_ok t1 8) (lc_let (lc_ss s 7 (t1.toNatClampNeg) (vp_nar .boolean t2)) (fun s1 => lc_bd (P_X4_more x2 (1 : Int32) (-x4) s1) (fun s2 => lc_let (lc_ss s2 1 5 ((s2 1 5) + x4)) (fun s3 => if x1 = (s3 0 3) then P_X4_burnInterest_133 K23  x1 (s3 0 4) x4 s3 else P_X4_burnInterest_133 K23  x1 (s3 0 4) (0 : Int32) s3))))
set_option maxRecDepth 100000 in
set_option maxHeartbeats 4000000 in
theorem w_X4_burnInterest_93 {S : lc_Se} {X : lc_X} (C : lc_C X cX4_burnInterest RX4 5 none rm_X4_burnInterest) {M : lc_MM}  (out : lc_St) (K23 : Int32 → lc_St → Option (lc_St)) (hK23 : ∀ (x1 : Int32) (s : lc_St), K23 x1 s = some out → lc_J S X 5 0 0 (lc_QV S X 0 0 (va_up M 22 out)) 23 [(0, .ref (lc_ad S 197)), (1, .int x1)] [] (va_up M 22 s)) : ∀ (x1 : Int32) (x2 : Int32) (x4 : Int32) (t1 : Int32) (t2 : Int32) (s : lc_St), P_X4_burnInterest_93 K23 x1 x2 x4 t1 t2 s = some out → lc_J S X 5 0 0 (lc_QV S X 0 0 (va_up M 22 out)) 93 [(0, .ref (lc_ad S 197)), (1, .int x1), (2, .int x2), (4, .int x4)] [.int t2, .int t1, .ref (lc_ad S 204)] (va_up M 22 s) := by
  intro x1 x2 x4 t1 t2 s h
  rw [P_X4_burnInterest_93] at h
  obtain ⟨hi93, h⟩ := lc_ife h
  obtain ⟨s1, es1, h⟩ := lc_let2 h
  refine lc_sd204 C (pc' := 94) (jj := t1.toNatClampNeg) (M' := (va_up M 22 s1)) (va_up_self _ _ _) hi93 rfl es1 (lc_up_up _ _ _ _) dX4_burnInterest_93 rfl ?_
  refine lc_aload_n C (pc' := 95) 0 dX4_burnInterest_94 rfl rfl ?_
  refine lc_iload_n C (pc' := 96) 2 dX4_burnInterest_95 rfl rfl ?_
  refine lc_iconst C (pc' := 97) (v := (1 : Int32)) dX4_burnInterest_96 (by decide) rfl ?_
  refine lc_iload C (pc' := 99) 3 dX4_burnInterest_97 rfl rfl ?_
  refine lc_ineg C (pc' := 100) dX4_burnInterest_99 rfl ?_
  obtain ⟨s2, h100, h⟩ := lc_bde h
  refine lc_cvv C (pc' := 103) (M' := (va_up M 22 s2)) (As := [.int x2, .int (1 : Int32), .int (-x4)]) (rest := []) (c_X4_more S X.2.1 M   x2 (1 : Int32) (-x4) s1 s2 h100) kl_RX4_54 (lc_at197 S _) rfl rfl rfl rfl (Nat.le_of_ble_eq_true rfl) ⟨Nat.le_of_ble_eq_true rfl, Nat.le_of_ble_eq_true rfl⟩ ⟨rfl, rfl⟩ (lc_z2 _ _) dX4_burnInterest_100 rfl ?_
  refine lc_aload_n C (pc' := 104) 0 dX4_burnInterest_103 rfl rfl ?_
  refine lc_g197_now C (pc' := 107) (va_up_self _ _ _) dX4_burnInterest_104 kf_RX4_7 rfl ?_
  refine lc_iconst C (pc' := 108) (v := (5 : Int32)) dX4_burnInterest_107 (by decide) rfl ?_
  refine lc_dup2 C (pc' := 109) dX4_burnInterest_108 rfl rfl rfl ?_
  refine lc_ld198 C (pc' := 110) (jj := 5) (va_up_self _ _ _) (by decide) (by decide) dX4_burnInterest_109 rfl ?_
  refine lc_iload C (pc' := 112) 3 dX4_burnInterest_110 rfl rfl ?_
  refine lc_iadd C (pc' := 113) dX4_burnInterest_112 rfl ?_
  obtain ⟨s3, es3, h⟩ := lc_let2 h
  refine lc_sd198 C (pc' := 114) (jj := 5) (M' := (va_up M 22 s3)) (va_up_self _ _ _) (by decide) (by decide) es3 (lc_up_up _ _ _ _) dX4_burnInterest_113 rfl ?_
  refine lc_aload_n C (pc' := 115) 0 dX4_burnInterest_114 rfl rfl ?_
  refine lc_dup C (pc' := 116) dX4_burnInterest_115 rfl rfl ?_
  refine lc_g197_burned C (pc' := 119) (va_up_self _ _ _) dX4_burnInterest_116 kf_RX4_71 rfl ?_
  refine lc_iload_n C (pc' := 120) 1 dX4_burnInterest_119 rfl rfl ?_
  refine lc_aload_n C (pc' := 121) 0 dX4_burnInterest_120 rfl rfl ?_
  refine lc_g197_watched C (pc' := 124) (va_up_self _ _ _) dX4_burnInterest_121 kf_RX4_61 rfl ?_
  refine lc_icmp_ne C (pc' := 127) (tgt := 132) dX4_burnInterest_124 (by decide) rfl (fun c124 => ?_) (fun c124 => ?_)
  · have h := (lc_if2 h).2 c124
    refine lc_iconst C (pc' := 133) (v := (0 : Int32)) dX4_burnInterest_132 (by decide) rfl ?_
    refine lc_sub (lo' := [(0, .ref (lc_ad S 197)), (1, .int x1)]) [0, 1] rfl ?_
    exact w_X4_burnInterest_133 C   out K23 hK23  x1 (s3 0 4) (0 : Int32) s3 h
  · have h := (lc_if2 h).1 c124
    refine lc_iload C (pc' := 129) 3 dX4_burnInterest_127 rfl rfl ?_
    refine lc_goto C (tgt := 133) dX4_burnInterest_129 (by decide) ?_
    refine lc_sub (lo' := [(0, .ref (lc_ad S 197)), (1, .int x1)]) [0, 1] rfl ?_
    exact w_X4_burnInterest_133 C   out K23 hK23  x1 (s3 0 4) x4 s3 h
def P_X4_burnInterest_88 (K23 : Int32 → lc_St → Option (lc_St)) (x1 : Int32) (x2 : Int32) (x4 : Int32) (t1 : Int32) (s : lc_St) : Option (lc_St) :=
  P_X4_burnInterest_93 K23  x1 x2 x4 t1 (1 : Int32) s
set_option maxRecDepth 100000 in
set_option maxHeartbeats 4000000 in
theorem w_X4_burnInterest_88 {S : lc_Se} {X : lc_X} (C : lc_C X cX4_burnInterest RX4 5 none rm_X4_burnInterest) {M : lc_MM}  (out : lc_St) (K23 : Int32 → lc_St → Option (lc_St)) (hK23 : ∀ (x1 : Int32) (s : lc_St), K23 x1 s = some out → lc_J S X 5 0 0 (lc_QV S X 0 0 (va_up M 22 out)) 23 [(0, .ref (lc_ad S 197)), (1, .int x1)] [] (va_up M 22 s)) : ∀ (x1 : Int32) (x2 : Int32) (x4 : Int32) (t1 : Int32) (s : lc_St), P_X4_burnInterest_88 K23 x1 x2 x4 t1 s = some out → lc_J S X 5 0 0 (lc_QV S X 0 0 (va_up M 22 out)) 88 [(0, .ref (lc_ad S 197)), (1, .int x1), (2, .int x2), (4, .int x4)] [.int t1, .ref (lc_ad S 204)] (va_up M 22 s) := by
  intro x1 x2 x4 t1 s h
  rw [P_X4_burnInterest_88] at h
  refine lc_iconst C (pc' := 89) (v := (1 : Int32)) dX4_burnInterest_88 (by decide) rfl ?_
  refine lc_goto C (tgt := 93) dX4_burnInterest_89 (by decide) ?_
  exact w_X4_burnInterest_93 C   out K23 hK23  x1 x2 x4 t1 (1 : Int32) s h
def P_X4_burnInterest_66 (K23 : Int32 → lc_St → Option (lc_St)) (x1 : Int32) (x2 : Int32) (x3 : Int32) (t0 : Int32) (s : lc_St) : Option (lc_St) :=
  lc_if (lc_ok x2 8) (if (s 7 x2.toNatClampNeg) = 0 then if x3 ≤ t0 then P_X4_burnInterest_93 K23  x1 x2 t0 x2 (0 : Int32) s else P_X4_burnInterest_88 K23  x1 x2 t0 x2 s else P_X4_burnInterest_88 K23  x1 x2 t0 x2 s)
set_option maxRecDepth 100000 in
set_option maxHeartbeats 4000000 in
theorem w_X4_burnInterest_66 {S : lc_Se} {X : lc_X} (C : lc_C X cX4_burnInterest RX4 5 none rm_X4_burnInterest) {M : lc_MM}  (out : lc_St) (K23 : Int32 → lc_St → Option (lc_St)) (hK23 : ∀ (x1 : Int32) (s : lc_St), K23 x1 s = some out → lc_J S X 5 0 0 (lc_QV S X 0 0 (va_up M 22 out)) 23 [(0, .ref (lc_ad S 197)), (1, .int x1)] [] (va_up M 22 s)) : ∀ (x1 : Int32) (x2 : Int32) (x3 : Int32) (t0 : Int32) (s : lc_St), P_X4_burnInterest_66 K23 x1 x2 x3 t0 s = some out → lc_J S X 5 0 0 (lc_QV S X 0 0 (va_up M 22 out)) 66 [(0, .ref (lc_ad S 197)), (1, .int x1), (2, .int x2), (3, .int x3)] [.int t0] (va_up M 22 s) := by
  intro x1 x2 x3 t0 s h
  rw [P_X4_burnInterest_66] at h
  refine lc_istore C (pc' := 68) (lo' := [(4, .int t0), (0, .ref (lc_ad S 197)), (1, .int x1), (2, .int x2), (3, .int x3)]) dX4_burnInterest_66 (Nat.le_of_ble_eq_true rfl) rfl rfl ?_
  refine lc_aload_n C (pc' := 69) 1 dX4_burnInterest_68 rfl rfl ?_
  refine lc_g197_hasMissed C (pc' := 72) (va_up_self _ _ _) dX4_burnInterest_69 kf_RX4_29 rfl ?_
  refine lc_iload_n C (pc' := 73) 3 dX4_burnInterest_72 rfl rfl ?_
  refine lc_aload_n C (pc' := 74) 1 dX4_burnInterest_73 rfl rfl ?_
  refine lc_g197_hasMissed C (pc' := 77) (va_up_self _ _ _) dX4_burnInterest_74 kf_RX4_29 rfl ?_
  refine lc_iload_n C (pc' := 78) 3 dX4_burnInterest_77 rfl rfl ?_
  obtain ⟨hi78, h⟩ := lc_ife h
  refine lc_ld204 C (pc' := 79) (jj := x2.toNatClampNeg) (va_up_self _ _ _) hi78 rfl dX4_burnInterest_78 rfl ?_
  refine lc_if_ne C (pc' := 82) (tgt := 88) dX4_burnInterest_79 (by decide) rfl (fun c79 => ?_) (fun c79 => ?_)
  · have h := (lc_if2 h).2 c79
    refine lc_sub (lo' := [(0, .ref (lc_ad S 197)), (1, .int x1), (2, .int x2), (4, .int t0)]) [1, 2, 3, 0] rfl ?_
    exact w_X4_burnInterest_88 C   out K23 hK23  x1 x2 t0 x2 s h
  · have h := (lc_if2 h).1 c79
    refine lc_iload C (pc' := 84) 0 dX4_burnInterest_82 rfl rfl ?_
    refine lc_iload_n C (pc' := 85) 4 dX4_burnInterest_84 rfl rfl ?_
    refine lc_icmp_ge C (pc' := 88) (tgt := 92) dX4_burnInterest_85 (by decide) rfl (fun c85 => ?_) (fun c85 => ?_)
    · have h := (lc_if2 h).1 c85
      refine lc_iconst C (pc' := 93) (v := (0 : Int32)) dX4_burnInterest_92 (by decide) rfl ?_
      refine lc_sub (lo' := [(0, .ref (lc_ad S 197)), (1, .int x1), (2, .int x2), (4, .int t0)]) [1, 2, 3, 0] rfl ?_
      exact w_X4_burnInterest_93 C   out K23 hK23  x1 x2 t0 x2 (0 : Int32) s h
    · have h := (lc_if2 h).2 c85
      refine lc_sub (lo' := [(0, .ref (lc_ad S 197)), (1, .int x1), (2, .int x2), (4, .int t0)]) [1, 2, 3, 0] rfl ?_
      exact w_X4_burnInterest_88 C   out K23 hK23  x1 x2 t0 x2 s h
def P_X4_burnInterest_23  : Nat → Int32 → lc_St → Option (lc_St)
  | 0, _, _ => none
  | n + 1, x1, s =>
    if (s 1 2) ≤ x1 then some s else lc_bd (P_X4_ofLoan x1 (1 : Int32) s) (fun r36 => lc_bd (P_X4_interest x1 s) (fun r42 => lc_bd (P_X4_of r36 (1 : Int32) s) (fun r49 => if r42 ≤ r49 then P_X4_burnInterest_66 (fun x1 s => P_X4_burnInterest_23  n x1 s)  x1 r36 r42 r42 s else lc_bd (P_X4_of r36 (1 : Int32) s) (fun r59 => P_X4_burnInterest_66 (fun x1 s => P_X4_burnInterest_23  n x1 s)  x1 r36 r42 r59 s))))
set_option maxRecDepth 100000 in
set_option maxHeartbeats 4000000 in
theorem w_X4_burnInterest_23 {S : lc_Se} {X : lc_X} (C : lc_C X cX4_burnInterest RX4 5 none rm_X4_burnInterest) {M : lc_MM}  (out : lc_St)  : ∀ (n : Nat) (x1 : Int32) (s : lc_St), P_X4_burnInterest_23  n x1 s = some out → lc_J S X 5 0 0 (lc_QV S X 0 0 (va_up M 22 out)) 23 [(0, .ref (lc_ad S 197)), (1, .int x1)] [] (va_up M 22 s) := by
  intro n
  induction n with
  | zero =>
    intro x1 s h
    rw [P_X4_burnInterest_23] at h
    cases h
  | succ n ih =>
    intro x1 s h
    rw [P_X4_burnInterest_23] at h
    refine lc_iload_n C (pc' := 24) 1 dX4_burnInterest_23 rfl rfl ?_
    refine lc_aload_n C (pc' := 25) 0 dX4_burnInterest_24 rfl rfl ?_
    refine lc_g197_now C (pc' := 28) (va_up_self _ _ _) dX4_burnInterest_25 kf_RX4_7 rfl ?_
    refine lc_iconst C (pc' := 29) (v := (2 : Int32)) dX4_burnInterest_28 (by decide) rfl ?_
    refine lc_ld198 C (pc' := 30) (jj := 2) (va_up_self _ _ _) (by decide) (by decide) dX4_burnInterest_29 rfl ?_
    refine lc_icmp_ge C (pc' := 33) (tgt := 143) dX4_burnInterest_30 (by decide) rfl (fun c30 => ?_) (fun c30 => ?_)
    · have h := (lc_if2 h).1 c30
      obtain rfl := Option.some.inj h
      exact lc_vret C rfl dX4_burnInterest_143
    · have h := (lc_if2 h).2 c30
      refine lc_aload_n C (pc' := 34) 0 dX4_burnInterest_33 rfl rfl ?_
      refine lc_iload_n C (pc' := 35) 1 dX4_burnInterest_34 rfl rfl ?_
      refine lc_iconst C (pc' := 36) (v := (1 : Int32)) dX4_burnInterest_35 (by decide) rfl ?_
      obtain ⟨r36, h36, h⟩ := lc_bde h
      refine lc_cvi C (pc' := 39) (r := r36) (M' := (va_up M 22 s)) (As := [.int x1, .int (1 : Int32)]) (rest := []) (c_X4_ofLoan S X.2.1 M   x1 (1 : Int32) s r36 h36) kl_RX4_64 (lc_at197 S _) rfl rfl rfl rfl (Nat.le_of_ble_eq_true rfl) ⟨Nat.le_of_ble_eq_true rfl, Nat.le_of_ble_eq_true rfl⟩ ⟨rfl, rfl⟩ (lc_z2 _ _) dX4_burnInterest_36 rfl ?_
      refine lc_istore_n C (pc' := 40) (lo' := [(2, .int r36), (0, .ref (lc_ad S 197)), (1, .int x1)]) dX4_burnInterest_39 (Nat.le_of_ble_eq_true rfl) rfl rfl ?_
      refine lc_aload_n C (pc' := 41) 1 dX4_burnInterest_40 rfl rfl ?_
      refine lc_iload_n C (pc' := 42) 2 dX4_burnInterest_41 rfl rfl ?_
      obtain ⟨r42, h42, h⟩ := lc_bde h
      refine lc_cvi C (pc' := 45) (r := r42) (M' := (va_up M 22 s)) (As := [.int x1]) (rest := []) (c_X4_interest S X.2.1 M   x1 s r42 h42) kl_RX4_67 (lc_at197 S _) rfl rfl rfl rfl (Nat.le_of_ble_eq_true rfl) ⟨Nat.le_of_ble_eq_true rfl, Nat.le_of_ble_eq_true rfl⟩ ⟨rfl, rfl⟩ (lc_z2 _ _) dX4_burnInterest_42 rfl ?_
      refine lc_istore_n C (pc' := 46) (lo' := [(3, .int r42), (2, .int r36), (0, .ref (lc_ad S 197)), (1, .int x1)]) dX4_burnInterest_45 (Nat.le_of_ble_eq_true rfl) rfl rfl ?_
      refine lc_aload_n C (pc' := 47) 2 dX4_burnInterest_46 rfl rfl ?_
      refine lc_iload_n C (pc' := 48) 1 dX4_burnInterest_47 rfl rfl ?_
      refine lc_iconst C (pc' := 49) (v := (1 : Int32)) dX4_burnInterest_48 (by decide) rfl ?_
      obtain ⟨r49, h49, h⟩ := lc_bde h
      refine lc_cvi C (pc' := 52) (r := r49) (M' := (va_up M 22 s)) (As := [.int r36, .int (1 : Int32)]) (rest := []) (c_X4_of S X.2.1 M   r36 (1 : Int32) s r49 h49) kl_RX4_43 (lc_at197 S _) rfl rfl rfl rfl (Nat.le_of_ble_eq_true rfl) ⟨Nat.le_of_ble_eq_true rfl, Nat.le_of_ble_eq_true rfl⟩ ⟨rfl, rfl⟩ (lc_z2 _ _) dX4_burnInterest_49 rfl ?_
      refine lc_iload_n C (pc' := 53) 0 dX4_burnInterest_52 rfl rfl ?_
      refine lc_icmp_ge C (pc' := 56) (tgt := 65) dX4_burnInterest_53 (by decide) rfl (fun c53 => ?_) (fun c53 => ?_)
      · have h := (lc_if2 h).1 c53
        refine lc_iload_n C (pc' := 66) 0 dX4_burnInterest_65 rfl rfl ?_
        refine lc_sub (lo' := [(0, .ref (lc_ad S 197)), (1, .int x1), (2, .int r36), (3, .int r42)]) [2, 3, 1, 0] rfl ?_
        exact w_X4_burnInterest_66 C   out (fun x1 s => P_X4_burnInterest_23  n x1 s) ih  x1 r36 r42 r42 s h
      · have h := (lc_if2 h).2 c53
        refine lc_aload_n C (pc' := 57) 2 dX4_burnInterest_56 rfl rfl ?_
        refine lc_iload_n C (pc' := 58) 1 dX4_burnInterest_57 rfl rfl ?_
        refine lc_iconst C (pc' := 59) (v := (1 : Int32)) dX4_burnInterest_58 (by decide) rfl ?_
        obtain ⟨r59, h59, h⟩ := lc_bde h
        refine lc_cvi C (pc' := 62) (r := r59) (M' := (va_up M 22 s)) (As := [.int r36, .int (1 : Int32)]) (rest := []) (c_X4_of S X.2.1 M   r36 (1 : Int32) s r59 h59) kl_RX4_43 (lc_at197 S _) rfl rfl rfl rfl (Nat.le_of_ble_eq_true rfl) ⟨Nat.le_of_ble_eq_true rfl, Nat.le_of_ble_eq_true rfl⟩ ⟨rfl, rfl⟩ (lc_z2 _ _) dX4_burnInterest_59 rfl ?_
        refine lc_goto C (tgt := 66) dX4_burnInterest_62 (by decide) ?_
        refine lc_sub (lo' := [(0, .ref (lc_ad S 197)), (1, .int x1), (2, .int r36), (3, .int r42)]) [2, 3, 1, 0] rfl ?_
        exact w_X4_burnInterest_66 C   out (fun x1 s => P_X4_burnInterest_23  n x1 s) ih  x1 r36 r42 r59 s h
def P_X4_burnInterest_2  : Nat → Int32 → lc_St → Option (lc_St)
  | 0, _, _ => none
  | n + 1, x1, s =>
    if (8 : Int32) ≤ x1 then P_X4_burnInterest_23  lc_FU (0 : Int32) s else lc_if (lc_ok x1 8) (lc_let (lc_ss s 7 (x1.toNatClampNeg) (vp_nar .boolean (0 : Int32))) (fun s5 => lc_let (x1 + (1 : Int32)) (fun x1_15 => P_X4_burnInterest_2  n x1_15 s5)))
set_option maxRecDepth 100000 in
set_option maxHeartbeats 4000000 in
theorem w_X4_burnInterest_2 {S : lc_Se} {X : lc_X} (C : lc_C X cX4_burnInterest RX4 5 none rm_X4_burnInterest) {M : lc_MM}  (out : lc_St)  : ∀ (n : Nat) (x1 : Int32) (s : lc_St), P_X4_burnInterest_2  n x1 s = some out → lc_J S X 5 0 0 (lc_QV S X 0 0 (va_up M 22 out)) 2 [(0, .ref (lc_ad S 197)), (1, .int x1)] [] (va_up M 22 s) := by
  intro n
  induction n with
  | zero =>
    intro x1 s h
    rw [P_X4_burnInterest_2] at h
    cases h
  | succ n ih =>
    intro x1 s h
    rw [P_X4_burnInterest_2] at h
    refine lc_iload_n C (pc' := 3) 1 dX4_burnInterest_2 rfl rfl ?_
    refine lc_bipush C (pc' := 5) (v := (8 : Int32)) dX4_burnInterest_3 (by decide) rfl ?_
    refine lc_icmp_ge C (pc' := 8) (tgt := 21) dX4_burnInterest_5 (by decide) rfl (fun c5 => ?_) (fun c5 => ?_)
    · have h := (lc_if2 h).1 c5
      refine lc_iconst C (pc' := 22) (v := (0 : Int32)) dX4_burnInterest_21 (by decide) rfl ?_
      refine lc_istore_n C (pc' := 23) (lo' := [(1, .int (0 : Int32)), (0, .ref (lc_ad S 197))]) dX4_burnInterest_22 (Nat.le_of_ble_eq_true rfl) rfl rfl ?_
      refine lc_sub (lo' := [(0, .ref (lc_ad S 197)), (1, .int (0 : Int32))]) [1, 0] rfl ?_
      exact w_X4_burnInterest_23 C   out  lc_FU (0 : Int32) s h
    · have h := (lc_if2 h).2 c5
      refine lc_aload_n C (pc' := 9) 0 dX4_burnInterest_8 rfl rfl ?_
      refine lc_g197_hasMissed C (pc' := 12) (va_up_self _ _ _) dX4_burnInterest_9 kf_RX4_29 rfl ?_
      refine lc_iload_n C (pc' := 13) 1 dX4_burnInterest_12 rfl rfl ?_
      refine lc_iconst C (pc' := 14) (v := (0 : Int32)) dX4_burnInterest_13 (by decide) rfl ?_
      obtain ⟨hi14, h⟩ := lc_ife h
      obtain ⟨s5, es5, h⟩ := lc_let2 h
      refine lc_sd204 C (pc' := 15) (jj := x1.toNatClampNeg) (M' := (va_up M 22 s5)) (va_up_self _ _ _) hi14 rfl es5 (lc_up_up _ _ _ _) dX4_burnInterest_14 rfl ?_
      obtain ⟨x1_15, e1_15, h⟩ := lc_let2 h
      refine lc_iinc C (pc' := 18) (lo' := [(1, .int x1_15), (0, .ref (lc_ad S 197))]) (q := 1) dX4_burnInterest_15 rfl (by rw [← e1_15]; rfl) (Nat.le_of_ble_eq_true rfl) rfl rfl ?_
      refine lc_goto C (tgt := 2) dX4_burnInterest_18 (by decide) ?_
      refine lc_sub (lo' := [(0, .ref (lc_ad S 197)), (1, .int x1_15)]) [1, 0] rfl ?_
      exact ih x1_15 s5 h
def P_X4_burnInterest   (s : lc_St) : Option (lc_St) :=
  P_X4_burnInterest_2  lc_FU (0 : Int32) s
set_option maxRecDepth 100000 in
set_option maxHeartbeats 4000000 in
theorem c_X4_burnInterest (S : lc_Se) (l : Launch) (M : lc_MM)   (s : lc_St) (out : lc_St) (h : P_X4_burnInterest  s = some out) : lc_MV S l yX4_burnInterest cX4_burnInterest 5 none rm_X4_burnInterest [.ref (lc_ad S 197)] (va_up M 22 s)  (va_up M 22 out) := by
  refine lc_mkV (own := RX4) pn_RX4 rfl (Nat.le_of_ble_eq_true rfl) (lo := [(0, .ref (lc_ad S 197))]) rfl (fun X hX C => ?_)
  rw [P_X4_burnInterest] at h
  refine lc_iconst C (pc' := 1) (v := (0 : Int32)) dX4_burnInterest_0 (by decide) rfl ?_
  refine lc_istore_n C (pc' := 2) (lo' := [(1, .int (0 : Int32)), (0, .ref (lc_ad S 197))]) dX4_burnInterest_1 (Nat.le_of_ble_eq_true rfl) rfl rfl ?_
  refine lc_sub (lo' := [(0, .ref (lc_ad S 197)), (1, .int (0 : Int32))]) [1, 0] rfl ?_
  exact w_X4_burnInterest_2 C   out  lc_FU (0 : Int32) s h
abbrev rm_X4_breaks : Room := { frames := 2, cells := 0, slots := 0, locals := 46 }
def P_X4_breaks_226 (K176 : Int32 → Int32 → lc_St → Option (lc_St)) (x1 : Int32) (x5 : Int32) (s : lc_St) : Option (lc_St) :=
  lc_let (x5 + (-1 : Int32)) (fun x5_226 => K176 x1 x5_226 s)
set_option maxRecDepth 100000 in
set_option maxHeartbeats 4000000 in
theorem w_X4_breaks_226 {S : lc_Se} {X : lc_X} (C : lc_C X cX4_breaks RX4 9 none rm_X4_breaks) {M : lc_MM}  (out : lc_St) (K176 : Int32 → Int32 → lc_St → Option (lc_St)) (hK176 : ∀ (x1 : Int32) (x5 : Int32) (s : lc_St), K176 x1 x5 s = some out → lc_J S X 9 0 0 (lc_QV S X 0 0 (va_up M 22 out)) 176 [(0, .ref (lc_ad S 197)), (1, .int x1), (5, .int x5)] [] (va_up M 22 s)) : ∀ (x1 : Int32) (x5 : Int32) (s : lc_St), P_X4_breaks_226 K176 x1 x5 s = some out → lc_J S X 9 0 0 (lc_QV S X 0 0 (va_up M 22 out)) 226 [(0, .ref (lc_ad S 197)), (1, .int x1), (5, .int x5)] [] (va_up M 22 s) := by
  intro x1 x5 s h
  rw [P_X4_breaks_226] at h
  obtain ⟨x5_226, e5_226, h⟩ := lc_let2 h
  refine lc_iinc C (pc' := 229) (lo' := [(5, .int x5_226), (0, .ref (lc_ad S 197)), (1, .int x1)]) (q := 2) dX4_breaks_226 rfl (by rw [← e5_226]; rfl) (Nat.le_of_ble_eq_true rfl) rfl rfl ?_
  refine lc_goto C (tgt := 176) dX4_breaks_229 (by decide) ?_
  refine lc_sub (lo' := [(0, .ref (lc_ad S 197)), (1, .int x1), (5, .int x5_226)]) [1, 2, 0] rfl ?_
  exact hK176 x1 x5_226 s h
def P_X4_breaks_203 (K176 : Int32 → Int32 → lc_St → Option (lc_St)) (x1 : Int32) (x5 : Int32) (s : lc_St) : Option (lc_St) :=
  lc_bd (P_X4_ofLoan x5 (2 : Int32) s) (fun r215 => lc_let (lc_ss s 1 6 ((s 1 6) + r215)) (fun s4 => lc_bd (P_X4_removeLoan x5 s4) (fun s5 => P_X4_breaks_226 K176  x1 x5 s5)))
set_option maxRecDepth 100000 in
set_option maxHeartbeats 4000000 in
theorem w_X4_breaks_203 {S : lc_Se} {X : lc_X} (C : lc_C X cX4_breaks RX4 9 none rm_X4_breaks) {M : lc_MM}  (out : lc_St) (K176 : Int32 → Int32 → lc_St → Option (lc_St)) (hK176 : ∀ (x1 : Int32) (x5 : Int32) (s : lc_St), K176 x1 x5 s = some out → lc_J S X 9 0 0 (lc_QV S X 0 0 (va_up M 22 out)) 176 [(0, .ref (lc_ad S 197)), (1, .int x1), (5, .int x5)] [] (va_up M 22 s)) : ∀ (x1 : Int32) (x5 : Int32) (s : lc_St), P_X4_breaks_203 K176 x1 x5 s = some out → lc_J S X 9 0 0 (lc_QV S X 0 0 (va_up M 22 out)) 203 [(0, .ref (lc_ad S 197)), (1, .int x1), (5, .int x5)] [] (va_up M 22 s) := by
  intro x1 x5 s h
  rw [P_X4_breaks_203] at h
  refine lc_aload_n C (pc' := 204) 0 dX4_breaks_203 rfl rfl ?_
  refine lc_g197_now C (pc' := 207) (va_up_self _ _ _) dX4_breaks_204 kf_RX4_7 rfl ?_
  refine lc_bipush C (pc' := 209) (v := (6 : Int32)) dX4_breaks_207 (by decide) rfl ?_
  refine lc_dup2 C (pc' := 210) dX4_breaks_209 rfl rfl rfl ?_
  refine lc_ld198 C (pc' := 211) (jj := 6) (va_up_self _ _ _) (by decide) (by decide) dX4_breaks_210 rfl ?_
  refine lc_aload_n C (pc' := 212) 0 dX4_breaks_211 rfl rfl ?_
  refine lc_iload C (pc' := 214) 2 dX4_breaks_212 rfl rfl ?_
  refine lc_iconst C (pc' := 215) (v := (2 : Int32)) dX4_breaks_214 (by decide) rfl ?_
  obtain ⟨r215, h215, h⟩ := lc_bde h
  refine lc_cvi C (pc' := 218) (r := r215) (M' := (va_up M 22 s)) (As := [.int x5, .int (2 : Int32)]) (rest := [.int (s 1 6), .int (6 : Int32), .ref (lc_ad S 198)]) (c_X4_ofLoan S X.2.1 M   x5 (2 : Int32) s r215 h215) kl_RX4_64 (lc_at197 S _) rfl rfl rfl rfl (Nat.le_of_ble_eq_true rfl) ⟨Nat.le_of_ble_eq_true rfl, Nat.le_of_ble_eq_true rfl⟩ ⟨rfl, rfl⟩ (lc_z2 _ _) dX4_breaks_215 rfl ?_
  refine lc_iadd C (pc' := 219) dX4_breaks_218 rfl ?_
  obtain ⟨s4, es4, h⟩ := lc_let2 h
  refine lc_sd198 C (pc' := 220) (jj := 6) (M' := (va_up M 22 s4)) (va_up_self _ _ _) (by decide) (by decide) es4 (lc_up_up _ _ _ _) dX4_breaks_219 rfl ?_
  refine lc_aload_n C (pc' := 221) 0 dX4_breaks_220 rfl rfl ?_
  refine lc_iload C (pc' := 223) 2 dX4_breaks_221 rfl rfl ?_
  obtain ⟨s5, h223, h⟩ := lc_bde h
  refine lc_cvv C (pc' := 226) (M' := (va_up M 22 s5)) (As := [.int x5]) (rest := []) (c_X4_removeLoan S X.2.1 M   x5 s4 s5 h223) kl_RX4_77 (lc_at197 S _) rfl rfl rfl rfl (Nat.le_of_ble_eq_true rfl) ⟨Nat.le_of_ble_eq_true rfl, Nat.le_of_ble_eq_true rfl⟩ ⟨rfl, rfl⟩ (lc_z2 _ _) dX4_breaks_223 rfl ?_
  exact w_X4_breaks_226 C   out K176 hK176  x1 x5 s5 h
def P_X4_breaks_176  : Nat → Int32 → Int32 → lc_St → Option (lc_St)
  | 0, _, _, _ => none
  | n + 1, x1, x5, s =>
    if x5 < 0 then some s else lc_bd (P_X4_ofLoan x5 (1 : Int32) s) (fun r185 => if r185 = x1 then P_X4_breaks_203 (fun x1 x5 s => P_X4_breaks_176  n x1 x5 s)  x1 x5 s else lc_bd (P_X4_ofLoan x5 (0 : Int32) s) (fun r196 => if r196 = x1 then P_X4_breaks_203 (fun x1 x5 s => P_X4_breaks_176  n x1 x5 s)  x1 x5 s else P_X4_breaks_226 (fun x1 x5 s => P_X4_breaks_176  n x1 x5 s)  x1 x5 s))
set_option maxRecDepth 100000 in
set_option maxHeartbeats 4000000 in
theorem w_X4_breaks_176 {S : lc_Se} {X : lc_X} (C : lc_C X cX4_breaks RX4 9 none rm_X4_breaks) {M : lc_MM}  (out : lc_St)  : ∀ (n : Nat) (x1 : Int32) (x5 : Int32) (s : lc_St), P_X4_breaks_176  n x1 x5 s = some out → lc_J S X 9 0 0 (lc_QV S X 0 0 (va_up M 22 out)) 176 [(0, .ref (lc_ad S 197)), (1, .int x1), (5, .int x5)] [] (va_up M 22 s) := by
  intro n
  induction n with
  | zero =>
    intro x1 x5 s h
    rw [P_X4_breaks_176] at h
    cases h
  | succ n ih =>
    intro x1 x5 s h
    rw [P_X4_breaks_176] at h
    refine lc_iload C (pc' := 178) 2 dX4_breaks_176 rfl rfl ?_
    refine lc_if_lt C (pc' := 181) (tgt := 232) dX4_breaks_178 (by decide) rfl (fun c178 => ?_) (fun c178 => ?_)
    · have h := (lc_if2 h).1 c178
      obtain rfl := Option.some.inj h
      exact lc_vret C rfl dX4_breaks_232
    · have h := (lc_if2 h).2 c178
      refine lc_aload_n C (pc' := 182) 0 dX4_breaks_181 rfl rfl ?_
      refine lc_iload C (pc' := 184) 2 dX4_breaks_182 rfl rfl ?_
      refine lc_iconst C (pc' := 185) (v := (1 : Int32)) dX4_breaks_184 (by decide) rfl ?_
      obtain ⟨r185, h185, h⟩ := lc_bde h
      refine lc_cvi C (pc' := 188) (r := r185) (M' := (va_up M 22 s)) (As := [.int x5, .int (1 : Int32)]) (rest := []) (c_X4_ofLoan S X.2.1 M   x5 (1 : Int32) s r185 h185) kl_RX4_64 (lc_at197 S _) rfl rfl rfl rfl (Nat.le_of_ble_eq_true rfl) ⟨Nat.le_of_ble_eq_true rfl, Nat.le_of_ble_eq_true rfl⟩ ⟨rfl, rfl⟩ (lc_z2 _ _) dX4_breaks_185 rfl ?_
      refine lc_iload_n C (pc' := 189) 1 dX4_breaks_188 rfl rfl ?_
      refine lc_icmp_eq C (pc' := 192) (tgt := 203) dX4_breaks_189 (by decide) rfl (fun c189 => ?_) (fun c189 => ?_)
      · have h := (lc_if2 h).1 c189
        exact w_X4_breaks_203 C   out (fun x1 x5 s => P_X4_breaks_176  n x1 x5 s) ih  x1 x5 s h
      · have h := (lc_if2 h).2 c189
        refine lc_aload_n C (pc' := 193) 0 dX4_breaks_192 rfl rfl ?_
        refine lc_iload C (pc' := 195) 2 dX4_breaks_193 rfl rfl ?_
        refine lc_iconst C (pc' := 196) (v := (0 : Int32)) dX4_breaks_195 (by decide) rfl ?_
        obtain ⟨r196, h196, h⟩ := lc_bde h
        refine lc_cvi C (pc' := 199) (r := r196) (M' := (va_up M 22 s)) (As := [.int x5, .int (0 : Int32)]) (rest := []) (c_X4_ofLoan S X.2.1 M   x5 (0 : Int32) s r196 h196) kl_RX4_64 (lc_at197 S _) rfl rfl rfl rfl (Nat.le_of_ble_eq_true rfl) ⟨Nat.le_of_ble_eq_true rfl, Nat.le_of_ble_eq_true rfl⟩ ⟨rfl, rfl⟩ (lc_z2 _ _) dX4_breaks_196 rfl ?_
        refine lc_iload_n C (pc' := 200) 1 dX4_breaks_199 rfl rfl ?_
        refine lc_icmp_ne C (pc' := 203) (tgt := 226) dX4_breaks_200 (by decide) rfl (fun c200 => ?_) (fun c200 => ?_)
        · have h := (lc_if2 h).2 c200
          exact w_X4_breaks_226 C   out (fun x1 x5 s => P_X4_breaks_176  n x1 x5 s) ih  x1 x5 s h
        · have h := (lc_if2 h).1 c200
          exact w_X4_breaks_203 C   out (fun x1 x5 s => P_X4_breaks_176  n x1 x5 s) ih  x1 x5 s h
def P_X4_breaks_134 (K20 : Int32 → Int32 → Int32 → Int32 → Int32 → lc_St → Option (lc_St)) (x1 : Int32) (x2 : Int32) (x3 : Int32) (x4 : Int32) (x5 : Int32) (s : lc_St) : Option (lc_St) :=
  lc_let (x5 + (1 : Int32)) (fun x5_134 => K20 x1 x2 x3 x4 x5_134 s)
set_option maxRecDepth 100000 in
set_option maxHeartbeats 4000000 in
theorem w_X4_breaks_134 {S : lc_Se} {X : lc_X} (C : lc_C X cX4_breaks RX4 9 none rm_X4_breaks) {M : lc_MM}  (out : lc_St) (K20 : Int32 → Int32 → Int32 → Int32 → Int32 → lc_St → Option (lc_St)) (hK20 : ∀ (x1 : Int32) (x2 : Int32) (x3 : Int32) (x4 : Int32) (x5 : Int32) (s : lc_St), K20 x1 x2 x3 x4 x5 s = some out → lc_J S X 9 0 0 (lc_QV S X 0 0 (va_up M 22 out)) 20 [(0, .ref (lc_ad S 197)), (1, .int x1), (2, .int x2), (3, .int x3), (4, .int x4), (5, .int x5)] [] (va_up M 22 s)) : ∀ (x1 : Int32) (x2 : Int32) (x3 : Int32) (x4 : Int32) (x5 : Int32) (s : lc_St), P_X4_breaks_134 K20 x1 x2 x3 x4 x5 s = some out → lc_J S X 9 0 0 (lc_QV S X 0 0 (va_up M 22 out)) 134 [(0, .ref (lc_ad S 197)), (1, .int x1), (2, .int x2), (3, .int x3), (4, .int x4), (5, .int x5)] [] (va_up M 22 s) := by
  intro x1 x2 x3 x4 x5 s h
  rw [P_X4_breaks_134] at h
  obtain ⟨x5_134, e5_134, h⟩ := lc_let2 h
  refine lc_iinc C (pc' := 137) (lo' := [(5, .int x5_134), (0, .ref (lc_ad S 197)), (1, .int x1), (2, .int x2), (3, .int x3), (4, .int x4)]) (q := 5) dX4_breaks_134 rfl (by rw [← e5_134]; rfl) (Nat.le_of_ble_eq_true rfl) rfl rfl ?_
  refine lc_goto C (tgt := 20) dX4_breaks_137 (by decide) ?_
  refine lc_sub (lo' := [(0, .ref (lc_ad S 197)), (1, .int x1), (2, .int x2), (3, .int x3), (4, .int x4), (5, .int x5_134)]) [1, 2, 3, 4, 5, 0] rfl ?_
  exact hK20 x1 x2 x3 x4 x5_134 s h
def P_X4_breaks_132 (K20 : Int32 → Int32 → Int32 → Int32 → Int32 → lc_St → Option (lc_St)) (x1 : Int32) (x2 : Int32) (x3 : Int32) (x4 : Int32) (x5 : Int32) (t1 : Int32) (t2 : Int32) (t3 : Int32) (s : lc_St) : Option (lc_St) :=
  lc_if (lc_ok t1 107) (lc_let (lc_ss s 1 (t1.toNatClampNeg) (t2 + t3)) (fun s7 => P_X4_breaks_134 K20  x1 x2 x3 x4 x5 s7))
set_option maxRecDepth 100000 in
set_option maxHeartbeats 4000000 in
theorem w_X4_breaks_132 {S : lc_Se} {X : lc_X} (C : lc_C X cX4_breaks RX4 9 none rm_X4_breaks) {M : lc_MM}  (out : lc_St) (K20 : Int32 → Int32 → Int32 → Int32 → Int32 → lc_St → Option (lc_St)) (hK20 : ∀ (x1 : Int32) (x2 : Int32) (x3 : Int32) (x4 : Int32) (x5 : Int32) (s : lc_St), K20 x1 x2 x3 x4 x5 s = some out → lc_J S X 9 0 0 (lc_QV S X 0 0 (va_up M 22 out)) 20 [(0, .ref (lc_ad S 197)), (1, .int x1), (2, .int x2), (3, .int x3), (4, .int x4), (5, .int x5)] [] (va_up M 22 s)) : ∀ (x1 : Int32) (x2 : Int32) (x3 : Int32) (x4 : Int32) (x5 : Int32) (t1 : Int32) (t2 : Int32) (t3 : Int32) (s : lc_St), P_X4_breaks_132 K20 x1 x2 x3 x4 x5 t1 t2 t3 s = some out → lc_J S X 9 0 0 (lc_QV S X 0 0 (va_up M 22 out)) 132 [(0, .ref (lc_ad S 197)), (1, .int x1), (2, .int x2), (3, .int x3), (4, .int x4), (5, .int x5)] [.int t3, .int t2, .int t1, .ref (lc_ad S 198)] (va_up M 22 s) := by
  intro x1 x2 x3 x4 x5 t1 t2 t3 s h
  rw [P_X4_breaks_132] at h
  refine lc_iadd C (pc' := 133) dX4_breaks_132 rfl ?_
  obtain ⟨hi133, h⟩ := lc_ife h
  obtain ⟨s7, es7, h⟩ := lc_let2 h
  refine lc_sd198 C (pc' := 134) (jj := t1.toNatClampNeg) (M' := (va_up M 22 s7)) (va_up_self _ _ _) hi133 rfl es7 (lc_up_up _ _ _ _) dX4_breaks_133 rfl ?_
  exact w_X4_breaks_134 C   out K20 hK20  x1 x2 x3 x4 x5 s7 h
def P_X4_breaks_106 (K20 : Int32 → Int32 → Int32 → Int32 → Int32 → lc_St → Option (lc_St)) (x1 : Int32) (x2 : Int32) (x3 : Int32) (x4 : Int32) (x5 : Int32) (x7 : Int32) (x8 : Int32) (t1 : Int32) (t2 : Int32) (t3 : Int32) (s : lc_St) : Option (lc_St) :=
  lc_bd (P_X4_more t1 t2 t3 s) (fun s6 => if x8 ≤ x7 then P_X4_breaks_132 K20  x1 x2 x3 x4 x5 (5 : Int32) (s6 1 5) (x7 - x8) s6 else P_X4_breaks_132 K20  x1 x2 x3 x4 x5 (5 : Int32) (s6 1 5) (0 : Int32) s6)
set_option maxRecDepth 100000 in
set_option maxHeartbeats 4000000 in
theorem w_X4_breaks_106 {S : lc_Se} {X : lc_X} (C : lc_C X cX4_breaks RX4 9 none rm_X4_breaks) {M : lc_MM}  (out : lc_St) (K20 : Int32 → Int32 → Int32 → Int32 → Int32 → lc_St → Option (lc_St)) (hK20 : ∀ (x1 : Int32) (x2 : Int32) (x3 : Int32) (x4 : Int32) (x5 : Int32) (s : lc_St), K20 x1 x2 x3 x4 x5 s = some out → lc_J S X 9 0 0 (lc_QV S X 0 0 (va_up M 22 out)) 20 [(0, .ref (lc_ad S 197)), (1, .int x1), (2, .int x2), (3, .int x3), (4, .int x4), (5, .int x5)] [] (va_up M 22 s)) : ∀ (x1 : Int32) (x2 : Int32) (x3 : Int32) (x4 : Int32) (x5 : Int32) (x7 : Int32) (x8 : Int32) (t1 : Int32) (t2 : Int32) (t3 : Int32) (s : lc_St), P_X4_breaks_106 K20 x1 x2 x3 x4 x5 x7 x8 t1 t2 t3 s = some out → lc_J S X 9 0 0 (lc_QV S X 0 0 (va_up M 22 out)) 106 [(0, .ref (lc_ad S 197)), (1, .int x1), (2, .int x2), (3, .int x3), (4, .int x4), (5, .int x5), (7, .int x7), (8, .int x8)] [.int t3, .int t2, .int t1, .ref (lc_ad S 197)] (va_up M 22 s) := by
  intro x1 x2 x3 x4 x5 x7 x8 t1 t2 t3 s h
  rw [P_X4_breaks_106] at h
  obtain ⟨s6, h106, h⟩ := lc_bde h
  refine lc_cvv C (pc' := 109) (M' := (va_up M 22 s6)) (As := [.int t1, .int t2, .int t3]) (rest := []) (c_X4_more S X.2.1 M   t1 t2 t3 s s6 h106) kl_RX4_54 (lc_at197 S _) rfl rfl rfl rfl (Nat.le_of_ble_eq_true rfl) ⟨Nat.le_of_ble_eq_true rfl, Nat.le_of_ble_eq_true rfl⟩ ⟨rfl, rfl⟩ (lc_z2 _ _) dX4_breaks_106 rfl ?_
  refine lc_aload_n C (pc' := 110) 0 dX4_breaks_109 rfl rfl ?_
  refine lc_g197_now C (pc' := 113) (va_up_self _ _ _) dX4_breaks_110 kf_RX4_7 rfl ?_
  refine lc_iconst C (pc' := 114) (v := (5 : Int32)) dX4_breaks_113 (by decide) rfl ?_
  refine lc_dup2 C (pc' := 115) dX4_breaks_114 rfl rfl rfl ?_
  refine lc_ld198 C (pc' := 116) (jj := 5) (va_up_self _ _ _) (by decide) (by decide) dX4_breaks_115 rfl ?_
  refine lc_iload C (pc' := 118) 6 dX4_breaks_116 rfl rfl ?_
  refine lc_iload C (pc' := 120) 7 dX4_breaks_118 rfl rfl ?_
  refine lc_icmp_ge C (pc' := 123) (tgt := 127) dX4_breaks_120 (by decide) rfl (fun c120 => ?_) (fun c120 => ?_)
  · have h := (lc_if2 h).1 c120
    refine lc_iload C (pc' := 129) 6 dX4_breaks_127 rfl rfl ?_
    refine lc_iload C (pc' := 131) 7 dX4_breaks_129 rfl rfl ?_
    refine lc_isub C (pc' := 132) dX4_breaks_131 rfl ?_
    refine lc_sub (lo' := [(0, .ref (lc_ad S 197)), (1, .int x1), (2, .int x2), (3, .int x3), (4, .int x4), (5, .int x5)]) [0, 1, 2, 3, 4, 5] rfl ?_
    exact w_X4_breaks_132 C   out K20 hK20  x1 x2 x3 x4 x5 (5 : Int32) (s6 1 5) (x7 - x8) s6 h
  · have h := (lc_if2 h).2 c120
    refine lc_iconst C (pc' := 124) (v := (0 : Int32)) dX4_breaks_123 (by decide) rfl ?_
    refine lc_goto C (tgt := 132) dX4_breaks_124 (by decide) ?_
    refine lc_sub (lo' := [(0, .ref (lc_ad S 197)), (1, .int x1), (2, .int x2), (3, .int x3), (4, .int x4), (5, .int x5)]) [0, 1, 2, 3, 4, 5] rfl ?_
    exact w_X4_breaks_132 C   out K20 hK20  x1 x2 x3 x4 x5 (5 : Int32) (s6 1 5) (0 : Int32) s6 h
def P_X4_breaks_20  : Nat → Int32 → Int32 → Int32 → Int32 → Int32 → lc_St → Option (lc_St)
  | 0, _, _, _, _, _, _ => none
  | n + 1, x1, x2, x3, x4, x5, s =>
    if (s 1 2) ≤ x5 then lc_let (lc_ss s 1 5 ((s 1 5) + x4)) (fun s1 => lc_bd (P_X4_more x1 (1 : Int32) (-x2) s1) (fun s2 => lc_bd (P_X4_more x1 (4 : Int32) (1 : Int32) s2) (fun s3 => lc_let ((s3 1 2) - (1 : Int32)) (fun x5_174 => P_X4_breaks_176  lc_FU x1 x5_174 s3)))) else lc_bd (P_X4_ofLoan x5 (1 : Int32) s) (fun r35 => if r35 = x1 then lc_bd (P_X4_ofLoan x5 (0 : Int32) s) (fun r46 => lc_bd (P_X4_ofLoan x5 (2 : Int32) s) (fun r56 => lc_if (¬ x3 = 0) (lc_let ((x2 * r56) / x3) (fun x7_62 => lc_bd (P_X4_of r46 (0 : Int32) s) (fun r68 => lc_bd (P_X4_of r46 (1 : Int32) s) (fun r75 => lc_let (r68 - r75) (fun x8_79 => lc_let (x4 - x7_62) (fun x4_86 => if x8_79 ≤ x7_62 then P_X4_breaks_106 (fun x1 x2 x3 x4 x5 s => P_X4_breaks_20  n x1 x2 x3 x4 x5 s)  x1 x2 x3 x4_86 x5 x7_62 x8_79 r46 (1 : Int32) x8_79 s else P_X4_breaks_106 (fun x1 x2 x3 x4 x5 s => P_X4_breaks_20  n x1 x2 x3 x4 x5 s)  x1 x2 x3 x4_86 x5 x7_62 x8_79 r46 (1 : Int32) x7_62 s)))))))) else P_X4_breaks_134 (fun x1 x2 x3 x4 x5 s => P_X4_breaks_20  n x1 x2 x3 x4 x5 s)  x1 x2 x3 x4 x5 s)
set_option maxRecDepth 100000 in
set_option maxHeartbeats 4000000 in
theorem w_X4_breaks_20 {S : lc_Se} {X : lc_X} (C : lc_C X cX4_breaks RX4 9 none rm_X4_breaks) {M : lc_MM}  (out : lc_St)  : ∀ (n : Nat) (x1 : Int32) (x2 : Int32) (x3 : Int32) (x4 : Int32) (x5 : Int32) (s : lc_St), P_X4_breaks_20  n x1 x2 x3 x4 x5 s = some out → lc_J S X 9 0 0 (lc_QV S X 0 0 (va_up M 22 out)) 20 [(0, .ref (lc_ad S 197)), (1, .int x1), (2, .int x2), (3, .int x3), (4, .int x4), (5, .int x5)] [] (va_up M 22 s) := by
  intro n
  induction n with
  | zero =>
    intro x1 x2 x3 x4 x5 s h
    rw [P_X4_breaks_20] at h
    cases h
  | succ n ih =>
    intro x1 x2 x3 x4 x5 s h
    rw [P_X4_breaks_20] at h
    refine lc_iload C (pc' := 22) 5 dX4_breaks_20 rfl rfl ?_
    refine lc_aload_n C (pc' := 23) 0 dX4_breaks_22 rfl rfl ?_
    refine lc_g197_now C (pc' := 26) (va_up_self _ _ _) dX4_breaks_23 kf_RX4_7 rfl ?_
    refine lc_iconst C (pc' := 27) (v := (2 : Int32)) dX4_breaks_26 (by decide) rfl ?_
    refine lc_ld198 C (pc' := 28) (jj := 2) (va_up_self _ _ _) (by decide) (by decide) dX4_breaks_27 rfl ?_
    refine lc_icmp_ge C (pc' := 31) (tgt := 140) dX4_breaks_28 (by decide) rfl (fun c28 => ?_) (fun c28 => ?_)
    · have h := (lc_if2 h).1 c28
      refine lc_aload_n C (pc' := 141) 0 dX4_breaks_140 rfl rfl ?_
      refine lc_g197_now C (pc' := 144) (va_up_self _ _ _) dX4_breaks_141 kf_RX4_7 rfl ?_
      refine lc_iconst C (pc' := 145) (v := (5 : Int32)) dX4_breaks_144 (by decide) rfl ?_
      refine lc_dup2 C (pc' := 146) dX4_breaks_145 rfl rfl rfl ?_
      refine lc_ld198 C (pc' := 147) (jj := 5) (va_up_self _ _ _) (by decide) (by decide) dX4_breaks_146 rfl ?_
      refine lc_iload C (pc' := 149) 4 dX4_breaks_147 rfl rfl ?_
      refine lc_iadd C (pc' := 150) dX4_breaks_149 rfl ?_
      obtain ⟨s1, es1, h⟩ := lc_let2 h
      refine lc_sd198 C (pc' := 151) (jj := 5) (M' := (va_up M 22 s1)) (va_up_self _ _ _) (by decide) (by decide) es1 (lc_up_up _ _ _ _) dX4_breaks_150 rfl ?_
      refine lc_aload_n C (pc' := 152) 0 dX4_breaks_151 rfl rfl ?_
      refine lc_iload_n C (pc' := 153) 1 dX4_breaks_152 rfl rfl ?_
      refine lc_iconst C (pc' := 154) (v := (1 : Int32)) dX4_breaks_153 (by decide) rfl ?_
      refine lc_iload_n C (pc' := 155) 2 dX4_breaks_154 rfl rfl ?_
      refine lc_ineg C (pc' := 156) dX4_breaks_155 rfl ?_
      obtain ⟨s2, h156, h⟩ := lc_bde h
      refine lc_cvv C (pc' := 159) (M' := (va_up M 22 s2)) (As := [.int x1, .int (1 : Int32), .int (-x2)]) (rest := []) (c_X4_more S X.2.1 M   x1 (1 : Int32) (-x2) s1 s2 h156) kl_RX4_54 (lc_at197 S _) rfl rfl rfl rfl (Nat.le_of_ble_eq_true rfl) ⟨Nat.le_of_ble_eq_true rfl, Nat.le_of_ble_eq_true rfl⟩ ⟨rfl, rfl⟩ (lc_z2 _ _) dX4_breaks_156 rfl ?_
      refine lc_aload_n C (pc' := 160) 0 dX4_breaks_159 rfl rfl ?_
      refine lc_iload_n C (pc' := 161) 1 dX4_breaks_160 rfl rfl ?_
      refine lc_iconst C (pc' := 162) (v := (4 : Int32)) dX4_breaks_161 (by decide) rfl ?_
      refine lc_iconst C (pc' := 163) (v := (1 : Int32)) dX4_breaks_162 (by decide) rfl ?_
      obtain ⟨s3, h163, h⟩ := lc_bde h
      refine lc_cvv C (pc' := 166) (M' := (va_up M 22 s3)) (As := [.int x1, .int (4 : Int32), .int (1 : Int32)]) (rest := []) (c_X4_more S X.2.1 M   x1 (4 : Int32) (1 : Int32) s2 s3 h163) kl_RX4_54 (lc_at197 S _) rfl rfl rfl rfl (Nat.le_of_ble_eq_true rfl) ⟨Nat.le_of_ble_eq_true rfl, Nat.le_of_ble_eq_true rfl⟩ ⟨rfl, rfl⟩ (lc_z2 _ _) dX4_breaks_163 rfl ?_
      refine lc_aload_n C (pc' := 167) 0 dX4_breaks_166 rfl rfl ?_
      refine lc_g197_now C (pc' := 170) (va_up_self _ _ _) dX4_breaks_167 kf_RX4_7 rfl ?_
      refine lc_iconst C (pc' := 171) (v := (2 : Int32)) dX4_breaks_170 (by decide) rfl ?_
      refine lc_ld198 C (pc' := 172) (jj := 2) (va_up_self _ _ _) (by decide) (by decide) dX4_breaks_171 rfl ?_
      refine lc_iconst C (pc' := 173) (v := (1 : Int32)) dX4_breaks_172 (by decide) rfl ?_
      refine lc_isub C (pc' := 174) dX4_breaks_173 rfl ?_
      obtain ⟨x5_174, e5_174, h⟩ := lc_let2 h
      rw [e5_174]
      refine lc_istore C (pc' := 176) (lo' := [(5, .int x5_174), (0, .ref (lc_ad S 197)), (1, .int x1), (2, .int x2), (3, .int x3), (4, .int x4)]) dX4_breaks_174 (Nat.le_of_ble_eq_true rfl) rfl rfl ?_
      refine lc_sub (lo' := [(0, .ref (lc_ad S 197)), (1, .int x1), (5, .int x5_174)]) [1, 2, 0] rfl ?_
      exact w_X4_breaks_176 C   out  lc_FU x1 x5_174 s3 h
    · have h := (lc_if2 h).2 c28
      refine lc_aload_n C (pc' := 32) 0 dX4_breaks_31 rfl rfl ?_
      refine lc_iload C (pc' := 34) 5 dX4_breaks_32 rfl rfl ?_
      refine lc_iconst C (pc' := 35) (v := (1 : Int32)) dX4_breaks_34 (by decide) rfl ?_
      obtain ⟨r35, h35, h⟩ := lc_bde h
      refine lc_cvi C (pc' := 38) (r := r35) (M' := (va_up M 22 s)) (As := [.int x5, .int (1 : Int32)]) (rest := []) (c_X4_ofLoan S X.2.1 M   x5 (1 : Int32) s r35 h35) kl_RX4_64 (lc_at197 S _) rfl rfl rfl rfl (Nat.le_of_ble_eq_true rfl) ⟨Nat.le_of_ble_eq_true rfl, Nat.le_of_ble_eq_true rfl⟩ ⟨rfl, rfl⟩ (lc_z2 _ _) dX4_breaks_35 rfl ?_
      refine lc_iload_n C (pc' := 39) 1 dX4_breaks_38 rfl rfl ?_
      refine lc_icmp_ne C (pc' := 42) (tgt := 134) dX4_breaks_39 (by decide) rfl (fun c39 => ?_) (fun c39 => ?_)
      · have h := (lc_if2 h).2 c39
        exact w_X4_breaks_134 C   out (fun x1 x2 x3 x4 x5 s => P_X4_breaks_20  n x1 x2 x3 x4 x5 s) ih  x1 x2 x3 x4 x5 s h
      · have h := (lc_if2 h).1 c39
        refine lc_aload_n C (pc' := 43) 0 dX4_breaks_42 rfl rfl ?_
        refine lc_iload C (pc' := 45) 5 dX4_breaks_43 rfl rfl ?_
        refine lc_iconst C (pc' := 46) (v := (0 : Int32)) dX4_breaks_45 (by decide) rfl ?_
        obtain ⟨r46, h46, h⟩ := lc_bde h
        refine lc_cvi C (pc' := 49) (r := r46) (M' := (va_up M 22 s)) (As := [.int x5, .int (0 : Int32)]) (rest := []) (c_X4_ofLoan S X.2.1 M   x5 (0 : Int32) s r46 h46) kl_RX4_64 (lc_at197 S _) rfl rfl rfl rfl (Nat.le_of_ble_eq_true rfl) ⟨Nat.le_of_ble_eq_true rfl, Nat.le_of_ble_eq_true rfl⟩ ⟨rfl, rfl⟩ (lc_z2 _ _) dX4_breaks_46 rfl ?_
        refine lc_istore C (pc' := 51) (lo' := [(6, .int r46), (0, .ref (lc_ad S 197)), (1, .int x1), (2, .int x2), (3, .int x3), (4, .int x4), (5, .int x5)]) dX4_breaks_49 (Nat.le_of_ble_eq_true rfl) rfl rfl ?_
        refine lc_iload_n C (pc' := 52) 3 dX4_breaks_51 rfl rfl ?_
        refine lc_aload_n C (pc' := 53) 1 dX4_breaks_52 rfl rfl ?_
        refine lc_iload C (pc' := 55) 6 dX4_breaks_53 rfl rfl ?_
        refine lc_iconst C (pc' := 56) (v := (2 : Int32)) dX4_breaks_55 (by decide) rfl ?_
        obtain ⟨r56, h56, h⟩ := lc_bde h
        refine lc_cvi C (pc' := 59) (r := r56) (M' := (va_up M 22 s)) (As := [.int x5, .int (2 : Int32)]) (rest := [.int x2]) (c_X4_ofLoan S X.2.1 M   x5 (2 : Int32) s r56 h56) kl_RX4_64 (lc_at197 S _) rfl rfl rfl rfl (Nat.le_of_ble_eq_true rfl) ⟨Nat.le_of_ble_eq_true rfl, Nat.le_of_ble_eq_true rfl⟩ ⟨rfl, rfl⟩ (lc_z2 _ _) dX4_breaks_56 rfl ?_
        refine lc_imul C (pc' := 60) dX4_breaks_59 rfl ?_
        refine lc_iload_n C (pc' := 61) 4 dX4_breaks_60 rfl rfl ?_
        obtain ⟨hy61, h⟩ := lc_ife h
        refine lc_idiv C (pc' := 62) dX4_breaks_61 hy61 rfl ?_
        obtain ⟨x7_62, e7_62, h⟩ := lc_let2 h
        rw [e7_62]
        refine lc_istore C (pc' := 64) (lo' := [(7, .int x7_62), (6, .int r46), (0, .ref (lc_ad S 197)), (1, .int x1), (2, .int x2), (3, .int x3), (4, .int x4), (5, .int x5)]) dX4_breaks_62 (Nat.le_of_ble_eq_true rfl) rfl rfl ?_
        refine lc_aload_n C (pc' := 65) 2 dX4_breaks_64 rfl rfl ?_
        refine lc_iload C (pc' := 67) 1 dX4_breaks_65 rfl rfl ?_
        refine lc_iconst C (pc' := 68) (v := (0 : Int32)) dX4_breaks_67 (by decide) rfl ?_
        obtain ⟨r68, h68, h⟩ := lc_bde h
        refine lc_cvi C (pc' := 71) (r := r68) (M' := (va_up M 22 s)) (As := [.int r46, .int (0 : Int32)]) (rest := []) (c_X4_of S X.2.1 M   r46 (0 : Int32) s r68 h68) kl_RX4_43 (lc_at197 S _) rfl rfl rfl rfl (Nat.le_of_ble_eq_true rfl) ⟨Nat.le_of_ble_eq_true rfl, Nat.le_of_ble_eq_true rfl⟩ ⟨rfl, rfl⟩ (lc_z2 _ _) dX4_breaks_68 rfl ?_
        refine lc_aload_n C (pc' := 72) 2 dX4_breaks_71 rfl rfl ?_
        refine lc_iload C (pc' := 74) 1 dX4_breaks_72 rfl rfl ?_
        refine lc_iconst C (pc' := 75) (v := (1 : Int32)) dX4_breaks_74 (by decide) rfl ?_
        obtain ⟨r75, h75, h⟩ := lc_bde h
        refine lc_cvi C (pc' := 78) (r := r75) (M' := (va_up M 22 s)) (As := [.int r46, .int (1 : Int32)]) (rest := [.int r68]) (c_X4_of S X.2.1 M   r46 (1 : Int32) s r75 h75) kl_RX4_43 (lc_at197 S _) rfl rfl rfl rfl (Nat.le_of_ble_eq_true rfl) ⟨Nat.le_of_ble_eq_true rfl, Nat.le_of_ble_eq_true rfl⟩ ⟨rfl, rfl⟩ (lc_z2 _ _) dX4_breaks_75 rfl ?_
        refine lc_isub C (pc' := 79) dX4_breaks_78 rfl ?_
        obtain ⟨x8_79, e8_79, h⟩ := lc_let2 h
        rw [e8_79]
        refine lc_istore C (pc' := 81) (lo' := [(8, .int x8_79), (7, .int x7_62), (6, .int r46), (0, .ref (lc_ad S 197)), (1, .int x1), (2, .int x2), (3, .int x3), (4, .int x4), (5, .int x5)]) dX4_breaks_79 (Nat.le_of_ble_eq_true rfl) rfl rfl ?_
        refine lc_iload C (pc' := 83) 7 dX4_breaks_81 rfl rfl ?_
        refine lc_iload C (pc' := 85) 1 dX4_breaks_83 rfl rfl ?_
        refine lc_isub C (pc' := 86) dX4_breaks_85 rfl ?_
        obtain ⟨x4_86, e4_86, h⟩ := lc_let2 h
        rw [e4_86]
        refine lc_istore C (pc' := 88) (lo' := [(4, .int x4_86), (8, .int x8_79), (7, .int x7_62), (6, .int r46), (0, .ref (lc_ad S 197)), (1, .int x1), (2, .int x2), (3, .int x3), (5, .int x5)]) dX4_breaks_86 (Nat.le_of_ble_eq_true rfl) rfl rfl ?_
        refine lc_aload_n C (pc' := 89) 4 dX4_breaks_88 rfl rfl ?_
        refine lc_iload C (pc' := 91) 3 dX4_breaks_89 rfl rfl ?_
        refine lc_iconst C (pc' := 92) (v := (1 : Int32)) dX4_breaks_91 (by decide) rfl ?_
        refine lc_iload C (pc' := 94) 2 dX4_breaks_92 rfl rfl ?_
        refine lc_iload C (pc' := 96) 1 dX4_breaks_94 rfl rfl ?_
        refine lc_icmp_ge C (pc' := 99) (tgt := 104) dX4_breaks_96 (by decide) rfl (fun c96 => ?_) (fun c96 => ?_)
        · have h := (lc_if2 h).1 c96
          refine lc_iload C (pc' := 106) 1 dX4_breaks_104 rfl rfl ?_
          refine lc_sub (lo' := [(0, .ref (lc_ad S 197)), (1, .int x1), (2, .int x2), (3, .int x3), (4, .int x4_86), (5, .int x5), (7, .int x7_62), (8, .int x8_79)]) [4, 5, 6, 7, 0, 8, 2, 1] rfl ?_
          exact w_X4_breaks_106 C   out (fun x1 x2 x3 x4 x5 s => P_X4_breaks_20  n x1 x2 x3 x4 x5 s) ih  x1 x2 x3 x4_86 x5 x7_62 x8_79 r46 (1 : Int32) x8_79 s h
        · have h := (lc_if2 h).2 c96
          refine lc_iload C (pc' := 101) 2 dX4_breaks_99 rfl rfl ?_
          refine lc_goto C (tgt := 106) dX4_breaks_101 (by decide) ?_
          refine lc_sub (lo' := [(0, .ref (lc_ad S 197)), (1, .int x1), (2, .int x2), (3, .int x3), (4, .int x4_86), (5, .int x5), (7, .int x7_62), (8, .int x8_79)]) [4, 5, 6, 7, 0, 8, 2, 1] rfl ?_
          exact w_X4_breaks_106 C   out (fun x1 x2 x3 x4 x5 s => P_X4_breaks_20  n x1 x2 x3 x4 x5 s) ih  x1 x2 x3 x4_86 x5 x7_62 x8_79 r46 (1 : Int32) x7_62 s h
def P_X4_breaks  (x1 : Int32) (s : lc_St) : Option (lc_St) :=
  lc_bd (P_X4_of x1 (1 : Int32) s) (fun r3 => lc_bd (P_X4_owedBy x1 (1 : Int32) s) (fun r10 => P_X4_breaks_20  lc_FU x1 r3 r10 r3 (0 : Int32) s))
set_option maxRecDepth 100000 in
set_option maxHeartbeats 4000000 in
theorem c_X4_breaks (S : lc_Se) (l : Launch) (M : lc_MM)  (x1 : Int32) (s : lc_St) (out : lc_St) (h : P_X4_breaks x1 s = some out) : lc_MV S l yX4_breaks cX4_breaks 9 none rm_X4_breaks [.ref (lc_ad S 197), .int x1] (va_up M 22 s)  (va_up M 22 out) := by
  refine lc_mkV (own := RX4) pn_RX4 rfl (Nat.le_of_ble_eq_true rfl) (lo := [(0, .ref (lc_ad S 197)), (1, .int x1)]) rfl (fun X hX C => ?_)
  rw [P_X4_breaks] at h
  refine lc_aload_n C (pc' := 1) 0 dX4_breaks_0 rfl rfl ?_
  refine lc_iload_n C (pc' := 2) 1 dX4_breaks_1 rfl rfl ?_
  refine lc_iconst C (pc' := 3) (v := (1 : Int32)) dX4_breaks_2 (by decide) rfl ?_
  obtain ⟨r3, h3, h⟩ := lc_bde h
  refine lc_cvi C (pc' := 6) (r := r3) (M' := (va_up M 22 s)) (As := [.int x1, .int (1 : Int32)]) (rest := []) (c_X4_of S X.2.1 M   x1 (1 : Int32) s r3 h3) kl_RX4_43 (lc_at197 S _) rfl rfl rfl rfl (Nat.le_of_ble_eq_true rfl) ⟨Nat.le_of_ble_eq_true rfl, Nat.le_of_ble_eq_true rfl⟩ ⟨rfl, rfl⟩ (lc_z2 _ _) dX4_breaks_3 rfl ?_
  refine lc_istore_n C (pc' := 7) (lo' := [(2, .int r3), (0, .ref (lc_ad S 197)), (1, .int x1)]) dX4_breaks_6 (Nat.le_of_ble_eq_true rfl) rfl rfl ?_
  refine lc_aload_n C (pc' := 8) 1 dX4_breaks_7 rfl rfl ?_
  refine lc_iload_n C (pc' := 9) 2 dX4_breaks_8 rfl rfl ?_
  refine lc_iconst C (pc' := 10) (v := (1 : Int32)) dX4_breaks_9 (by decide) rfl ?_
  obtain ⟨r10, h10, h⟩ := lc_bde h
  refine lc_cvi C (pc' := 13) (r := r10) (M' := (va_up M 22 s)) (As := [.int x1, .int (1 : Int32)]) (rest := []) (c_X4_owedBy S X.2.1 M   x1 (1 : Int32) s r10 h10) kl_RX4_74 (lc_at197 S _) rfl rfl rfl rfl (Nat.le_of_ble_eq_true rfl) ⟨Nat.le_of_ble_eq_true rfl, Nat.le_of_ble_eq_true rfl⟩ ⟨rfl, rfl⟩ (lc_z2 _ _) dX4_breaks_10 rfl ?_
  refine lc_istore_n C (pc' := 14) (lo' := [(3, .int r10), (2, .int r3), (0, .ref (lc_ad S 197)), (1, .int x1)]) dX4_breaks_13 (Nat.le_of_ble_eq_true rfl) rfl rfl ?_
  refine lc_iload_n C (pc' := 15) 1 dX4_breaks_14 rfl rfl ?_
  refine lc_istore C (pc' := 17) (lo' := [(4, .int r3), (3, .int r10), (2, .int r3), (0, .ref (lc_ad S 197)), (1, .int x1)]) dX4_breaks_15 (Nat.le_of_ble_eq_true rfl) rfl rfl ?_
  refine lc_iconst C (pc' := 18) (v := (0 : Int32)) dX4_breaks_17 (by decide) rfl ?_
  refine lc_istore C (pc' := 20) (lo' := [(5, .int (0 : Int32)), (4, .int r3), (3, .int r10), (2, .int r3), (0, .ref (lc_ad S 197)), (1, .int x1)]) dX4_breaks_18 (Nat.le_of_ble_eq_true rfl) rfl rfl ?_
  refine lc_sub (lo' := [(0, .ref (lc_ad S 197)), (1, .int x1), (2, .int r3), (3, .int r10), (4, .int r3), (5, .int (0 : Int32))]) [4, 5, 3, 2, 1, 0] rfl ?_
  exact w_X4_breaks_20 C   out  lc_FU x1 r3 r10 r3 (0 : Int32) s h
abbrev rm_X4_round : Room := { frames := 3, cells := 0, slots := 0, locals := 74 }
def P_X4_round_140 (K75 : Int32 → Int32 → lc_St → Option (Int32 × lc_St)) (x1 : Int32) (x2 : Int32) (s : lc_St) : Option (Int32 × lc_St) :=
  lc_let (x2 + (1 : Int32)) (fun x2_140 => K75 x1 x2_140 s)
set_option maxRecDepth 100000 in
set_option maxHeartbeats 4000000 in
theorem w_X4_round_140 {S : lc_Se} {X : lc_X} (C : lc_C X cX4_round RX4 3 (some .int) rm_X4_round) {M : lc_MM}  (out : Int32 × lc_St) (K75 : Int32 → Int32 → lc_St → Option (Int32 × lc_St)) (hK75 : ∀ (x1 : Int32) (x2 : Int32) (s : lc_St), K75 x1 x2 s = some out → lc_J S X 3 0 0 (lc_QI S X 0 0 out.1 (va_up M 22 out.2)) 75 [(0, .ref (lc_ad S 197)), (1, .int x1), (2, .int x2)] [] (va_up M 22 s)) : ∀ (x1 : Int32) (x2 : Int32) (s : lc_St), P_X4_round_140 K75 x1 x2 s = some out → lc_J S X 3 0 0 (lc_QI S X 0 0 out.1 (va_up M 22 out.2)) 140 [(0, .ref (lc_ad S 197)), (1, .int x1), (2, .int x2)] [] (va_up M 22 s) := by
  intro x1 x2 s h
  rw [P_X4_round_140] at h
  obtain ⟨x2_140, e2_140, h⟩ := lc_let2 h
  refine lc_iinc C (pc' := 143) (lo' := [(2, .int x2_140), (0, .ref (lc_ad S 197)), (1, .int x1)]) (q := 2) dX4_round_140 rfl (by rw [← e2_140]; rfl) (Nat.le_of_ble_eq_true rfl) rfl rfl ?_
  refine lc_goto C (tgt := 75) dX4_round_143 (by decide) ?_
  refine lc_sub (lo' := [(0, .ref (lc_ad S 197)), (1, .int x1), (2, .int x2_140)]) [1, 2, 0] rfl ?_
  exact hK75 x1 x2_140 s h
def P_X4_round_116 (K75 : Int32 → Int32 → lc_St → Option (Int32 × lc_St)) (x1 : Int32) (x2 : Int32) (t1 : Int32) (t2 : Int32) (t3 : Int32) (s : lc_St) : Option (Int32 × lc_St) :=
  lc_bd (P_X4_more t1 t2 t3 s) (fun s3 => lc_bd (P_X4_of x2 (3 : Int32) s3) (fun r122 => if r122 = (3 : Int32) then lc_bd (P_X4_breaks x2 s3) (fun s4 => lc_let (x1 ||| ((1 : Int32) <<< (x2 &&& 31))) (fun x1_139 => P_X4_round_140 K75  x1_139 x2 s4)) else P_X4_round_140 K75  x1 x2 s3))
set_option maxRecDepth 100000 in
set_option maxHeartbeats 4000000 in
theorem w_X4_round_116 {S : lc_Se} {X : lc_X} (C : lc_C X cX4_round RX4 3 (some .int) rm_X4_round) {M : lc_MM}  (out : Int32 × lc_St) (K75 : Int32 → Int32 → lc_St → Option (Int32 × lc_St)) (hK75 : ∀ (x1 : Int32) (x2 : Int32) (s : lc_St), K75 x1 x2 s = some out → lc_J S X 3 0 0 (lc_QI S X 0 0 out.1 (va_up M 22 out.2)) 75 [(0, .ref (lc_ad S 197)), (1, .int x1), (2, .int x2)] [] (va_up M 22 s)) : ∀ (x1 : Int32) (x2 : Int32) (t1 : Int32) (t2 : Int32) (t3 : Int32) (s : lc_St), P_X4_round_116 K75 x1 x2 t1 t2 t3 s = some out → lc_J S X 3 0 0 (lc_QI S X 0 0 out.1 (va_up M 22 out.2)) 116 [(0, .ref (lc_ad S 197)), (1, .int x1), (2, .int x2)] [.int t3, .int t2, .int t1, .ref (lc_ad S 197)] (va_up M 22 s) := by
  intro x1 x2 t1 t2 t3 s h
  rw [P_X4_round_116] at h
  obtain ⟨s3, h116, h⟩ := lc_bde h
  refine lc_cvv C (pc' := 119) (M' := (va_up M 22 s3)) (As := [.int t1, .int t2, .int t3]) (rest := []) (c_X4_more S X.2.1 M   t1 t2 t3 s s3 h116) kl_RX4_54 (lc_at197 S _) rfl rfl rfl rfl (Nat.le_of_ble_eq_true rfl) ⟨Nat.le_of_ble_eq_true rfl, Nat.le_of_ble_eq_true rfl⟩ ⟨rfl, rfl⟩ (lc_z2 _ _) dX4_round_116 rfl ?_
  refine lc_aload_n C (pc' := 120) 0 dX4_round_119 rfl rfl ?_
  refine lc_iload_n C (pc' := 121) 2 dX4_round_120 rfl rfl ?_
  refine lc_iconst C (pc' := 122) (v := (3 : Int32)) dX4_round_121 (by decide) rfl ?_
  obtain ⟨r122, h122, h⟩ := lc_bde h
  refine lc_cvi C (pc' := 125) (r := r122) (M' := (va_up M 22 s3)) (As := [.int x2, .int (3 : Int32)]) (rest := []) (c_X4_of S X.2.1 M   x2 (3 : Int32) s3 r122 h122) kl_RX4_43 (lc_at197 S _) rfl rfl rfl rfl (Nat.le_of_ble_eq_true rfl) ⟨Nat.le_of_ble_eq_true rfl, Nat.le_of_ble_eq_true rfl⟩ ⟨rfl, rfl⟩ (lc_z2 _ _) dX4_round_122 rfl ?_
  refine lc_iconst C (pc' := 126) (v := (3 : Int32)) dX4_round_125 (by decide) rfl ?_
  refine lc_icmp_ne C (pc' := 129) (tgt := 140) dX4_round_126 (by decide) rfl (fun c126 => ?_) (fun c126 => ?_)
  · have h := (lc_if2 h).2 c126
    exact w_X4_round_140 C   out K75 hK75  x1 x2 s3 h
  · have h := (lc_if2 h).1 c126
    refine lc_aload_n C (pc' := 130) 0 dX4_round_129 rfl rfl ?_
    refine lc_iload_n C (pc' := 131) 2 dX4_round_130 rfl rfl ?_
    obtain ⟨s4, h131, h⟩ := lc_bde h
    refine lc_cvv C (pc' := 134) (M' := (va_up M 22 s4)) (As := [.int x2]) (rest := []) (c_X4_breaks S X.2.1 M   x2 s3 s4 h131) kl_RX4_88 (lc_at197 S _) rfl rfl rfl rfl (Nat.le_of_ble_eq_true rfl) ⟨Nat.le_of_ble_eq_true rfl, Nat.le_of_ble_eq_true rfl⟩ ⟨rfl, rfl⟩ (lc_z2 _ _) dX4_round_131 rfl ?_
    refine lc_iload_n C (pc' := 135) 1 dX4_round_134 rfl rfl ?_
    refine lc_iconst C (pc' := 136) (v := (1 : Int32)) dX4_round_135 (by decide) rfl ?_
    refine lc_iload_n C (pc' := 137) 2 dX4_round_136 rfl rfl ?_
    refine lc_ishl C (pc' := 138) dX4_round_137 rfl ?_
    refine lc_ior C (pc' := 139) dX4_round_138 rfl ?_
    obtain ⟨x1_139, e1_139, h⟩ := lc_let2 h
    rw [e1_139]
    refine lc_istore_n C (pc' := 140) (lo' := [(1, .int x1_139), (0, .ref (lc_ad S 197)), (2, .int x2)]) dX4_round_139 (Nat.le_of_ble_eq_true rfl) rfl rfl ?_
    refine lc_sub (lo' := [(0, .ref (lc_ad S 197)), (1, .int x1_139), (2, .int x2)]) [1, 0, 2] rfl ?_
    exact w_X4_round_140 C   out K75 hK75  x1_139 x2 s4 h
def P_X4_round_75  : Nat → Int32 → Int32 → lc_St → Option (Int32 × lc_St)
  | 0, _, _, _ => none
  | n + 1, x1, x2, s =>
    if (s 1 1) ≤ x2 then lc_let (lc_ss s 1 0 ((s 1 0) + (1 : Int32))) (fun s2 => some (x1, s2)) else lc_bd (P_X4_isSound x2 s) (fun r87 => if r87 = 0 then P_X4_round_140 (fun x1 x2 s => P_X4_round_75  n x1 x2 s)  x1 x2 s else lc_if (lc_ok x2 8) (if (s 7 x2.toNatClampNeg) = 0 then lc_bd (P_X4_of x2 (3 : Int32) s) (fun r112 => P_X4_round_116 (fun x1 x2 s => P_X4_round_75  n x1 x2 s)  x1 x2 x2 (3 : Int32) (-r112) s) else P_X4_round_116 (fun x1 x2 s => P_X4_round_75  n x1 x2 s)  x1 x2 x2 (3 : Int32) (1 : Int32) s))
set_option maxRecDepth 100000 in
set_option maxHeartbeats 4000000 in
theorem w_X4_round_75 {S : lc_Se} {X : lc_X} (C : lc_C X cX4_round RX4 3 (some .int) rm_X4_round) {M : lc_MM}  (out : Int32 × lc_St)  : ∀ (n : Nat) (x1 : Int32) (x2 : Int32) (s : lc_St), P_X4_round_75  n x1 x2 s = some out → lc_J S X 3 0 0 (lc_QI S X 0 0 out.1 (va_up M 22 out.2)) 75 [(0, .ref (lc_ad S 197)), (1, .int x1), (2, .int x2)] [] (va_up M 22 s) := by
  intro n
  induction n with
  | zero =>
    intro x1 x2 s h
    rw [P_X4_round_75] at h
    cases h
  | succ n ih =>
    intro x1 x2 s h
    rw [P_X4_round_75] at h
    refine lc_iload_n C (pc' := 76) 2 dX4_round_75 rfl rfl ?_
    refine lc_aload_n C (pc' := 77) 0 dX4_round_76 rfl rfl ?_
    refine lc_g197_now C (pc' := 80) (va_up_self _ _ _) dX4_round_77 kf_RX4_7 rfl ?_
    refine lc_iconst C (pc' := 81) (v := (1 : Int32)) dX4_round_80 (by decide) rfl ?_
    refine lc_ld198 C (pc' := 82) (jj := 1) (va_up_self _ _ _) (by decide) (by decide) dX4_round_81 rfl ?_
    refine lc_icmp_ge C (pc' := 85) (tgt := 146) dX4_round_82 (by decide) rfl (fun c82 => ?_) (fun c82 => ?_)
    · have h := (lc_if2 h).1 c82
      refine lc_aload_n C (pc' := 147) 0 dX4_round_146 rfl rfl ?_
      refine lc_g197_now C (pc' := 150) (va_up_self _ _ _) dX4_round_147 kf_RX4_7 rfl ?_
      refine lc_iconst C (pc' := 151) (v := (0 : Int32)) dX4_round_150 (by decide) rfl ?_
      refine lc_dup2 C (pc' := 152) dX4_round_151 rfl rfl rfl ?_
      refine lc_ld198 C (pc' := 153) (jj := 0) (va_up_self _ _ _) (by decide) (by decide) dX4_round_152 rfl ?_
      refine lc_iconst C (pc' := 154) (v := (1 : Int32)) dX4_round_153 (by decide) rfl ?_
      refine lc_iadd C (pc' := 155) dX4_round_154 rfl ?_
      obtain ⟨s2, es2, h⟩ := lc_let2 h
      refine lc_sd198 C (pc' := 156) (jj := 0) (M' := (va_up M 22 s2)) (va_up_self _ _ _) (by decide) (by decide) es2 (lc_up_up _ _ _ _) dX4_round_155 rfl ?_
      refine lc_iload_n C (pc' := 157) 1 dX4_round_156 rfl rfl ?_
      obtain rfl := Option.some.inj h
      exact lc_iret C rfl dX4_round_157
    · have h := (lc_if2 h).2 c82
      refine lc_aload_n C (pc' := 86) 0 dX4_round_85 rfl rfl ?_
      refine lc_iload_n C (pc' := 87) 2 dX4_round_86 rfl rfl ?_
      obtain ⟨r87, h87, h⟩ := lc_bde h
      refine lc_cvi C (pc' := 90) (r := r87) (M' := (va_up M 22 s)) (As := [.int x2]) (rest := []) (c_X4_isSound S X.2.1 M   x2 s r87 h87) kl_RX4_84 (lc_at197 S _) rfl rfl rfl rfl (Nat.le_of_ble_eq_true rfl) ⟨Nat.le_of_ble_eq_true rfl, Nat.le_of_ble_eq_true rfl⟩ ⟨rfl, rfl⟩ (lc_z2 _ _) dX4_round_87 rfl ?_
      refine lc_if_eq C (pc' := 93) (tgt := 140) dX4_round_90 (by decide) rfl (fun c90 => ?_) (fun c90 => ?_)
      · have h := (lc_if2 h).1 c90
        exact w_X4_round_140 C   out (fun x1 x2 s => P_X4_round_75  n x1 x2 s) ih  x1 x2 s h
      · have h := (lc_if2 h).2 c90
        refine lc_aload_n C (pc' := 94) 0 dX4_round_93 rfl rfl ?_
        refine lc_iload_n C (pc' := 95) 2 dX4_round_94 rfl rfl ?_
        refine lc_iconst C (pc' := 96) (v := (3 : Int32)) dX4_round_95 (by decide) rfl ?_
        refine lc_aload_n C (pc' := 97) 0 dX4_round_96 rfl rfl ?_
        refine lc_g197_hasMissed C (pc' := 100) (va_up_self _ _ _) dX4_round_97 kf_RX4_29 rfl ?_
        refine lc_iload_n C (pc' := 101) 2 dX4_round_100 rfl rfl ?_
        obtain ⟨hi101, h⟩ := lc_ife h
        refine lc_ld204 C (pc' := 102) (jj := x2.toNatClampNeg) (va_up_self _ _ _) hi101 rfl dX4_round_101 rfl ?_
        refine lc_if_eq C (pc' := 105) (tgt := 109) dX4_round_102 (by decide) rfl (fun c102 => ?_) (fun c102 => ?_)
        · have h := (lc_if2 h).1 c102
          refine lc_aload_n C (pc' := 110) 0 dX4_round_109 rfl rfl ?_
          refine lc_iload_n C (pc' := 111) 2 dX4_round_110 rfl rfl ?_
          refine lc_iconst C (pc' := 112) (v := (3 : Int32)) dX4_round_111 (by decide) rfl ?_
          obtain ⟨r112, h112, h⟩ := lc_bde h
          refine lc_cvi C (pc' := 115) (r := r112) (M' := (va_up M 22 s)) (As := [.int x2, .int (3 : Int32)]) (rest := [.int (3 : Int32), .int x2, .ref (lc_ad S 197)]) (c_X4_of S X.2.1 M   x2 (3 : Int32) s r112 h112) kl_RX4_43 (lc_at197 S _) rfl rfl rfl rfl (Nat.le_of_ble_eq_true rfl) ⟨Nat.le_of_ble_eq_true rfl, Nat.le_of_ble_eq_true rfl⟩ ⟨rfl, rfl⟩ (lc_z2 _ _) dX4_round_112 rfl ?_
          refine lc_ineg C (pc' := 116) dX4_round_115 rfl ?_
          exact w_X4_round_116 C   out (fun x1 x2 s => P_X4_round_75  n x1 x2 s) ih  x1 x2 x2 (3 : Int32) (-r112) s h
        · have h := (lc_if2 h).2 c102
          refine lc_iconst C (pc' := 106) (v := (1 : Int32)) dX4_round_105 (by decide) rfl ?_
          refine lc_goto C (tgt := 116) dX4_round_106 (by decide) ?_
          exact w_X4_round_116 C   out (fun x1 x2 s => P_X4_round_75  n x1 x2 s) ih  x1 x2 x2 (3 : Int32) (1 : Int32) s h
def P_X4_round_42 (K2 : Int32 → lc_St → Option (Int32 × lc_St)) (x1 : Int32) (t0 : Int32) (s : lc_St) : Option (Int32 × lc_St) :=
  lc_bd (P_X4_more x1 (1 : Int32) (-t0) s) (fun s5 => lc_let (lc_ss s5 1 5 ((s5 1 5) + t0)) (fun s6 => lc_let (x1 + (1 : Int32)) (fun x1_61 => K2 x1_61 s6)))
set_option maxRecDepth 100000 in
set_option maxHeartbeats 4000000 in
theorem w_X4_round_42 {S : lc_Se} {X : lc_X} (C : lc_C X cX4_round RX4 3 (some .int) rm_X4_round) {M : lc_MM}  (out : Int32 × lc_St) (K2 : Int32 → lc_St → Option (Int32 × lc_St)) (hK2 : ∀ (x1 : Int32) (s : lc_St), K2 x1 s = some out → lc_J S X 3 0 0 (lc_QI S X 0 0 out.1 (va_up M 22 out.2)) 2 [(0, .ref (lc_ad S 197)), (1, .int x1)] [] (va_up M 22 s)) : ∀ (x1 : Int32) (t0 : Int32) (s : lc_St), P_X4_round_42 K2 x1 t0 s = some out → lc_J S X 3 0 0 (lc_QI S X 0 0 out.1 (va_up M 22 out.2)) 42 [(0, .ref (lc_ad S 197)), (1, .int x1)] [.int t0] (va_up M 22 s) := by
  intro x1 t0 s h
  rw [P_X4_round_42] at h
  refine lc_istore_n C (pc' := 43) (lo' := [(2, .int t0), (0, .ref (lc_ad S 197)), (1, .int x1)]) dX4_round_42 (Nat.le_of_ble_eq_true rfl) rfl rfl ?_
  refine lc_aload_n C (pc' := 44) 1 dX4_round_43 rfl rfl ?_
  refine lc_iload_n C (pc' := 45) 2 dX4_round_44 rfl rfl ?_
  refine lc_iconst C (pc' := 46) (v := (1 : Int32)) dX4_round_45 (by decide) rfl ?_
  refine lc_iload_n C (pc' := 47) 0 dX4_round_46 rfl rfl ?_
  refine lc_ineg C (pc' := 48) dX4_round_47 rfl ?_
  obtain ⟨s5, h48, h⟩ := lc_bde h
  refine lc_cvv C (pc' := 51) (M' := (va_up M 22 s5)) (As := [.int x1, .int (1 : Int32), .int (-t0)]) (rest := []) (c_X4_more S X.2.1 M   x1 (1 : Int32) (-t0) s s5 h48) kl_RX4_54 (lc_at197 S _) rfl rfl rfl rfl (Nat.le_of_ble_eq_true rfl) ⟨Nat.le_of_ble_eq_true rfl, Nat.le_of_ble_eq_true rfl⟩ ⟨rfl, rfl⟩ (lc_z2 _ _) dX4_round_48 rfl ?_
  refine lc_aload_n C (pc' := 52) 1 dX4_round_51 rfl rfl ?_
  refine lc_g197_now C (pc' := 55) (va_up_self _ _ _) dX4_round_52 kf_RX4_7 rfl ?_
  refine lc_iconst C (pc' := 56) (v := (5 : Int32)) dX4_round_55 (by decide) rfl ?_
  refine lc_dup2 C (pc' := 57) dX4_round_56 rfl rfl rfl ?_
  refine lc_ld198 C (pc' := 58) (jj := 5) (va_up_self _ _ _) (by decide) (by decide) dX4_round_57 rfl ?_
  refine lc_iload_n C (pc' := 59) 0 dX4_round_58 rfl rfl ?_
  refine lc_iadd C (pc' := 60) dX4_round_59 rfl ?_
  obtain ⟨s6, es6, h⟩ := lc_let2 h
  refine lc_sd198 C (pc' := 61) (jj := 5) (M' := (va_up M 22 s6)) (va_up_self _ _ _) (by decide) (by decide) es6 (lc_up_up _ _ _ _) dX4_round_60 rfl ?_
  obtain ⟨x1_61, e1_61, h⟩ := lc_let2 h
  refine lc_iinc C (pc' := 64) (lo' := [(1, .int x1_61), (2, .int t0), (0, .ref (lc_ad S 197))]) (q := 2) dX4_round_61 rfl (by rw [← e1_61]; rfl) (Nat.le_of_ble_eq_true rfl) rfl rfl ?_
  refine lc_goto C (tgt := 2) dX4_round_64 (by decide) ?_
  refine lc_sub (lo' := [(0, .ref (lc_ad S 197)), (1, .int x1_61)]) [2, 0] rfl ?_
  exact hK2 x1_61 s6 h
def P_X4_round_2  : Nat → Int32 → lc_St → Option (Int32 × lc_St)
  | 0, _, _ => none
  | n + 1, x1, s =>
    if (s 1 1) ≤ x1 then lc_bd (P_X4_burnInterest  s) (fun s1 => P_X4_round_75  lc_FU (0 : Int32) (0 : Int32) s1) else lc_bd (P_X4_of x1 (1 : Int32) s) (fun r15 => lc_bd (P_X4_of x1 (2 : Int32) s) (fun r21 => if r21 ≤ r15 then lc_bd (P_X4_of x1 (2 : Int32) s) (fun r39 => P_X4_round_42 (fun x1 s => P_X4_round_2  n x1 s)  x1 r39 s) else lc_bd (P_X4_of x1 (1 : Int32) s) (fun r30 => P_X4_round_42 (fun x1 s => P_X4_round_2  n x1 s)  x1 r30 s)))
set_option maxRecDepth 100000 in
set_option maxHeartbeats 4000000 in
theorem w_X4_round_2 {S : lc_Se} {X : lc_X} (C : lc_C X cX4_round RX4 3 (some .int) rm_X4_round) {M : lc_MM}  (out : Int32 × lc_St)  : ∀ (n : Nat) (x1 : Int32) (s : lc_St), P_X4_round_2  n x1 s = some out → lc_J S X 3 0 0 (lc_QI S X 0 0 out.1 (va_up M 22 out.2)) 2 [(0, .ref (lc_ad S 197)), (1, .int x1)] [] (va_up M 22 s) := by
  intro n
  induction n with
  | zero =>
    intro x1 s h
    rw [P_X4_round_2] at h
    cases h
  | succ n ih =>
    intro x1 s h
    rw [P_X4_round_2] at h
    refine lc_iload_n C (pc' := 3) 1 dX4_round_2 rfl rfl ?_
    refine lc_aload_n C (pc' := 4) 0 dX4_round_3 rfl rfl ?_
    refine lc_g197_now C (pc' := 7) (va_up_self _ _ _) dX4_round_4 kf_RX4_7 rfl ?_
    refine lc_iconst C (pc' := 8) (v := (1 : Int32)) dX4_round_7 (by decide) rfl ?_
    refine lc_ld198 C (pc' := 9) (jj := 1) (va_up_self _ _ _) (by decide) (by decide) dX4_round_8 rfl ?_
    refine lc_icmp_ge C (pc' := 12) (tgt := 67) dX4_round_9 (by decide) rfl (fun c9 => ?_) (fun c9 => ?_)
    · have h := (lc_if2 h).1 c9
      refine lc_aload_n C (pc' := 68) 0 dX4_round_67 rfl rfl ?_
      obtain ⟨s1, h68, h⟩ := lc_bde h
      refine lc_cvv C (pc' := 71) (M' := (va_up M 22 s1)) (As := []) (rest := []) (c_X4_burnInterest S X.2.1 M    s s1 h68) kl_RX4_81 (lc_at197 S _) rfl rfl rfl rfl (Nat.le_of_ble_eq_true rfl) ⟨Nat.le_of_ble_eq_true rfl, Nat.le_of_ble_eq_true rfl⟩ ⟨rfl, rfl⟩ (lc_z2 _ _) dX4_round_68 rfl ?_
      refine lc_iconst C (pc' := 72) (v := (0 : Int32)) dX4_round_71 (by decide) rfl ?_
      refine lc_istore_n C (pc' := 73) (lo' := [(1, .int (0 : Int32)), (0, .ref (lc_ad S 197))]) dX4_round_72 (Nat.le_of_ble_eq_true rfl) rfl rfl ?_
      refine lc_iconst C (pc' := 74) (v := (0 : Int32)) dX4_round_73 (by decide) rfl ?_
      refine lc_istore_n C (pc' := 75) (lo' := [(2, .int (0 : Int32)), (1, .int (0 : Int32)), (0, .ref (lc_ad S 197))]) dX4_round_74 (Nat.le_of_ble_eq_true rfl) rfl rfl ?_
      refine lc_sub (lo' := [(0, .ref (lc_ad S 197)), (1, .int (0 : Int32)), (2, .int (0 : Int32))]) [2, 1, 0] rfl ?_
      exact w_X4_round_75 C   out  lc_FU (0 : Int32) (0 : Int32) s1 h
    · have h := (lc_if2 h).2 c9
      refine lc_aload_n C (pc' := 13) 0 dX4_round_12 rfl rfl ?_
      refine lc_iload_n C (pc' := 14) 1 dX4_round_13 rfl rfl ?_
      refine lc_iconst C (pc' := 15) (v := (1 : Int32)) dX4_round_14 (by decide) rfl ?_
      obtain ⟨r15, h15, h⟩ := lc_bde h
      refine lc_cvi C (pc' := 18) (r := r15) (M' := (va_up M 22 s)) (As := [.int x1, .int (1 : Int32)]) (rest := []) (c_X4_of S X.2.1 M   x1 (1 : Int32) s r15 h15) kl_RX4_43 (lc_at197 S _) rfl rfl rfl rfl (Nat.le_of_ble_eq_true rfl) ⟨Nat.le_of_ble_eq_true rfl, Nat.le_of_ble_eq_true rfl⟩ ⟨rfl, rfl⟩ (lc_z2 _ _) dX4_round_15 rfl ?_
      refine lc_aload_n C (pc' := 19) 0 dX4_round_18 rfl rfl ?_
      refine lc_iload_n C (pc' := 20) 1 dX4_round_19 rfl rfl ?_
      refine lc_iconst C (pc' := 21) (v := (2 : Int32)) dX4_round_20 (by decide) rfl ?_
      obtain ⟨r21, h21, h⟩ := lc_bde h
      refine lc_cvi C (pc' := 24) (r := r21) (M' := (va_up M 22 s)) (As := [.int x1, .int (2 : Int32)]) (rest := [.int r15]) (c_X4_of S X.2.1 M   x1 (2 : Int32) s r21 h21) kl_RX4_43 (lc_at197 S _) rfl rfl rfl rfl (Nat.le_of_ble_eq_true rfl) ⟨Nat.le_of_ble_eq_true rfl, Nat.le_of_ble_eq_true rfl⟩ ⟨rfl, rfl⟩ (lc_z2 _ _) dX4_round_21 rfl ?_
      refine lc_icmp_ge C (pc' := 27) (tgt := 36) dX4_round_24 (by decide) rfl (fun c24 => ?_) (fun c24 => ?_)
      · have h := (lc_if2 h).1 c24
        refine lc_aload_n C (pc' := 37) 0 dX4_round_36 rfl rfl ?_
        refine lc_iload_n C (pc' := 38) 1 dX4_round_37 rfl rfl ?_
        refine lc_iconst C (pc' := 39) (v := (2 : Int32)) dX4_round_38 (by decide) rfl ?_
        obtain ⟨r39, h39, h⟩ := lc_bde h
        refine lc_cvi C (pc' := 42) (r := r39) (M' := (va_up M 22 s)) (As := [.int x1, .int (2 : Int32)]) (rest := []) (c_X4_of S X.2.1 M   x1 (2 : Int32) s r39 h39) kl_RX4_43 (lc_at197 S _) rfl rfl rfl rfl (Nat.le_of_ble_eq_true rfl) ⟨Nat.le_of_ble_eq_true rfl, Nat.le_of_ble_eq_true rfl⟩ ⟨rfl, rfl⟩ (lc_z2 _ _) dX4_round_39 rfl ?_
        exact w_X4_round_42 C   out (fun x1 s => P_X4_round_2  n x1 s) ih  x1 r39 s h
      · have h := (lc_if2 h).2 c24
        refine lc_aload_n C (pc' := 28) 0 dX4_round_27 rfl rfl ?_
        refine lc_iload_n C (pc' := 29) 1 dX4_round_28 rfl rfl ?_
        refine lc_iconst C (pc' := 30) (v := (1 : Int32)) dX4_round_29 (by decide) rfl ?_
        obtain ⟨r30, h30, h⟩ := lc_bde h
        refine lc_cvi C (pc' := 33) (r := r30) (M' := (va_up M 22 s)) (As := [.int x1, .int (1 : Int32)]) (rest := []) (c_X4_of S X.2.1 M   x1 (1 : Int32) s r30 h30) kl_RX4_43 (lc_at197 S _) rfl rfl rfl rfl (Nat.le_of_ble_eq_true rfl) ⟨Nat.le_of_ble_eq_true rfl, Nat.le_of_ble_eq_true rfl⟩ ⟨rfl, rfl⟩ (lc_z2 _ _) dX4_round_30 rfl ?_
        refine lc_goto C (tgt := 42) dX4_round_33 (by decide) ?_
        exact w_X4_round_42 C   out (fun x1 s => P_X4_round_2  n x1 s) ih  x1 r30 s h
def P_X4_round   (s : lc_St) : Option (Int32 × lc_St) :=
  P_X4_round_2  lc_FU (0 : Int32) s
set_option maxRecDepth 100000 in
set_option maxHeartbeats 4000000 in
theorem c_X4_round (S : lc_Se) (l : Launch) (M : lc_MM)   (s : lc_St) (out : Int32 × lc_St) (h : P_X4_round  s = some out) : lc_MI S l yX4_round cX4_round 3 (some .int) rm_X4_round [.ref (lc_ad S 197)] (va_up M 22 s) out.1 (va_up M 22 out.2) := by
  refine lc_mkI (own := RX4) pn_RX4 rfl (Nat.le_of_ble_eq_true rfl) (lo := [(0, .ref (lc_ad S 197))]) rfl (fun X hX C => ?_)
  rw [P_X4_round] at h
  refine lc_iconst C (pc' := 1) (v := (0 : Int32)) dX4_round_0 (by decide) rfl ?_
  refine lc_istore_n C (pc' := 2) (lo' := [(1, .int (0 : Int32)), (0, .ref (lc_ad S 197))]) dX4_round_1 (Nat.le_of_ble_eq_true rfl) rfl rfl ?_
  refine lc_sub (lo' := [(0, .ref (lc_ad S 197)), (1, .int (0 : Int32))]) [1, 0] rfl ?_
  exact w_X4_round_2 C   out  lc_FU (0 : Int32) s h
abbrev rm_X4_rounds : Room := { frames := 4, cells := 0, slots := 0, locals := 96 }
def P_X4_rounds_4  : Nat → Int32 → Int32 → Int32 → lc_St → Option (Int32 × lc_St)
  | 0, _, _, _, _ => none
  | n + 1, x1, x2, x3, s =>
    if x1 ≤ x3 then some (x2, s) else lc_bd2 (P_X4_round  s) (fun r11 s1 => lc_let (x2 ||| r11) (fun x2_15 => lc_let (x3 + (1 : Int32)) (fun x3_16 => P_X4_rounds_4  n x1 x2_15 x3_16 s1)))
set_option maxRecDepth 100000 in
set_option maxHeartbeats 4000000 in
theorem w_X4_rounds_4 {S : lc_Se} {X : lc_X} (C : lc_C X cX4_rounds RX4 4 (some .int) rm_X4_rounds) {M : lc_MM}  (out : Int32 × lc_St)  : ∀ (n : Nat) (x1 : Int32) (x2 : Int32) (x3 : Int32) (s : lc_St), P_X4_rounds_4  n x1 x2 x3 s = some out → lc_J S X 4 0 0 (lc_QI S X 0 0 out.1 (va_up M 22 out.2)) 4 [(0, .ref (lc_ad S 197)), (1, .int x1), (2, .int x2), (3, .int x3)] [] (va_up M 22 s) := by
  intro n
  induction n with
  | zero =>
    intro x1 x2 x3 s h
    rw [P_X4_rounds_4] at h
    cases h
  | succ n ih =>
    intro x1 x2 x3 s h
    rw [P_X4_rounds_4] at h
    refine lc_iload_n C (pc' := 5) 3 dX4_rounds_4 rfl rfl ?_
    refine lc_iload_n C (pc' := 6) 1 dX4_rounds_5 rfl rfl ?_
    refine lc_icmp_ge C (pc' := 9) (tgt := 22) dX4_rounds_6 (by decide) rfl (fun c6 => ?_) (fun c6 => ?_)
    · have h := (lc_if2 h).1 c6
      refine lc_iload_n C (pc' := 23) 2 dX4_rounds_22 rfl rfl ?_
      obtain rfl := Option.some.inj h
      exact lc_iret C rfl dX4_rounds_23
    · have h := (lc_if2 h).2 c6
      refine lc_iload_n C (pc' := 10) 2 dX4_rounds_9 rfl rfl ?_
      refine lc_aload_n C (pc' := 11) 0 dX4_rounds_10 rfl rfl ?_
      obtain ⟨r11, s1, h11, h⟩ := lc_bd2e h
      refine lc_cvi C (pc' := 14) (r := r11) (M' := (va_up M 22 s1)) (As := []) (rest := [.int x2]) (c_X4_round S X.2.1 M    s (r11, s1) h11) kl_RX4_91 (lc_at197 S _) rfl rfl rfl rfl (Nat.le_of_ble_eq_true rfl) ⟨Nat.le_of_ble_eq_true rfl, Nat.le_of_ble_eq_true rfl⟩ ⟨rfl, rfl⟩ (lc_z2 _ _) dX4_rounds_11 rfl ?_
      refine lc_ior C (pc' := 15) dX4_rounds_14 rfl ?_
      obtain ⟨x2_15, e2_15, h⟩ := lc_let2 h
      rw [e2_15]
      refine lc_istore_n C (pc' := 16) (lo' := [(2, .int x2_15), (0, .ref (lc_ad S 197)), (1, .int x1), (3, .int x3)]) dX4_rounds_15 (Nat.le_of_ble_eq_true rfl) rfl rfl ?_
      obtain ⟨x3_16, e3_16, h⟩ := lc_let2 h
      refine lc_iinc C (pc' := 19) (lo' := [(3, .int x3_16), (2, .int x2_15), (0, .ref (lc_ad S 197)), (1, .int x1)]) (q := 3) dX4_rounds_16 rfl (by rw [← e3_16]; rfl) (Nat.le_of_ble_eq_true rfl) rfl rfl ?_
      refine lc_goto C (tgt := 4) dX4_rounds_19 (by decide) ?_
      refine lc_sub (lo' := [(0, .ref (lc_ad S 197)), (1, .int x1), (2, .int x2_15), (3, .int x3_16)]) [2, 3, 1, 0] rfl ?_
      exact ih x1 x2_15 x3_16 s1 h
def P_X4_rounds  (x1 : Int32) (s : lc_St) : Option (Int32 × lc_St) :=
  P_X4_rounds_4  lc_FU x1 (0 : Int32) (0 : Int32) s
set_option maxRecDepth 100000 in
set_option maxHeartbeats 4000000 in
theorem c_X4_rounds (S : lc_Se) (l : Launch) (M : lc_MM)  (x1 : Int32) (s : lc_St) (out : Int32 × lc_St) (h : P_X4_rounds x1 s = some out) : lc_MI S l yX4_rounds cX4_rounds 4 (some .int) rm_X4_rounds [.ref (lc_ad S 197), .int x1] (va_up M 22 s) out.1 (va_up M 22 out.2) := by
  refine lc_mkI (own := RX4) pn_RX4 rfl (Nat.le_of_ble_eq_true rfl) (lo := [(0, .ref (lc_ad S 197)), (1, .int x1)]) rfl (fun X hX C => ?_)
  rw [P_X4_rounds] at h
  refine lc_iconst C (pc' := 1) (v := (0 : Int32)) dX4_rounds_0 (by decide) rfl ?_
  refine lc_istore_n C (pc' := 2) (lo' := [(2, .int (0 : Int32)), (0, .ref (lc_ad S 197)), (1, .int x1)]) dX4_rounds_1 (Nat.le_of_ble_eq_true rfl) rfl rfl ?_
  refine lc_iconst C (pc' := 3) (v := (0 : Int32)) dX4_rounds_2 (by decide) rfl ?_
  refine lc_istore_n C (pc' := 4) (lo' := [(3, .int (0 : Int32)), (2, .int (0 : Int32)), (0, .ref (lc_ad S 197)), (1, .int x1)]) dX4_rounds_3 (Nat.le_of_ble_eq_true rfl) rfl rfl ?_
  refine lc_sub (lo' := [(0, .ref (lc_ad S 197)), (1, .int x1), (2, .int (0 : Int32)), (3, .int (0 : Int32))]) [2, 3, 1, 0] rfl ?_
  exact w_X4_rounds_4 C   out  lc_FU x1 (0 : Int32) (0 : Int32) s h
abbrev rm_X4_charges : Room := { frames := 2, cells := 0, slots := 0, locals := 43 }
def P_X4_charges_82 (K4 : Int32 → Int32 → Int32 → lc_St → Option (Int32 × lc_St)) (x1 : Int32) (x2 : Int32) (x3 : Int32) (s : lc_St) : Option (Int32 × lc_St) :=
  lc_let (x3 + (1 : Int32)) (fun x3_82 => K4 x1 x2 x3_82 s)
set_option maxRecDepth 100000 in
set_option maxHeartbeats 4000000 in
theorem w_X4_charges_82 {S : lc_Se} {X : lc_X} (C : lc_C X cX4_charges RX4 5 (some .int) rm_X4_charges) {M : lc_MM}  (out : Int32 × lc_St) (K4 : Int32 → Int32 → Int32 → lc_St → Option (Int32 × lc_St)) (hK4 : ∀ (x1 : Int32) (x2 : Int32) (x3 : Int32) (s : lc_St), K4 x1 x2 x3 s = some out → lc_J S X 5 0 0 (lc_QI S X 0 0 out.1 (va_up M 22 out.2)) 4 [(0, .ref (lc_ad S 197)), (1, .int x1), (2, .int x2), (3, .int x3)] [] (va_up M 22 s)) : ∀ (x1 : Int32) (x2 : Int32) (x3 : Int32) (s : lc_St), P_X4_charges_82 K4 x1 x2 x3 s = some out → lc_J S X 5 0 0 (lc_QI S X 0 0 out.1 (va_up M 22 out.2)) 82 [(0, .ref (lc_ad S 197)), (1, .int x1), (2, .int x2), (3, .int x3)] [] (va_up M 22 s) := by
  intro x1 x2 x3 s h
  rw [P_X4_charges_82] at h
  obtain ⟨x3_82, e3_82, h⟩ := lc_let2 h
  refine lc_iinc C (pc' := 85) (lo' := [(3, .int x3_82), (0, .ref (lc_ad S 197)), (1, .int x1), (2, .int x2)]) (q := 3) dX4_charges_82 rfl (by rw [← e3_82]; rfl) (Nat.le_of_ble_eq_true rfl) rfl rfl ?_
  refine lc_goto C (tgt := 4) dX4_charges_85 (by decide) ?_
  refine lc_sub (lo' := [(0, .ref (lc_ad S 197)), (1, .int x1), (2, .int x2), (3, .int x3_82)]) [1, 2, 3, 0] rfl ?_
  exact hK4 x1 x2 x3_82 s h
def P_X4_charges_70 (K4 : Int32 → Int32 → Int32 → lc_St → Option (Int32 × lc_St)) (x1 : Int32) (x3 : Int32) (t0 : Int32) (t1 : Int32) (s : lc_St) : Option (Int32 × lc_St) :=
  lc_let (t0 + t1) (fun x2_71 => lc_let (lc_ss s 1 3 ((s 1 3) + x1)) (fun s3 => P_X4_charges_82 K4  x1 x2_71 x3 s3))
set_option maxRecDepth 100000 in
set_option maxHeartbeats 4000000 in
theorem w_X4_charges_70 {S : lc_Se} {X : lc_X} (C : lc_C X cX4_charges RX4 5 (some .int) rm_X4_charges) {M : lc_MM}  (out : Int32 × lc_St) (K4 : Int32 → Int32 → Int32 → lc_St → Option (Int32 × lc_St)) (hK4 : ∀ (x1 : Int32) (x2 : Int32) (x3 : Int32) (s : lc_St), K4 x1 x2 x3 s = some out → lc_J S X 5 0 0 (lc_QI S X 0 0 out.1 (va_up M 22 out.2)) 4 [(0, .ref (lc_ad S 197)), (1, .int x1), (2, .int x2), (3, .int x3)] [] (va_up M 22 s)) : ∀ (x1 : Int32) (x3 : Int32) (t0 : Int32) (t1 : Int32) (s : lc_St), P_X4_charges_70 K4 x1 x3 t0 t1 s = some out → lc_J S X 5 0 0 (lc_QI S X 0 0 out.1 (va_up M 22 out.2)) 70 [(0, .ref (lc_ad S 197)), (1, .int x1), (3, .int x3)] [.int t1, .int t0] (va_up M 22 s) := by
  intro x1 x3 t0 t1 s h
  rw [P_X4_charges_70] at h
  refine lc_iadd C (pc' := 71) dX4_charges_70 rfl ?_
  obtain ⟨x2_71, e2_71, h⟩ := lc_let2 h
  rw [e2_71]
  refine lc_istore_n C (pc' := 72) (lo' := [(2, .int x2_71), (0, .ref (lc_ad S 197)), (1, .int x1), (3, .int x3)]) dX4_charges_71 (Nat.le_of_ble_eq_true rfl) rfl rfl ?_
  refine lc_aload_n C (pc' := 73) 1 dX4_charges_72 rfl rfl ?_
  refine lc_g197_now C (pc' := 76) (va_up_self _ _ _) dX4_charges_73 kf_RX4_7 rfl ?_
  refine lc_iconst C (pc' := 77) (v := (3 : Int32)) dX4_charges_76 (by decide) rfl ?_
  refine lc_dup2 C (pc' := 78) dX4_charges_77 rfl rfl rfl ?_
  refine lc_ld198 C (pc' := 79) (jj := 3) (va_up_self _ _ _) (by decide) (by decide) dX4_charges_78 rfl ?_
  refine lc_iload_n C (pc' := 80) 2 dX4_charges_79 rfl rfl ?_
  refine lc_iadd C (pc' := 81) dX4_charges_80 rfl ?_
  obtain ⟨s3, es3, h⟩ := lc_let2 h
  refine lc_sd198 C (pc' := 82) (jj := 3) (M' := (va_up M 22 s3)) (va_up_self _ _ _) (by decide) (by decide) es3 (lc_up_up _ _ _ _) dX4_charges_81 rfl ?_
  refine lc_sub (lo' := [(0, .ref (lc_ad S 197)), (1, .int x1), (2, .int x2_71), (3, .int x3)]) [1, 2, 0, 3] rfl ?_
  exact w_X4_charges_82 C   out K4 hK4  x1 x2_71 x3 s3 h
def P_X4_charges_52 (K4 : Int32 → Int32 → Int32 → lc_St → Option (Int32 × lc_St)) (x1 : Int32) (x2 : Int32) (x3 : Int32) (x4 : Int32) (t1 : Int32) (t2 : Int32) (t3 : Int32) (s : lc_St) : Option (Int32 × lc_St) :=
  lc_bd (P_X4_more t1 t2 t3 s) (fun s2 => if x4 ≤ x1 then P_X4_charges_70 K4  x1 x3 x2 (x1 - x4) s2 else P_X4_charges_70 K4  x1 x3 x2 (0 : Int32) s2)
set_option maxRecDepth 100000 in
set_option maxHeartbeats 4000000 in
theorem w_X4_charges_52 {S : lc_Se} {X : lc_X} (C : lc_C X cX4_charges RX4 5 (some .int) rm_X4_charges) {M : lc_MM}  (out : Int32 × lc_St) (K4 : Int32 → Int32 → Int32 → lc_St → Option (Int32 × lc_St)) (hK4 : ∀ (x1 : Int32) (x2 : Int32) (x3 : Int32) (s : lc_St), K4 x1 x2 x3 s = some out → lc_J S X 5 0 0 (lc_QI S X 0 0 out.1 (va_up M 22 out.2)) 4 [(0, .ref (lc_ad S 197)), (1, .int x1), (2, .int x2), (3, .int x3)] [] (va_up M 22 s)) : ∀ (x1 : Int32) (x2 : Int32) (x3 : Int32) (x4 : Int32) (t1 : Int32) (t2 : Int32) (t3 : Int32) (s : lc_St), P_X4_charges_52 K4 x1 x2 x3 x4 t1 t2 t3 s = some out → lc_J S X 5 0 0 (lc_QI S X 0 0 out.1 (va_up M 22 out.2)) 52 [(0, .ref (lc_ad S 197)), (1, .int x1), (2, .int x2), (3, .int x3), (4, .int x4)] [.int t3, .int t2, .int t1, .ref (lc_ad S 197)] (va_up M 22 s) := by
  intro x1 x2 x3 x4 t1 t2 t3 s h
  rw [P_X4_charges_52] at h
  obtain ⟨s2, h52, h⟩ := lc_bde h
  refine lc_cvv C (pc' := 55) (M' := (va_up M 22 s2)) (As := [.int t1, .int t2, .int t3]) (rest := []) (c_X4_more S X.2.1 M   t1 t2 t3 s s2 h52) kl_RX4_54 (lc_at197 S _) rfl rfl rfl rfl (Nat.le_of_ble_eq_true rfl) ⟨Nat.le_of_ble_eq_true rfl, Nat.le_of_ble_eq_true rfl⟩ ⟨rfl, rfl⟩ (lc_z2 _ _) dX4_charges_52 rfl ?_
  refine lc_iload_n C (pc' := 56) 2 dX4_charges_55 rfl rfl ?_
  refine lc_iload_n C (pc' := 57) 1 dX4_charges_56 rfl rfl ?_
  refine lc_iload C (pc' := 59) 4 dX4_charges_57 rfl rfl ?_
  refine lc_icmp_ge C (pc' := 62) (tgt := 66) dX4_charges_59 (by decide) rfl (fun c59 => ?_) (fun c59 => ?_)
  · have h := (lc_if2 h).1 c59
    refine lc_iload_n C (pc' := 67) 1 dX4_charges_66 rfl rfl ?_
    refine lc_iload C (pc' := 69) 4 dX4_charges_67 rfl rfl ?_
    refine lc_isub C (pc' := 70) dX4_charges_69 rfl ?_
    refine lc_sub (lo' := [(0, .ref (lc_ad S 197)), (1, .int x1), (3, .int x3)]) [0, 1, 3] rfl ?_
    exact w_X4_charges_70 C   out K4 hK4  x1 x3 x2 (x1 - x4) s2 h
  · have h := (lc_if2 h).2 c59
    refine lc_iconst C (pc' := 63) (v := (0 : Int32)) dX4_charges_62 (by decide) rfl ?_
    refine lc_goto C (tgt := 70) dX4_charges_63 (by decide) ?_
    refine lc_sub (lo' := [(0, .ref (lc_ad S 197)), (1, .int x1), (3, .int x3)]) [0, 1, 3] rfl ?_
    exact w_X4_charges_70 C   out K4 hK4  x1 x3 x2 (0 : Int32) s2 h
def P_X4_charges_4  : Nat → Int32 → Int32 → Int32 → lc_St → Option (Int32 × lc_St)
  | 0, _, _, _, _ => none
  | n + 1, x1, x2, x3, s =>
    if (s 1 1) ≤ x3 then lc_let (lc_ss s 1 5 ((s 1 5) + x2)) (fun s1 => some (x2, s1)) else lc_bd (P_X4_isSound x3 s) (fun r16 => if r16 = 0 then P_X4_charges_82 (fun x1 x2 x3 s => P_X4_charges_4  n x1 x2 x3 s)  x1 x2 x3 s else lc_bd (P_X4_of x3 (0 : Int32) s) (fun r25 => lc_bd (P_X4_of x3 (1 : Int32) s) (fun r31 => lc_let (r25 - r31) (fun x4_35 => if x4_35 ≤ x1 then P_X4_charges_52 (fun x1 x2 x3 s => P_X4_charges_4  n x1 x2 x3 s)  x1 x2 x3 x4_35 x3 (1 : Int32) x4_35 s else P_X4_charges_52 (fun x1 x2 x3 s => P_X4_charges_4  n x1 x2 x3 s)  x1 x2 x3 x4_35 x3 (1 : Int32) x1 s))))
set_option maxRecDepth 100000 in
set_option maxHeartbeats 4000000 in
theorem w_X4_charges_4 {S : lc_Se} {X : lc_X} (C : lc_C X cX4_charges RX4 5 (some .int) rm_X4_charges) {M : lc_MM}  (out : Int32 × lc_St)  : ∀ (n : Nat) (x1 : Int32) (x2 : Int32) (x3 : Int32) (s : lc_St), P_X4_charges_4  n x1 x2 x3 s = some out → lc_J S X 5 0 0 (lc_QI S X 0 0 out.1 (va_up M 22 out.2)) 4 [(0, .ref (lc_ad S 197)), (1, .int x1), (2, .int x2), (3, .int x3)] [] (va_up M 22 s) := by
  intro n
  induction n with
  | zero =>
    intro x1 x2 x3 s h
    rw [P_X4_charges_4] at h
    cases h
  | succ n ih =>
    intro x1 x2 x3 s h
    rw [P_X4_charges_4] at h
    refine lc_iload_n C (pc' := 5) 3 dX4_charges_4 rfl rfl ?_
    refine lc_aload_n C (pc' := 6) 0 dX4_charges_5 rfl rfl ?_
    refine lc_g197_now C (pc' := 9) (va_up_self _ _ _) dX4_charges_6 kf_RX4_7 rfl ?_
    refine lc_iconst C (pc' := 10) (v := (1 : Int32)) dX4_charges_9 (by decide) rfl ?_
    refine lc_ld198 C (pc' := 11) (jj := 1) (va_up_self _ _ _) (by decide) (by decide) dX4_charges_10 rfl ?_
    refine lc_icmp_ge C (pc' := 14) (tgt := 88) dX4_charges_11 (by decide) rfl (fun c11 => ?_) (fun c11 => ?_)
    · have h := (lc_if2 h).1 c11
      refine lc_aload_n C (pc' := 89) 0 dX4_charges_88 rfl rfl ?_
      refine lc_g197_now C (pc' := 92) (va_up_self _ _ _) dX4_charges_89 kf_RX4_7 rfl ?_
      refine lc_iconst C (pc' := 93) (v := (5 : Int32)) dX4_charges_92 (by decide) rfl ?_
      refine lc_dup2 C (pc' := 94) dX4_charges_93 rfl rfl rfl ?_
      refine lc_ld198 C (pc' := 95) (jj := 5) (va_up_self _ _ _) (by decide) (by decide) dX4_charges_94 rfl ?_
      refine lc_iload_n C (pc' := 96) 2 dX4_charges_95 rfl rfl ?_
      refine lc_iadd C (pc' := 97) dX4_charges_96 rfl ?_
      obtain ⟨s1, es1, h⟩ := lc_let2 h
      refine lc_sd198 C (pc' := 98) (jj := 5) (M' := (va_up M 22 s1)) (va_up_self _ _ _) (by decide) (by decide) es1 (lc_up_up _ _ _ _) dX4_charges_97 rfl ?_
      refine lc_iload_n C (pc' := 99) 2 dX4_charges_98 rfl rfl ?_
      obtain rfl := Option.some.inj h
      exact lc_iret C rfl dX4_charges_99
    · have h := (lc_if2 h).2 c11
      refine lc_aload_n C (pc' := 15) 0 dX4_charges_14 rfl rfl ?_
      refine lc_iload_n C (pc' := 16) 3 dX4_charges_15 rfl rfl ?_
      obtain ⟨r16, h16, h⟩ := lc_bde h
      refine lc_cvi C (pc' := 19) (r := r16) (M' := (va_up M 22 s)) (As := [.int x3]) (rest := []) (c_X4_isSound S X.2.1 M   x3 s r16 h16) kl_RX4_84 (lc_at197 S _) rfl rfl rfl rfl (Nat.le_of_ble_eq_true rfl) ⟨Nat.le_of_ble_eq_true rfl, Nat.le_of_ble_eq_true rfl⟩ ⟨rfl, rfl⟩ (lc_z2 _ _) dX4_charges_16 rfl ?_
      refine lc_if_eq C (pc' := 22) (tgt := 82) dX4_charges_19 (by decide) rfl (fun c19 => ?_) (fun c19 => ?_)
      · have h := (lc_if2 h).1 c19
        exact w_X4_charges_82 C   out (fun x1 x2 x3 s => P_X4_charges_4  n x1 x2 x3 s) ih  x1 x2 x3 s h
      · have h := (lc_if2 h).2 c19
        refine lc_aload_n C (pc' := 23) 0 dX4_charges_22 rfl rfl ?_
        refine lc_iload_n C (pc' := 24) 3 dX4_charges_23 rfl rfl ?_
        refine lc_iconst C (pc' := 25) (v := (0 : Int32)) dX4_charges_24 (by decide) rfl ?_
        obtain ⟨r25, h25, h⟩ := lc_bde h
        refine lc_cvi C (pc' := 28) (r := r25) (M' := (va_up M 22 s)) (As := [.int x3, .int (0 : Int32)]) (rest := []) (c_X4_of S X.2.1 M   x3 (0 : Int32) s r25 h25) kl_RX4_43 (lc_at197 S _) rfl rfl rfl rfl (Nat.le_of_ble_eq_true rfl) ⟨Nat.le_of_ble_eq_true rfl, Nat.le_of_ble_eq_true rfl⟩ ⟨rfl, rfl⟩ (lc_z2 _ _) dX4_charges_25 rfl ?_
        refine lc_aload_n C (pc' := 29) 0 dX4_charges_28 rfl rfl ?_
        refine lc_iload_n C (pc' := 30) 3 dX4_charges_29 rfl rfl ?_
        refine lc_iconst C (pc' := 31) (v := (1 : Int32)) dX4_charges_30 (by decide) rfl ?_
        obtain ⟨r31, h31, h⟩ := lc_bde h
        refine lc_cvi C (pc' := 34) (r := r31) (M' := (va_up M 22 s)) (As := [.int x3, .int (1 : Int32)]) (rest := [.int r25]) (c_X4_of S X.2.1 M   x3 (1 : Int32) s r31 h31) kl_RX4_43 (lc_at197 S _) rfl rfl rfl rfl (Nat.le_of_ble_eq_true rfl) ⟨Nat.le_of_ble_eq_true rfl, Nat.le_of_ble_eq_true rfl⟩ ⟨rfl, rfl⟩ (lc_z2 _ _) dX4_charges_31 rfl ?_
        refine lc_isub C (pc' := 35) dX4_charges_34 rfl ?_
        obtain ⟨x4_35, e4_35, h⟩ := lc_let2 h
        rw [e4_35]
        refine lc_istore C (pc' := 37) (lo' := [(4, .int x4_35), (0, .ref (lc_ad S 197)), (1, .int x1), (2, .int x2), (3, .int x3)]) dX4_charges_35 (Nat.le_of_ble_eq_true rfl) rfl rfl ?_
        refine lc_aload_n C (pc' := 38) 1 dX4_charges_37 rfl rfl ?_
        refine lc_iload_n C (pc' := 39) 4 dX4_charges_38 rfl rfl ?_
        refine lc_iconst C (pc' := 40) (v := (1 : Int32)) dX4_charges_39 (by decide) rfl ?_
        refine lc_iload_n C (pc' := 41) 2 dX4_charges_40 rfl rfl ?_
        refine lc_iload C (pc' := 43) 0 dX4_charges_41 rfl rfl ?_
        refine lc_icmp_ge C (pc' := 46) (tgt := 50) dX4_charges_43 (by decide) rfl (fun c43 => ?_) (fun c43 => ?_)
        · have h := (lc_if2 h).1 c43
          refine lc_iload C (pc' := 52) 0 dX4_charges_50 rfl rfl ?_
          refine lc_sub (lo' := [(0, .ref (lc_ad S 197)), (1, .int x1), (2, .int x2), (3, .int x3), (4, .int x4_35)]) [1, 2, 3, 4, 0] rfl ?_
          exact w_X4_charges_52 C   out (fun x1 x2 x3 s => P_X4_charges_4  n x1 x2 x3 s) ih  x1 x2 x3 x4_35 x3 (1 : Int32) x4_35 s h
        · have h := (lc_if2 h).2 c43
          refine lc_iload_n C (pc' := 47) 2 dX4_charges_46 rfl rfl ?_
          refine lc_goto C (tgt := 52) dX4_charges_47 (by decide) ?_
          refine lc_sub (lo' := [(0, .ref (lc_ad S 197)), (1, .int x1), (2, .int x2), (3, .int x3), (4, .int x4_35)]) [1, 2, 3, 4, 0] rfl ?_
          exact w_X4_charges_52 C   out (fun x1 x2 x3 s => P_X4_charges_4  n x1 x2 x3 s) ih  x1 x2 x3 x4_35 x3 (1 : Int32) x1 s h
def P_X4_charges  (x1 : Int32) (s : lc_St) : Option (Int32 × lc_St) :=
  P_X4_charges_4  lc_FU x1 (0 : Int32) (0 : Int32) s
set_option maxRecDepth 100000 in
set_option maxHeartbeats 4000000 in
theorem c_X4_charges (S : lc_Se) (l : Launch) (M : lc_MM)  (x1 : Int32) (s : lc_St) (out : Int32 × lc_St) (h : P_X4_charges x1 s = some out) : lc_MI S l yX4_charges cX4_charges 5 (some .int) rm_X4_charges [.ref (lc_ad S 197), .int x1] (va_up M 22 s) out.1 (va_up M 22 out.2) := by
  refine lc_mkI (own := RX4) pn_RX4 rfl (Nat.le_of_ble_eq_true rfl) (lo := [(0, .ref (lc_ad S 197)), (1, .int x1)]) rfl (fun X hX C => ?_)
  rw [P_X4_charges] at h
  refine lc_iconst C (pc' := 1) (v := (0 : Int32)) dX4_charges_0 (by decide) rfl ?_
  refine lc_istore_n C (pc' := 2) (lo' := [(2, .int (0 : Int32)), (0, .ref (lc_ad S 197)), (1, .int x1)]) dX4_charges_1 (Nat.le_of_ble_eq_true rfl) rfl rfl ?_
  refine lc_iconst C (pc' := 3) (v := (0 : Int32)) dX4_charges_2 (by decide) rfl ?_
  refine lc_istore_n C (pc' := 4) (lo' := [(3, .int (0 : Int32)), (2, .int (0 : Int32)), (0, .ref (lc_ad S 197)), (1, .int x1)]) dX4_charges_3 (Nat.le_of_ble_eq_true rfl) rfl rfl ?_
  refine lc_sub (lo' := [(0, .ref (lc_ad S 197)), (1, .int x1), (2, .int (0 : Int32)), (3, .int (0 : Int32))]) [2, 3, 1, 0] rfl ?_
  exact w_X4_charges_4 C   out  lc_FU x1 (0 : Int32) (0 : Int32) s h
abbrev rm_X4_size : Room := { frames := 1, cells := 0, slots := 0, locals := 23 }
def P_X4_size_2  : Nat → Int32 → Int32 → Int32 → Int32 → Option (Int32)
  | 0, _, _, _, _ => none
  | n + 1, x0, x1, x2, x3 =>
    lc_bd (P_X4_arrives x3 x1 x2) (fun r5 => if x0 ≤ r5 then some x3 else lc_let (x3 + (1 : Int32)) (fun x3_12 => P_X4_size_2  n x0 x1 x2 x3_12))
set_option maxRecDepth 100000 in
set_option maxHeartbeats 4000000 in
theorem w_X4_size_2 {S : lc_Se} {X : lc_X} (C : lc_C X cX4_size RX4 4 (some .int) rm_X4_size) {M : lc_MM}  (out : Int32)  : ∀ (n : Nat) (x0 : Int32) (x1 : Int32) (x2 : Int32) (x3 : Int32), P_X4_size_2  n x0 x1 x2 x3 = some out → lc_J S X 4 0 0 (lc_QI S X 0 0 out M) 2 [(0, .int x0), (1, .int x1), (2, .int x2), (3, .int x3)] [] M := by
  intro n
  induction n with
  | zero =>
    intro x0 x1 x2 x3 h
    rw [P_X4_size_2] at h
    cases h
  | succ n ih =>
    intro x0 x1 x2 x3 h
    rw [P_X4_size_2] at h
    refine lc_iload_n C (pc' := 3) 3 dX4_size_2 rfl rfl ?_
    refine lc_iload_n C (pc' := 4) 1 dX4_size_3 rfl rfl ?_
    refine lc_iload_n C (pc' := 5) 2 dX4_size_4 rfl rfl ?_
    obtain ⟨r5, h5, h⟩ := lc_bde h
    refine lc_csi C (pc' := 8) (r := r5) (M' := M) (As := [.int x3, .int x1, .int x2]) (rest := []) (c_X4_arrives S X.2.1 M   x3 x1 x2  r5 h5) kl_RX4_50 rfl rfl (Nat.le_of_ble_eq_true rfl) ⟨Nat.le_of_ble_eq_true rfl, Nat.le_of_ble_eq_true rfl⟩ ⟨rfl, rfl⟩ (lc_z2 _ _) dX4_size_5 rfl ?_
    refine lc_iload_n C (pc' := 9) 0 dX4_size_8 rfl rfl ?_
    refine lc_icmp_ge C (pc' := 12) (tgt := 18) dX4_size_9 (by decide) rfl (fun c9 => ?_) (fun c9 => ?_)
    · have h := (lc_if2 h).1 c9
      refine lc_iload_n C (pc' := 19) 3 dX4_size_18 rfl rfl ?_
      obtain rfl := Option.some.inj h
      exact lc_iret C rfl dX4_size_19
    · have h := (lc_if2 h).2 c9
      obtain ⟨x3_12, e3_12, h⟩ := lc_let2 h
      refine lc_iinc C (pc' := 15) (lo' := [(3, .int x3_12), (0, .int x0), (1, .int x1), (2, .int x2)]) (q := 3) dX4_size_12 rfl (by rw [← e3_12]; rfl) (Nat.le_of_ble_eq_true rfl) rfl rfl ?_
      refine lc_goto C (tgt := 2) dX4_size_15 (by decide) ?_
      refine lc_sub (lo' := [(0, .int x0), (1, .int x1), (2, .int x2), (3, .int x3_12)]) [1, 2, 3, 0] rfl ?_
      exact ih x0 x1 x2 x3_12 h
def P_X4_size  (x0 : Int32) (x1 : Int32) (x2 : Int32)  : Option (Int32) :=
  P_X4_size_2  lc_FU x0 x1 x2 x0
set_option maxRecDepth 100000 in
set_option maxHeartbeats 4000000 in
theorem c_X4_size (S : lc_Se) (l : Launch) (M : lc_MM)  (x0 : Int32) (x1 : Int32) (x2 : Int32)  (out : Int32) (h : P_X4_size x0 x1 x2  = some out) : lc_MI S l yX4_size cX4_size 4 (some .int) rm_X4_size [.int x0, .int x1, .int x2] M out M := by
  refine lc_mkI (own := RX4) pn_RX4 rfl (Nat.le_of_ble_eq_true rfl) (lo := [(0, .int x0), (1, .int x1), (2, .int x2)]) rfl (fun X hX C => ?_)
  rw [P_X4_size] at h
  refine lc_iload_n C (pc' := 1) 0 dX4_size_0 rfl rfl ?_
  refine lc_istore_n C (pc' := 2) (lo' := [(3, .int x0), (0, .int x0), (1, .int x1), (2, .int x2)]) dX4_size_1 (Nat.le_of_ble_eq_true rfl) rfl rfl ?_
  refine lc_sub (lo' := [(0, .int x0), (1, .int x1), (2, .int x2), (3, .int x0)]) [1, 2, 3, 0] rfl ?_
  exact w_X4_size_2 C   out  lc_FU x0 x1 x2 x0 h
abbrev rm_X4_richest : Room := { frames := 2, cells := 0, slots := 0, locals := 43 }
def P_X4_richest_54 (K5 : Int32 → Int32 → Int32 → lc_St → Option (Int32)) (x1 : Int32) (x3 : Int32) (t0 : Int32) (s : lc_St) : Option (Int32) :=
  lc_let (x3 + (1 : Int32)) (fun x3_55 => K5 x1 t0 x3_55 s)
set_option maxRecDepth 100000 in
set_option maxHeartbeats 4000000 in
theorem w_X4_richest_54 {S : lc_Se} {X : lc_X} (C : lc_C X cX4_richest RX4 4 (some .int) rm_X4_richest) {M : lc_MM}  (out : Int32) (K5 : Int32 → Int32 → Int32 → lc_St → Option (Int32)) (hK5 : ∀ (x1 : Int32) (x2 : Int32) (x3 : Int32) (s : lc_St), K5 x1 x2 x3 s = some out → lc_J S X 4 0 0 (lc_QI S X 0 0 out (va_up M 22 s)) 5 [(0, .ref (lc_ad S 197)), (1, .int x1), (2, .int x2), (3, .int x3)] [] (va_up M 22 s)) : ∀ (x1 : Int32) (x3 : Int32) (t0 : Int32) (s : lc_St), P_X4_richest_54 K5 x1 x3 t0 s = some out → lc_J S X 4 0 0 (lc_QI S X 0 0 out (va_up M 22 s)) 54 [(0, .ref (lc_ad S 197)), (1, .int x1), (3, .int x3)] [.int t0] (va_up M 22 s) := by
  intro x1 x3 t0 s h
  rw [P_X4_richest_54] at h
  refine lc_istore_n C (pc' := 55) (lo' := [(2, .int t0), (0, .ref (lc_ad S 197)), (1, .int x1), (3, .int x3)]) dX4_richest_54 (Nat.le_of_ble_eq_true rfl) rfl rfl ?_
  obtain ⟨x3_55, e3_55, h⟩ := lc_let2 h
  refine lc_iinc C (pc' := 58) (lo' := [(3, .int x3_55), (2, .int t0), (0, .ref (lc_ad S 197)), (1, .int x1)]) (q := 3) dX4_richest_55 rfl (by rw [← e3_55]; rfl) (Nat.le_of_ble_eq_true rfl) rfl rfl ?_
  refine lc_goto C (tgt := 5) dX4_richest_58 (by decide) ?_
  refine lc_sub (lo' := [(0, .ref (lc_ad S 197)), (1, .int x1), (2, .int t0), (3, .int x3_55)]) [2, 3, 1, 0] rfl ?_
  exact hK5 x1 t0 x3_55 s h
def P_X4_richest_53 (K5 : Int32 → Int32 → Int32 → lc_St → Option (Int32)) (x1 : Int32) (x2 : Int32) (x3 : Int32) (s : lc_St) : Option (Int32) :=
  P_X4_richest_54 K5  x1 x3 x2 s
set_option maxRecDepth 100000 in
set_option maxHeartbeats 4000000 in
theorem w_X4_richest_53 {S : lc_Se} {X : lc_X} (C : lc_C X cX4_richest RX4 4 (some .int) rm_X4_richest) {M : lc_MM}  (out : Int32) (K5 : Int32 → Int32 → Int32 → lc_St → Option (Int32)) (hK5 : ∀ (x1 : Int32) (x2 : Int32) (x3 : Int32) (s : lc_St), K5 x1 x2 x3 s = some out → lc_J S X 4 0 0 (lc_QI S X 0 0 out (va_up M 22 s)) 5 [(0, .ref (lc_ad S 197)), (1, .int x1), (2, .int x2), (3, .int x3)] [] (va_up M 22 s)) : ∀ (x1 : Int32) (x2 : Int32) (x3 : Int32) (s : lc_St), P_X4_richest_53 K5 x1 x2 x3 s = some out → lc_J S X 4 0 0 (lc_QI S X 0 0 out (va_up M 22 s)) 53 [(0, .ref (lc_ad S 197)), (1, .int x1), (2, .int x2), (3, .int x3)] [] (va_up M 22 s) := by
  intro x1 x2 x3 s h
  rw [P_X4_richest_53] at h
  refine lc_iload_n C (pc' := 54) 2 dX4_richest_53 rfl rfl ?_
  refine lc_sub (lo' := [(0, .ref (lc_ad S 197)), (1, .int x1), (3, .int x3)]) [0, 1, 3] rfl ?_
  exact w_X4_richest_54 C   out K5 hK5  x1 x3 x2 s h
def P_X4_richest_49 (K5 : Int32 → Int32 → Int32 → lc_St → Option (Int32)) (x1 : Int32) (x3 : Int32) (s : lc_St) : Option (Int32) :=
  P_X4_richest_54 K5  x1 x3 x3 s
set_option maxRecDepth 100000 in
set_option maxHeartbeats 4000000 in
theorem w_X4_richest_49 {S : lc_Se} {X : lc_X} (C : lc_C X cX4_richest RX4 4 (some .int) rm_X4_richest) {M : lc_MM}  (out : Int32) (K5 : Int32 → Int32 → Int32 → lc_St → Option (Int32)) (hK5 : ∀ (x1 : Int32) (x2 : Int32) (x3 : Int32) (s : lc_St), K5 x1 x2 x3 s = some out → lc_J S X 4 0 0 (lc_QI S X 0 0 out (va_up M 22 s)) 5 [(0, .ref (lc_ad S 197)), (1, .int x1), (2, .int x2), (3, .int x3)] [] (va_up M 22 s)) : ∀ (x1 : Int32) (x3 : Int32) (s : lc_St), P_X4_richest_49 K5 x1 x3 s = some out → lc_J S X 4 0 0 (lc_QI S X 0 0 out (va_up M 22 s)) 49 [(0, .ref (lc_ad S 197)), (1, .int x1), (3, .int x3)] [] (va_up M 22 s) := by
  intro x1 x3 s h
  rw [P_X4_richest_49] at h
  refine lc_iload_n C (pc' := 50) 2 dX4_richest_49 rfl rfl ?_
  refine lc_goto C (tgt := 54) dX4_richest_50 (by decide) ?_
  exact w_X4_richest_54 C   out K5 hK5  x1 x3 x3 s h
def P_X4_richest_5  : Nat → Int32 → Int32 → Int32 → lc_St → Option (Int32)
  | 0, _, _, _, _ => none
  | n + 1, x1, x2, x3, s =>
    if (s 1 1) ≤ x3 then some x2 else if x3 = x1 then P_X4_richest_53 (fun x1 x2 x3 s => P_X4_richest_5  n x1 x2 x3 s)  x1 x2 x3 s else lc_bd (P_X4_isSound x3 s) (fun r22 => if r22 = 0 then P_X4_richest_53 (fun x1 x2 x3 s => P_X4_richest_5  n x1 x2 x3 s)  x1 x2 x3 s else if x2 = (-9 : Int32) then P_X4_richest_49 (fun x1 x2 x3 s => P_X4_richest_5  n x1 x2 x3 s)  x1 x3 s else lc_bd (P_X4_of x3 (1 : Int32) s) (fun r37 => lc_bd (P_X4_of x2 (1 : Int32) s) (fun r43 => if r37 ≤ r43 then P_X4_richest_53 (fun x1 x2 x3 s => P_X4_richest_5  n x1 x2 x3 s)  x1 x2 x3 s else P_X4_richest_49 (fun x1 x2 x3 s => P_X4_richest_5  n x1 x2 x3 s)  x1 x3 s)))
set_option maxRecDepth 100000 in
set_option maxHeartbeats 4000000 in
theorem w_X4_richest_5 {S : lc_Se} {X : lc_X} (C : lc_C X cX4_richest RX4 4 (some .int) rm_X4_richest) {M : lc_MM}  (out : Int32)  : ∀ (n : Nat) (x1 : Int32) (x2 : Int32) (x3 : Int32) (s : lc_St), P_X4_richest_5  n x1 x2 x3 s = some out → lc_J S X 4 0 0 (lc_QI S X 0 0 out (va_up M 22 s)) 5 [(0, .ref (lc_ad S 197)), (1, .int x1), (2, .int x2), (3, .int x3)] [] (va_up M 22 s) := by
  intro n
  induction n with
  | zero =>
    intro x1 x2 x3 s h
    rw [P_X4_richest_5] at h
    cases h
  | succ n ih =>
    intro x1 x2 x3 s h
    rw [P_X4_richest_5] at h
    refine lc_iload_n C (pc' := 6) 3 dX4_richest_5 rfl rfl ?_
    refine lc_aload_n C (pc' := 7) 0 dX4_richest_6 rfl rfl ?_
    refine lc_g197_now C (pc' := 10) (va_up_self _ _ _) dX4_richest_7 kf_RX4_7 rfl ?_
    refine lc_iconst C (pc' := 11) (v := (1 : Int32)) dX4_richest_10 (by decide) rfl ?_
    refine lc_ld198 C (pc' := 12) (jj := 1) (va_up_self _ _ _) (by decide) (by decide) dX4_richest_11 rfl ?_
    refine lc_icmp_ge C (pc' := 15) (tgt := 61) dX4_richest_12 (by decide) rfl (fun c12 => ?_) (fun c12 => ?_)
    · have h := (lc_if2 h).1 c12
      refine lc_iload_n C (pc' := 62) 2 dX4_richest_61 rfl rfl ?_
      obtain rfl := Option.some.inj h
      exact lc_iret C rfl dX4_richest_62
    · have h := (lc_if2 h).2 c12
      refine lc_iload_n C (pc' := 16) 3 dX4_richest_15 rfl rfl ?_
      refine lc_iload_n C (pc' := 17) 1 dX4_richest_16 rfl rfl ?_
      refine lc_icmp_eq C (pc' := 20) (tgt := 53) dX4_richest_17 (by decide) rfl (fun c17 => ?_) (fun c17 => ?_)
      · have h := (lc_if2 h).1 c17
        exact w_X4_richest_53 C   out (fun x1 x2 x3 s => P_X4_richest_5  n x1 x2 x3 s) ih  x1 x2 x3 s h
      · have h := (lc_if2 h).2 c17
        refine lc_aload_n C (pc' := 21) 0 dX4_richest_20 rfl rfl ?_
        refine lc_iload_n C (pc' := 22) 3 dX4_richest_21 rfl rfl ?_
        obtain ⟨r22, h22, h⟩ := lc_bde h
        refine lc_cvi C (pc' := 25) (r := r22) (M' := (va_up M 22 s)) (As := [.int x3]) (rest := []) (c_X4_isSound S X.2.1 M   x3 s r22 h22) kl_RX4_84 (lc_at197 S _) rfl rfl rfl rfl (Nat.le_of_ble_eq_true rfl) ⟨Nat.le_of_ble_eq_true rfl, Nat.le_of_ble_eq_true rfl⟩ ⟨rfl, rfl⟩ (lc_z2 _ _) dX4_richest_22 rfl ?_
        refine lc_if_eq C (pc' := 28) (tgt := 53) dX4_richest_25 (by decide) rfl (fun c25 => ?_) (fun c25 => ?_)
        · have h := (lc_if2 h).1 c25
          exact w_X4_richest_53 C   out (fun x1 x2 x3 s => P_X4_richest_5  n x1 x2 x3 s) ih  x1 x2 x3 s h
        · have h := (lc_if2 h).2 c25
          refine lc_iload_n C (pc' := 29) 2 dX4_richest_28 rfl rfl ?_
          refine lc_bipush C (pc' := 31) (v := (-9 : Int32)) dX4_richest_29 (by decide) rfl ?_
          refine lc_icmp_eq C (pc' := 34) (tgt := 49) dX4_richest_31 (by decide) rfl (fun c31 => ?_) (fun c31 => ?_)
          · have h := (lc_if2 h).1 c31
            refine lc_sub (lo' := [(0, .ref (lc_ad S 197)), (1, .int x1), (3, .int x3)]) [0, 1, 3] rfl ?_
            exact w_X4_richest_49 C   out (fun x1 x2 x3 s => P_X4_richest_5  n x1 x2 x3 s) ih  x1 x3 s h
          · have h := (lc_if2 h).2 c31
            refine lc_aload_n C (pc' := 35) 0 dX4_richest_34 rfl rfl ?_
            refine lc_iload_n C (pc' := 36) 3 dX4_richest_35 rfl rfl ?_
            refine lc_iconst C (pc' := 37) (v := (1 : Int32)) dX4_richest_36 (by decide) rfl ?_
            obtain ⟨r37, h37, h⟩ := lc_bde h
            refine lc_cvi C (pc' := 40) (r := r37) (M' := (va_up M 22 s)) (As := [.int x3, .int (1 : Int32)]) (rest := []) (c_X4_of S X.2.1 M   x3 (1 : Int32) s r37 h37) kl_RX4_43 (lc_at197 S _) rfl rfl rfl rfl (Nat.le_of_ble_eq_true rfl) ⟨Nat.le_of_ble_eq_true rfl, Nat.le_of_ble_eq_true rfl⟩ ⟨rfl, rfl⟩ (lc_z2 _ _) dX4_richest_37 rfl ?_
            refine lc_aload_n C (pc' := 41) 0 dX4_richest_40 rfl rfl ?_
            refine lc_iload_n C (pc' := 42) 2 dX4_richest_41 rfl rfl ?_
            refine lc_iconst C (pc' := 43) (v := (1 : Int32)) dX4_richest_42 (by decide) rfl ?_
            obtain ⟨r43, h43, h⟩ := lc_bde h
            refine lc_cvi C (pc' := 46) (r := r43) (M' := (va_up M 22 s)) (As := [.int x2, .int (1 : Int32)]) (rest := [.int r37]) (c_X4_of S X.2.1 M   x2 (1 : Int32) s r43 h43) kl_RX4_43 (lc_at197 S _) rfl rfl rfl rfl (Nat.le_of_ble_eq_true rfl) ⟨Nat.le_of_ble_eq_true rfl, Nat.le_of_ble_eq_true rfl⟩ ⟨rfl, rfl⟩ (lc_z2 _ _) dX4_richest_43 rfl ?_
            refine lc_icmp_le C (pc' := 49) (tgt := 53) dX4_richest_46 (by decide) rfl (fun c46 => ?_) (fun c46 => ?_)
            · have h := (lc_if2 h).1 c46
              exact w_X4_richest_53 C   out (fun x1 x2 x3 s => P_X4_richest_5  n x1 x2 x3 s) ih  x1 x2 x3 s h
            · have h := (lc_if2 h).2 c46
              refine lc_sub (lo' := [(0, .ref (lc_ad S 197)), (1, .int x1), (3, .int x3)]) [0, 1, 3] rfl ?_
              exact w_X4_richest_49 C   out (fun x1 x2 x3 s => P_X4_richest_5  n x1 x2 x3 s) ih  x1 x3 s h
def P_X4_richest  (x1 : Int32) (s : lc_St) : Option (Int32) :=
  P_X4_richest_5  lc_FU x1 (-9 : Int32) (0 : Int32) s
set_option maxRecDepth 100000 in
set_option maxHeartbeats 4000000 in
theorem c_X4_richest (S : lc_Se) (l : Launch) (M : lc_MM)  (x1 : Int32) (s : lc_St) (out : Int32) (h : P_X4_richest x1 s = some out) : lc_MI S l yX4_richest cX4_richest 4 (some .int) rm_X4_richest [.ref (lc_ad S 197), .int x1] (va_up M 22 s) out (va_up M 22 s) := by
  refine lc_mkI (own := RX4) pn_RX4 rfl (Nat.le_of_ble_eq_true rfl) (lo := [(0, .ref (lc_ad S 197)), (1, .int x1)]) rfl (fun X hX C => ?_)
  rw [P_X4_richest] at h
  refine lc_bipush C (pc' := 2) (v := (-9 : Int32)) dX4_richest_0 (by decide) rfl ?_
  refine lc_istore_n C (pc' := 3) (lo' := [(2, .int (-9 : Int32)), (0, .ref (lc_ad S 197)), (1, .int x1)]) dX4_richest_2 (Nat.le_of_ble_eq_true rfl) rfl rfl ?_
  refine lc_iconst C (pc' := 4) (v := (0 : Int32)) dX4_richest_3 (by decide) rfl ?_
  refine lc_istore_n C (pc' := 5) (lo' := [(3, .int (0 : Int32)), (2, .int (-9 : Int32)), (0, .ref (lc_ad S 197)), (1, .int x1)]) dX4_richest_4 (Nat.le_of_ble_eq_true rfl) rfl rfl ?_
  refine lc_sub (lo' := [(0, .ref (lc_ad S 197)), (1, .int x1), (2, .int (-9 : Int32)), (3, .int (0 : Int32))]) [2, 3, 1, 0] rfl ?_
  exact w_X4_richest_5 C   out  lc_FU x1 (-9 : Int32) (0 : Int32) s h
abbrev rm_X4_borrows : Room := { frames := 3, cells := 0, slots := 0, locals := 72 }
def P_X4_borrows  (x1 : Int32) (x2 : Int32) (s : lc_St) : Option (Int32 × lc_St) :=
  lc_bd (P_X4_richest x1 s) (fun r2 => if r2 = (-9 : Int32) then some ((0 : Int32), s) else lc_bd (P_X4_of x1 (0 : Int32) s) (fun r15 => if r15 < x2 then some ((0 : Int32), s) else if (s 1 2) = (12 : Int32) then some ((0 : Int32), s) else lc_bd (P_X4_of x1 (1 : Int32) s) (fun r39 => lc_bd (P_X4_size (x2 - r39) r2 x1) (fun r45 => lc_bd (P_X4_of r2 (1 : Int32) s) (fun r53 => if x2 ≤ (r53 - r45) then lc_bd2 (P_X4_makeLoan r2 x1 r45 (10 : Int32) s) (fun r72 s1 => if r72 < 0 then some ((0 : Int32), s1) else some ((1 : Int32), s1)) else some ((0 : Int32), s))))))
set_option maxRecDepth 100000 in
set_option maxHeartbeats 4000000 in
theorem c_X4_borrows (S : lc_Se) (l : Launch) (M : lc_MM)  (x1 : Int32) (x2 : Int32) (s : lc_St) (out : Int32 × lc_St) (h : P_X4_borrows x1 x2 s = some out) : lc_MI S l yX4_borrows cX4_borrows 5 (some .boolean) rm_X4_borrows [.ref (lc_ad S 197), .int x1, .int x2] (va_up M 22 s) out.1 (va_up M 22 out.2) := by
  refine lc_mkI (own := RX4) pn_RX4 rfl (Nat.le_of_ble_eq_true rfl) (lo := [(0, .ref (lc_ad S 197)), (1, .int x1), (2, .int x2)]) rfl (fun X hX C => ?_)
  rw [P_X4_borrows] at h
  refine lc_aload_n C (pc' := 1) 0 dX4_borrows_0 rfl rfl ?_
  refine lc_iload_n C (pc' := 2) 1 dX4_borrows_1 rfl rfl ?_
  obtain ⟨r2, h2, h⟩ := lc_bde h
  refine lc_cvi C (pc' := 5) (r := r2) (M' := (va_up M 22 s)) (As := [.int x1]) (rest := []) (c_X4_richest S X.2.1 M   x1 s r2 h2) kl_RX4_95 (lc_at197 S _) rfl rfl rfl rfl (Nat.le_of_ble_eq_true rfl) ⟨Nat.le_of_ble_eq_true rfl, Nat.le_of_ble_eq_true rfl⟩ ⟨rfl, rfl⟩ (lc_z2 _ _) dX4_borrows_2 rfl ?_
  refine lc_istore_n C (pc' := 6) (lo' := [(3, .int r2), (0, .ref (lc_ad S 197)), (1, .int x1), (2, .int x2)]) dX4_borrows_5 (Nat.le_of_ble_eq_true rfl) rfl rfl ?_
  refine lc_iload_n C (pc' := 7) 0 dX4_borrows_6 rfl rfl ?_
  refine lc_bipush C (pc' := 9) (v := (-9 : Int32)) dX4_borrows_7 (by decide) rfl ?_
  refine lc_icmp_eq C (pc' := 12) (tgt := 33) dX4_borrows_9 (by decide) rfl (fun c9 => ?_) (fun c9 => ?_)
  · have h := (lc_if2 h).1 c9
    refine lc_iconst C (pc' := 34) (v := (0 : Int32)) dX4_borrows_33 (by decide) rfl ?_
    obtain rfl := Option.some.inj h
    exact lc_zret C rfl (Or.inl rfl) dX4_borrows_34
  · have h := (lc_if2 h).2 c9
    refine lc_aload_n C (pc' := 13) 1 dX4_borrows_12 rfl rfl ?_
    refine lc_iload_n C (pc' := 14) 2 dX4_borrows_13 rfl rfl ?_
    refine lc_iconst C (pc' := 15) (v := (0 : Int32)) dX4_borrows_14 (by decide) rfl ?_
    obtain ⟨r15, h15, h⟩ := lc_bde h
    refine lc_cvi C (pc' := 18) (r := r15) (M' := (va_up M 22 s)) (As := [.int x1, .int (0 : Int32)]) (rest := []) (c_X4_of S X.2.1 M   x1 (0 : Int32) s r15 h15) kl_RX4_43 (lc_at197 S _) rfl rfl rfl rfl (Nat.le_of_ble_eq_true rfl) ⟨Nat.le_of_ble_eq_true rfl, Nat.le_of_ble_eq_true rfl⟩ ⟨rfl, rfl⟩ (lc_z2 _ _) dX4_borrows_15 rfl ?_
    refine lc_iload_n C (pc' := 19) 3 dX4_borrows_18 rfl rfl ?_
    refine lc_icmp_lt C (pc' := 22) (tgt := 33) dX4_borrows_19 (by decide) rfl (fun c19 => ?_) (fun c19 => ?_)
    · have h := (lc_if2 h).1 c19
      refine lc_iconst C (pc' := 34) (v := (0 : Int32)) dX4_borrows_33 (by decide) rfl ?_
      obtain rfl := Option.some.inj h
      exact lc_zret C rfl (Or.inl rfl) dX4_borrows_34
    · have h := (lc_if2 h).2 c19
      refine lc_aload_n C (pc' := 23) 1 dX4_borrows_22 rfl rfl ?_
      refine lc_g197_now C (pc' := 26) (va_up_self _ _ _) dX4_borrows_23 kf_RX4_7 rfl ?_
      refine lc_iconst C (pc' := 27) (v := (2 : Int32)) dX4_borrows_26 (by decide) rfl ?_
      refine lc_ld198 C (pc' := 28) (jj := 2) (va_up_self _ _ _) (by decide) (by decide) dX4_borrows_27 rfl ?_
      refine lc_bipush C (pc' := 30) (v := (12 : Int32)) dX4_borrows_28 (by decide) rfl ?_
      refine lc_icmp_ne C (pc' := 33) (tgt := 35) dX4_borrows_30 (by decide) rfl (fun c30 => ?_) (fun c30 => ?_)
      · have h := (lc_if2 h).2 c30
        refine lc_iload_n C (pc' := 36) 3 dX4_borrows_35 rfl rfl ?_
        refine lc_aload_n C (pc' := 37) 1 dX4_borrows_36 rfl rfl ?_
        refine lc_iload_n C (pc' := 38) 2 dX4_borrows_37 rfl rfl ?_
        refine lc_iconst C (pc' := 39) (v := (1 : Int32)) dX4_borrows_38 (by decide) rfl ?_
        obtain ⟨r39, h39, h⟩ := lc_bde h
        refine lc_cvi C (pc' := 42) (r := r39) (M' := (va_up M 22 s)) (As := [.int x1, .int (1 : Int32)]) (rest := [.int x2]) (c_X4_of S X.2.1 M   x1 (1 : Int32) s r39 h39) kl_RX4_43 (lc_at197 S _) rfl rfl rfl rfl (Nat.le_of_ble_eq_true rfl) ⟨Nat.le_of_ble_eq_true rfl, Nat.le_of_ble_eq_true rfl⟩ ⟨rfl, rfl⟩ (lc_z2 _ _) dX4_borrows_39 rfl ?_
        refine lc_isub C (pc' := 43) dX4_borrows_42 rfl ?_
        refine lc_iload_n C (pc' := 44) 0 dX4_borrows_43 rfl rfl ?_
        refine lc_iload_n C (pc' := 45) 2 dX4_borrows_44 rfl rfl ?_
        obtain ⟨r45, h45, h⟩ := lc_bde h
        refine lc_csi C (pc' := 48) (r := r45) (M' := (va_up M 22 s)) (As := [.int (x2 - r39), .int r2, .int x1]) (rest := []) (c_X4_size S X.2.1 (va_up M 22 s)   (x2 - r39) r2 x1  r45 h45) kl_RX4_98 rfl rfl (Nat.le_of_ble_eq_true rfl) ⟨Nat.le_of_ble_eq_true rfl, Nat.le_of_ble_eq_true rfl⟩ ⟨rfl, rfl⟩ (lc_z2 _ _) dX4_borrows_45 rfl ?_
        refine lc_istore C (pc' := 50) (lo' := [(4, .int r45), (3, .int r2), (0, .ref (lc_ad S 197)), (1, .int x1), (2, .int x2)]) dX4_borrows_48 (Nat.le_of_ble_eq_true rfl) rfl rfl ?_
        refine lc_aload_n C (pc' := 51) 2 dX4_borrows_50 rfl rfl ?_
        refine lc_iload_n C (pc' := 52) 1 dX4_borrows_51 rfl rfl ?_
        refine lc_iconst C (pc' := 53) (v := (1 : Int32)) dX4_borrows_52 (by decide) rfl ?_
        obtain ⟨r53, h53, h⟩ := lc_bde h
        refine lc_cvi C (pc' := 56) (r := r53) (M' := (va_up M 22 s)) (As := [.int r2, .int (1 : Int32)]) (rest := []) (c_X4_of S X.2.1 M   r2 (1 : Int32) s r53 h53) kl_RX4_43 (lc_at197 S _) rfl rfl rfl rfl (Nat.le_of_ble_eq_true rfl) ⟨Nat.le_of_ble_eq_true rfl, Nat.le_of_ble_eq_true rfl⟩ ⟨rfl, rfl⟩ (lc_z2 _ _) dX4_borrows_53 rfl ?_
        refine lc_iload C (pc' := 58) 0 dX4_borrows_56 rfl rfl ?_
        refine lc_isub C (pc' := 59) dX4_borrows_58 rfl ?_
        refine lc_iload_n C (pc' := 60) 4 dX4_borrows_59 rfl rfl ?_
        refine lc_icmp_ge C (pc' := 63) (tgt := 65) dX4_borrows_60 (by decide) rfl (fun c60 => ?_) (fun c60 => ?_)
        · have h := (lc_if2 h).1 c60
          refine lc_aload_n C (pc' := 66) 2 dX4_borrows_65 rfl rfl ?_
          refine lc_iload_n C (pc' := 67) 1 dX4_borrows_66 rfl rfl ?_
          refine lc_iload_n C (pc' := 68) 3 dX4_borrows_67 rfl rfl ?_
          refine lc_iload C (pc' := 70) 0 dX4_borrows_68 rfl rfl ?_
          refine lc_bipush C (pc' := 72) (v := (10 : Int32)) dX4_borrows_70 (by decide) rfl ?_
          obtain ⟨r72, s1, h72, h⟩ := lc_bd2e h
          refine lc_cvi C (pc' := 75) (r := r72) (M' := (va_up M 22 s1)) (As := [.int r2, .int x1, .int r45, .int (10 : Int32)]) (rest := []) (c_X4_makeLoan S X.2.1 M   r2 x1 r45 (10 : Int32) s (r72, s1) h72) kl_RX4_101 (lc_at197 S _) rfl rfl rfl rfl (Nat.le_of_ble_eq_true rfl) ⟨Nat.le_of_ble_eq_true rfl, Nat.le_of_ble_eq_true rfl⟩ ⟨rfl, rfl⟩ (lc_z2 _ _) dX4_borrows_72 rfl ?_
          refine lc_if_lt C (pc' := 78) (tgt := 82) dX4_borrows_75 (by decide) rfl (fun c75 => ?_) (fun c75 => ?_)
          · have h := (lc_if2 h).1 c75
            refine lc_iconst C (pc' := 83) (v := (0 : Int32)) dX4_borrows_82 (by decide) rfl ?_
            obtain rfl := Option.some.inj h
            exact lc_zret C rfl (Or.inl rfl) dX4_borrows_83
          · have h := (lc_if2 h).2 c75
            refine lc_iconst C (pc' := 79) (v := (1 : Int32)) dX4_borrows_78 (by decide) rfl ?_
            refine lc_goto C (tgt := 83) dX4_borrows_79 (by decide) ?_
            obtain rfl := Option.some.inj h
            exact lc_zret C rfl (Or.inr rfl) dX4_borrows_83
        · have h := (lc_if2 h).2 c60
          refine lc_iconst C (pc' := 64) (v := (0 : Int32)) dX4_borrows_63 (by decide) rfl ?_
          obtain rfl := Option.some.inj h
          exact lc_zret C rfl (Or.inl rfl) dX4_borrows_64
      · have h := (lc_if2 h).1 c30
        refine lc_iconst C (pc' := 34) (v := (0 : Int32)) dX4_borrows_33 (by decide) rfl ?_
        obtain rfl := Option.some.inj h
        exact lc_zret C rfl (Or.inl rfl) dX4_borrows_34
abbrev rm_X4_draws0 : Room := { frames := 4, cells := 0, slots := 0, locals := 96 }
def P_X4_draws0_81 (K54 : Int32 → Int32 → Int32 → lc_St → Option (Int32 × lc_St)) (x1 : Int32) (x2 : Int32) (x3 : Int32) (t1 : Int32) (t2 : Int32) (t3 : Int32) (s : lc_St) : Option (Int32 × lc_St) :=
  lc_bd (P_X4_more t1 t2 t3 s) (fun s2 => lc_let (x3 + (1 : Int32)) (fun x3_84 => K54 x1 x2 x3_84 s2))
set_option maxRecDepth 100000 in
set_option maxHeartbeats 4000000 in
theorem w_X4_draws0_81 {S : lc_Se} {X : lc_X} (C : lc_C X cX4_draws0 RX4 4 (some .int) rm_X4_draws0) {M : lc_MM}  (out : Int32 × lc_St) (K54 : Int32 → Int32 → Int32 → lc_St → Option (Int32 × lc_St)) (hK54 : ∀ (x1 : Int32) (x2 : Int32) (x3 : Int32) (s : lc_St), K54 x1 x2 x3 s = some out → lc_J S X 4 0 0 (lc_QI S X 0 0 out.1 (va_up M 22 out.2)) 54 [(0, .ref (lc_ad S 197)), (1, .int x1), (2, .int x2), (3, .int x3)] [] (va_up M 22 s)) : ∀ (x1 : Int32) (x2 : Int32) (x3 : Int32) (t1 : Int32) (t2 : Int32) (t3 : Int32) (s : lc_St), P_X4_draws0_81 K54 x1 x2 x3 t1 t2 t3 s = some out → lc_J S X 4 0 0 (lc_QI S X 0 0 out.1 (va_up M 22 out.2)) 81 [(0, .ref (lc_ad S 197)), (1, .int x1), (2, .int x2), (3, .int x3)] [.int t3, .int t2, .int t1, .ref (lc_ad S 197)] (va_up M 22 s) := by
  intro x1 x2 x3 t1 t2 t3 s h
  rw [P_X4_draws0_81] at h
  obtain ⟨s2, h81, h⟩ := lc_bde h
  refine lc_cvv C (pc' := 84) (M' := (va_up M 22 s2)) (As := [.int t1, .int t2, .int t3]) (rest := []) (c_X4_more S X.2.1 M   t1 t2 t3 s s2 h81) kl_RX4_54 (lc_at197 S _) rfl rfl rfl rfl (Nat.le_of_ble_eq_true rfl) ⟨Nat.le_of_ble_eq_true rfl, Nat.le_of_ble_eq_true rfl⟩ ⟨rfl, rfl⟩ (lc_z2 _ _) dX4_draws0_81 rfl ?_
  obtain ⟨x3_84, e3_84, h⟩ := lc_let2 h
  refine lc_iinc C (pc' := 87) (lo' := [(3, .int x3_84), (0, .ref (lc_ad S 197)), (1, .int x1), (2, .int x2)]) (q := 3) dX4_draws0_84 rfl (by rw [← e3_84]; rfl) (Nat.le_of_ble_eq_true rfl) rfl rfl ?_
  refine lc_goto C (tgt := 54) dX4_draws0_87 (by decide) ?_
  refine lc_sub (lo' := [(0, .ref (lc_ad S 197)), (1, .int x1), (2, .int x2), (3, .int x3_84)]) [1, 2, 3, 0] rfl ?_
  exact hK54 x1 x2 x3_84 s2 h
def P_X4_draws0_54  : Nat → Int32 → Int32 → Int32 → lc_St → Option (Int32 × lc_St)
  | 0, _, _, _, _ => none
  | n + 1, x1, x2, x3, s =>
    if (s 1 1) ≤ x3 then lc_let (lc_ss s 1 4 ((s 1 4) + (x1 * x2))) (fun s1 => some ((x1 * x2), s1)) else lc_bd (P_X4_isSound x3 s) (fun r69 => if r69 = 0 then P_X4_draws0_81 (fun x1 x2 x3 s => P_X4_draws0_54  n x1 x2 x3 s)  x1 x2 x3 x3 (1 : Int32) (0 : Int32) s else P_X4_draws0_81 (fun x1 x2 x3 s => P_X4_draws0_54  n x1 x2 x3 s)  x1 x2 x3 x3 (1 : Int32) (-x1) s)
set_option maxRecDepth 100000 in
set_option maxHeartbeats 4000000 in
theorem w_X4_draws0_54 {S : lc_Se} {X : lc_X} (C : lc_C X cX4_draws0 RX4 4 (some .int) rm_X4_draws0) {M : lc_MM}  (out : Int32 × lc_St)  : ∀ (n : Nat) (x1 : Int32) (x2 : Int32) (x3 : Int32) (s : lc_St), P_X4_draws0_54  n x1 x2 x3 s = some out → lc_J S X 4 0 0 (lc_QI S X 0 0 out.1 (va_up M 22 out.2)) 54 [(0, .ref (lc_ad S 197)), (1, .int x1), (2, .int x2), (3, .int x3)] [] (va_up M 22 s) := by
  intro n
  induction n with
  | zero =>
    intro x1 x2 x3 s h
    rw [P_X4_draws0_54] at h
    cases h
  | succ n ih =>
    intro x1 x2 x3 s h
    rw [P_X4_draws0_54] at h
    refine lc_iload_n C (pc' := 55) 3 dX4_draws0_54 rfl rfl ?_
    refine lc_aload_n C (pc' := 56) 0 dX4_draws0_55 rfl rfl ?_
    refine lc_g197_now C (pc' := 59) (va_up_self _ _ _) dX4_draws0_56 kf_RX4_7 rfl ?_
    refine lc_iconst C (pc' := 60) (v := (1 : Int32)) dX4_draws0_59 (by decide) rfl ?_
    refine lc_ld198 C (pc' := 61) (jj := 1) (va_up_self _ _ _) (by decide) (by decide) dX4_draws0_60 rfl ?_
    refine lc_icmp_ge C (pc' := 64) (tgt := 90) dX4_draws0_61 (by decide) rfl (fun c61 => ?_) (fun c61 => ?_)
    · have h := (lc_if2 h).1 c61
      refine lc_aload_n C (pc' := 91) 0 dX4_draws0_90 rfl rfl ?_
      refine lc_g197_now C (pc' := 94) (va_up_self _ _ _) dX4_draws0_91 kf_RX4_7 rfl ?_
      refine lc_iconst C (pc' := 95) (v := (4 : Int32)) dX4_draws0_94 (by decide) rfl ?_
      refine lc_dup2 C (pc' := 96) dX4_draws0_95 rfl rfl rfl ?_
      refine lc_ld198 C (pc' := 97) (jj := 4) (va_up_self _ _ _) (by decide) (by decide) dX4_draws0_96 rfl ?_
      refine lc_iload_n C (pc' := 98) 1 dX4_draws0_97 rfl rfl ?_
      refine lc_iload_n C (pc' := 99) 2 dX4_draws0_98 rfl rfl ?_
      refine lc_imul C (pc' := 100) dX4_draws0_99 rfl ?_
      refine lc_iadd C (pc' := 101) dX4_draws0_100 rfl ?_
      obtain ⟨s1, es1, h⟩ := lc_let2 h
      refine lc_sd198 C (pc' := 102) (jj := 4) (M' := (va_up M 22 s1)) (va_up_self _ _ _) (by decide) (by decide) es1 (lc_up_up _ _ _ _) dX4_draws0_101 rfl ?_
      refine lc_iload_n C (pc' := 103) 1 dX4_draws0_102 rfl rfl ?_
      refine lc_iload_n C (pc' := 104) 2 dX4_draws0_103 rfl rfl ?_
      refine lc_imul C (pc' := 105) dX4_draws0_104 rfl ?_
      obtain rfl := Option.some.inj h
      exact lc_iret C rfl dX4_draws0_105
    · have h := (lc_if2 h).2 c61
      refine lc_aload_n C (pc' := 65) 0 dX4_draws0_64 rfl rfl ?_
      refine lc_iload_n C (pc' := 66) 3 dX4_draws0_65 rfl rfl ?_
      refine lc_iconst C (pc' := 67) (v := (1 : Int32)) dX4_draws0_66 (by decide) rfl ?_
      refine lc_aload_n C (pc' := 68) 0 dX4_draws0_67 rfl rfl ?_
      refine lc_iload_n C (pc' := 69) 3 dX4_draws0_68 rfl rfl ?_
      obtain ⟨r69, h69, h⟩ := lc_bde h
      refine lc_cvi C (pc' := 72) (r := r69) (M' := (va_up M 22 s)) (As := [.int x3]) (rest := [.int (1 : Int32), .int x3, .ref (lc_ad S 197)]) (c_X4_isSound S X.2.1 M   x3 s r69 h69) kl_RX4_84 (lc_at197 S _) rfl rfl rfl rfl (Nat.le_of_ble_eq_true rfl) ⟨Nat.le_of_ble_eq_true rfl, Nat.le_of_ble_eq_true rfl⟩ ⟨rfl, rfl⟩ (lc_z2 _ _) dX4_draws0_69 rfl ?_
      refine lc_if_eq C (pc' := 75) (tgt := 80) dX4_draws0_72 (by decide) rfl (fun c72 => ?_) (fun c72 => ?_)
      · have h := (lc_if2 h).1 c72
        refine lc_iconst C (pc' := 81) (v := (0 : Int32)) dX4_draws0_80 (by decide) rfl ?_
        exact w_X4_draws0_81 C   out (fun x1 x2 x3 s => P_X4_draws0_54  n x1 x2 x3 s) ih  x1 x2 x3 x3 (1 : Int32) (0 : Int32) s h
      · have h := (lc_if2 h).2 c72
        refine lc_iload_n C (pc' := 76) 1 dX4_draws0_75 rfl rfl ?_
        refine lc_ineg C (pc' := 77) dX4_draws0_76 rfl ?_
        refine lc_goto C (tgt := 81) dX4_draws0_77 (by decide) ?_
        exact w_X4_draws0_81 C   out (fun x1 x2 x3 s => P_X4_draws0_54  n x1 x2 x3 s) ih  x1 x2 x3 x3 (1 : Int32) (-x1) s h
def P_X4_draws0_46 (K4 : Int32 → Int32 → Int32 → lc_St → Option (Int32 × lc_St)) (x1 : Int32) (x2 : Int32) (x3 : Int32) (s : lc_St) : Option (Int32 × lc_St) :=
  lc_let (x3 + (1 : Int32)) (fun x3_46 => K4 x1 x2 x3_46 s)
set_option maxRecDepth 100000 in
set_option maxHeartbeats 4000000 in
theorem w_X4_draws0_46 {S : lc_Se} {X : lc_X} (C : lc_C X cX4_draws0 RX4 4 (some .int) rm_X4_draws0) {M : lc_MM}  (out : Int32 × lc_St) (K4 : Int32 → Int32 → Int32 → lc_St → Option (Int32 × lc_St)) (hK4 : ∀ (x1 : Int32) (x2 : Int32) (x3 : Int32) (s : lc_St), K4 x1 x2 x3 s = some out → lc_J S X 4 0 0 (lc_QI S X 0 0 out.1 (va_up M 22 out.2)) 4 [(0, .ref (lc_ad S 197)), (1, .int x1), (2, .int x2), (3, .int x3)] [] (va_up M 22 s)) : ∀ (x1 : Int32) (x2 : Int32) (x3 : Int32) (s : lc_St), P_X4_draws0_46 K4 x1 x2 x3 s = some out → lc_J S X 4 0 0 (lc_QI S X 0 0 out.1 (va_up M 22 out.2)) 46 [(0, .ref (lc_ad S 197)), (1, .int x1), (2, .int x2), (3, .int x3)] [] (va_up M 22 s) := by
  intro x1 x2 x3 s h
  rw [P_X4_draws0_46] at h
  obtain ⟨x3_46, e3_46, h⟩ := lc_let2 h
  refine lc_iinc C (pc' := 49) (lo' := [(3, .int x3_46), (0, .ref (lc_ad S 197)), (1, .int x1), (2, .int x2)]) (q := 3) dX4_draws0_46 rfl (by rw [← e3_46]; rfl) (Nat.le_of_ble_eq_true rfl) rfl rfl ?_
  refine lc_goto C (tgt := 4) dX4_draws0_49 (by decide) ?_
  refine lc_sub (lo' := [(0, .ref (lc_ad S 197)), (1, .int x1), (2, .int x2), (3, .int x3_46)]) [1, 2, 3, 0] rfl ?_
  exact hK4 x1 x2 x3_46 s h
def P_X4_draws0_4  : Nat → Int32 → Int32 → Int32 → lc_St → Option (Int32 × lc_St)
  | 0, _, _, _, _ => none
  | n + 1, x1, x2, x3, s =>
    if (s 1 1) ≤ x3 then P_X4_draws0_54  lc_FU x1 x2 (0 : Int32) s else lc_bd (P_X4_isSound x3 s) (fun r16 => if r16 = 0 then P_X4_draws0_46 (fun x1 x2 x3 s => P_X4_draws0_4  n x1 x2 x3 s)  x1 x2 x3 s else lc_let (x2 + (1 : Int32)) (fun x2_22 => lc_bd (P_X4_of x3 (1 : Int32) s) (fun r28 => if x1 ≤ r28 then P_X4_draws0_46 (fun x1 x2 x3 s => P_X4_draws0_4  n x1 x2 x3 s)  x1 x2_22 x3 s else lc_bd2 (P_X4_borrows x3 x1 s) (fun r38 s3 => if r38 = 0 then some ((0 : Int32), s3) else P_X4_draws0_46 (fun x1 x2 x3 s => P_X4_draws0_4  n x1 x2 x3 s)  x1 x2_22 x3 s3))))
set_option maxRecDepth 100000 in
set_option maxHeartbeats 4000000 in
theorem w_X4_draws0_4 {S : lc_Se} {X : lc_X} (C : lc_C X cX4_draws0 RX4 4 (some .int) rm_X4_draws0) {M : lc_MM}  (out : Int32 × lc_St)  : ∀ (n : Nat) (x1 : Int32) (x2 : Int32) (x3 : Int32) (s : lc_St), P_X4_draws0_4  n x1 x2 x3 s = some out → lc_J S X 4 0 0 (lc_QI S X 0 0 out.1 (va_up M 22 out.2)) 4 [(0, .ref (lc_ad S 197)), (1, .int x1), (2, .int x2), (3, .int x3)] [] (va_up M 22 s) := by
  intro n
  induction n with
  | zero =>
    intro x1 x2 x3 s h
    rw [P_X4_draws0_4] at h
    cases h
  | succ n ih =>
    intro x1 x2 x3 s h
    rw [P_X4_draws0_4] at h
    refine lc_iload_n C (pc' := 5) 3 dX4_draws0_4 rfl rfl ?_
    refine lc_aload_n C (pc' := 6) 0 dX4_draws0_5 rfl rfl ?_
    refine lc_g197_now C (pc' := 9) (va_up_self _ _ _) dX4_draws0_6 kf_RX4_7 rfl ?_
    refine lc_iconst C (pc' := 10) (v := (1 : Int32)) dX4_draws0_9 (by decide) rfl ?_
    refine lc_ld198 C (pc' := 11) (jj := 1) (va_up_self _ _ _) (by decide) (by decide) dX4_draws0_10 rfl ?_
    refine lc_icmp_ge C (pc' := 14) (tgt := 52) dX4_draws0_11 (by decide) rfl (fun c11 => ?_) (fun c11 => ?_)
    · have h := (lc_if2 h).1 c11
      refine lc_iconst C (pc' := 53) (v := (0 : Int32)) dX4_draws0_52 (by decide) rfl ?_
      refine lc_istore_n C (pc' := 54) (lo' := [(3, .int (0 : Int32)), (0, .ref (lc_ad S 197)), (1, .int x1), (2, .int x2)]) dX4_draws0_53 (Nat.le_of_ble_eq_true rfl) rfl rfl ?_
      refine lc_sub (lo' := [(0, .ref (lc_ad S 197)), (1, .int x1), (2, .int x2), (3, .int (0 : Int32))]) [1, 2, 3, 0] rfl ?_
      exact w_X4_draws0_54 C   out  lc_FU x1 x2 (0 : Int32) s h
    · have h := (lc_if2 h).2 c11
      refine lc_aload_n C (pc' := 15) 0 dX4_draws0_14 rfl rfl ?_
      refine lc_iload_n C (pc' := 16) 3 dX4_draws0_15 rfl rfl ?_
      obtain ⟨r16, h16, h⟩ := lc_bde h
      refine lc_cvi C (pc' := 19) (r := r16) (M' := (va_up M 22 s)) (As := [.int x3]) (rest := []) (c_X4_isSound S X.2.1 M   x3 s r16 h16) kl_RX4_84 (lc_at197 S _) rfl rfl rfl rfl (Nat.le_of_ble_eq_true rfl) ⟨Nat.le_of_ble_eq_true rfl, Nat.le_of_ble_eq_true rfl⟩ ⟨rfl, rfl⟩ (lc_z2 _ _) dX4_draws0_16 rfl ?_
      refine lc_if_eq C (pc' := 22) (tgt := 46) dX4_draws0_19 (by decide) rfl (fun c19 => ?_) (fun c19 => ?_)
      · have h := (lc_if2 h).1 c19
        exact w_X4_draws0_46 C   out (fun x1 x2 x3 s => P_X4_draws0_4  n x1 x2 x3 s) ih  x1 x2 x3 s h
      · have h := (lc_if2 h).2 c19
        obtain ⟨x2_22, e2_22, h⟩ := lc_let2 h
        refine lc_iinc C (pc' := 25) (lo' := [(2, .int x2_22), (0, .ref (lc_ad S 197)), (1, .int x1), (3, .int x3)]) (q := 2) dX4_draws0_22 rfl (by rw [← e2_22]; rfl) (Nat.le_of_ble_eq_true rfl) rfl rfl ?_
        refine lc_aload_n C (pc' := 26) 1 dX4_draws0_25 rfl rfl ?_
        refine lc_iload_n C (pc' := 27) 3 dX4_draws0_26 rfl rfl ?_
        refine lc_iconst C (pc' := 28) (v := (1 : Int32)) dX4_draws0_27 (by decide) rfl ?_
        obtain ⟨r28, h28, h⟩ := lc_bde h
        refine lc_cvi C (pc' := 31) (r := r28) (M' := (va_up M 22 s)) (As := [.int x3, .int (1 : Int32)]) (rest := []) (c_X4_of S X.2.1 M   x3 (1 : Int32) s r28 h28) kl_RX4_43 (lc_at197 S _) rfl rfl rfl rfl (Nat.le_of_ble_eq_true rfl) ⟨Nat.le_of_ble_eq_true rfl, Nat.le_of_ble_eq_true rfl⟩ ⟨rfl, rfl⟩ (lc_z2 _ _) dX4_draws0_28 rfl ?_
        refine lc_iload_n C (pc' := 32) 2 dX4_draws0_31 rfl rfl ?_
        refine lc_icmp_ge C (pc' := 35) (tgt := 46) dX4_draws0_32 (by decide) rfl (fun c32 => ?_) (fun c32 => ?_)
        · have h := (lc_if2 h).1 c32
          refine lc_sub (lo' := [(0, .ref (lc_ad S 197)), (1, .int x1), (2, .int x2_22), (3, .int x3)]) [1, 2, 0, 3] rfl ?_
          exact w_X4_draws0_46 C   out (fun x1 x2 x3 s => P_X4_draws0_4  n x1 x2 x3 s) ih  x1 x2_22 x3 s h
        · have h := (lc_if2 h).2 c32
          refine lc_aload_n C (pc' := 36) 1 dX4_draws0_35 rfl rfl ?_
          refine lc_iload_n C (pc' := 37) 3 dX4_draws0_36 rfl rfl ?_
          refine lc_iload_n C (pc' := 38) 2 dX4_draws0_37 rfl rfl ?_
          obtain ⟨r38, s3, h38, h⟩ := lc_bd2e h
          refine lc_cvi C (pc' := 41) (r := r38) (M' := (va_up M 22 s3)) (As := [.int x3, .int x1]) (rest := []) (c_X4_borrows S X.2.1 M   x3 x1 s (r38, s3) h38) kl_RX4_105 (lc_at197 S _) rfl rfl rfl rfl (Nat.le_of_ble_eq_true rfl) ⟨Nat.le_of_ble_eq_true rfl, Nat.le_of_ble_eq_true rfl⟩ ⟨rfl, rfl⟩ (lc_z2 _ _) dX4_draws0_38 rfl ?_
          refine lc_if_ne C (pc' := 44) (tgt := 46) dX4_draws0_41 (by decide) rfl (fun c41 => ?_) (fun c41 => ?_)
          · have h := (lc_if2 h).2 c41
            refine lc_sub (lo' := [(0, .ref (lc_ad S 197)), (1, .int x1), (2, .int x2_22), (3, .int x3)]) [1, 2, 0, 3] rfl ?_
            exact w_X4_draws0_46 C   out (fun x1 x2 x3 s => P_X4_draws0_4  n x1 x2 x3 s) ih  x1 x2_22 x3 s3 h
          · have h := (lc_if2 h).1 c41
            refine lc_iconst C (pc' := 45) (v := (0 : Int32)) dX4_draws0_44 (by decide) rfl ?_
            obtain rfl := Option.some.inj h
            exact lc_iret C rfl dX4_draws0_45
def P_X4_draws0  (x1 : Int32) (s : lc_St) : Option (Int32 × lc_St) :=
  P_X4_draws0_4  lc_FU x1 (0 : Int32) (0 : Int32) s
set_option maxRecDepth 100000 in
set_option maxHeartbeats 4000000 in
theorem c_X4_draws0 (S : lc_Se) (l : Launch) (M : lc_MM)  (x1 : Int32) (s : lc_St) (out : Int32 × lc_St) (h : P_X4_draws0 x1 s = some out) : lc_MI S l yX4_draws0 cX4_draws0 4 (some .int) rm_X4_draws0 [.ref (lc_ad S 197), .int x1] (va_up M 22 s) out.1 (va_up M 22 out.2) := by
  refine lc_mkI (own := RX4) pn_RX4 rfl (Nat.le_of_ble_eq_true rfl) (lo := [(0, .ref (lc_ad S 197)), (1, .int x1)]) rfl (fun X hX C => ?_)
  rw [P_X4_draws0] at h
  refine lc_iconst C (pc' := 1) (v := (0 : Int32)) dX4_draws0_0 (by decide) rfl ?_
  refine lc_istore_n C (pc' := 2) (lo' := [(2, .int (0 : Int32)), (0, .ref (lc_ad S 197)), (1, .int x1)]) dX4_draws0_1 (Nat.le_of_ble_eq_true rfl) rfl rfl ?_
  refine lc_iconst C (pc' := 3) (v := (0 : Int32)) dX4_draws0_2 (by decide) rfl ?_
  refine lc_istore_n C (pc' := 4) (lo' := [(3, .int (0 : Int32)), (2, .int (0 : Int32)), (0, .ref (lc_ad S 197)), (1, .int x1)]) dX4_draws0_3 (Nat.le_of_ble_eq_true rfl) rfl rfl ?_
  refine lc_sub (lo' := [(0, .ref (lc_ad S 197)), (1, .int x1), (2, .int (0 : Int32)), (3, .int (0 : Int32))]) [2, 3, 1, 0] rfl ?_
  exact w_X4_draws0_4 C   out  lc_FU x1 (0 : Int32) (0 : Int32) s h
abbrev rm_X4_drawn : Room := { frames := 5, cells := 0, slots := 0, locals := 119 }
def P_X4_drawn_34  : Nat → Int32 → Int32 → lc_St → Option (Int32 × lc_St)
  | 0, _, _, _ => none
  | n + 1, x2, x3, s =>
    if (107 : Int32) ≤ x3 then some (x2, s) else if x2 = 0 then lc_if (lc_ok x3 107) (lc_if (lc_ok x3 107) (lc_let (lc_ss s 1 (x3.toNatClampNeg) (s 8 x3.toNatClampNeg)) (fun s2 => lc_let (x3 + (1 : Int32)) (fun x3_56 => P_X4_drawn_34  n x2 x3_56 s2)))) else some (x2, s)
set_option maxRecDepth 100000 in
set_option maxHeartbeats 4000000 in
theorem w_X4_drawn_34 {S : lc_Se} {X : lc_X} (C : lc_C X cX4_drawn RX4 4 (some .int) rm_X4_drawn) {M : lc_MM}  (out : Int32 × lc_St)  : ∀ (n : Nat) (x2 : Int32) (x3 : Int32) (s : lc_St), P_X4_drawn_34  n x2 x3 s = some out → lc_J S X 4 0 0 (lc_QI S X 0 0 out.1 (va_up M 22 out.2)) 34 [(0, .ref (lc_ad S 197)), (2, .int x2), (3, .int x3)] [] (va_up M 22 s) := by
  intro n
  induction n with
  | zero =>
    intro x2 x3 s h
    rw [P_X4_drawn_34] at h
    cases h
  | succ n ih =>
    intro x2 x3 s h
    rw [P_X4_drawn_34] at h
    refine lc_iload_n C (pc' := 35) 2 dX4_drawn_34 rfl rfl ?_
    refine lc_bipush C (pc' := 37) (v := (107 : Int32)) dX4_drawn_35 (by decide) rfl ?_
    refine lc_icmp_ge C (pc' := 40) (tgt := 62) dX4_drawn_37 (by decide) rfl (fun c37 => ?_) (fun c37 => ?_)
    · have h := (lc_if2 h).1 c37
      refine lc_iload_n C (pc' := 63) 1 dX4_drawn_62 rfl rfl ?_
      obtain rfl := Option.some.inj h
      exact lc_iret C rfl dX4_drawn_63
    · have h := (lc_if2 h).2 c37
      refine lc_iload_n C (pc' := 41) 1 dX4_drawn_40 rfl rfl ?_
      refine lc_if_ne C (pc' := 44) (tgt := 62) dX4_drawn_41 (by decide) rfl (fun c41 => ?_) (fun c41 => ?_)
      · have h := (lc_if2 h).2 c41
        refine lc_iload_n C (pc' := 63) 1 dX4_drawn_62 rfl rfl ?_
        obtain rfl := Option.some.inj h
        exact lc_iret C rfl dX4_drawn_63
      · have h := (lc_if2 h).1 c41
        refine lc_aload_n C (pc' := 45) 0 dX4_drawn_44 rfl rfl ?_
        refine lc_g197_now C (pc' := 48) (va_up_self _ _ _) dX4_drawn_45 kf_RX4_7 rfl ?_
        refine lc_iload_n C (pc' := 49) 2 dX4_drawn_48 rfl rfl ?_
        refine lc_aload_n C (pc' := 50) 0 dX4_drawn_49 rfl rfl ?_
        refine lc_g197_ahead C (pc' := 53) (va_up_self _ _ _) dX4_drawn_50 kf_RX4_32 rfl ?_
        refine lc_iload_n C (pc' := 54) 2 dX4_drawn_53 rfl rfl ?_
        obtain ⟨hi54, h⟩ := lc_ife h
        refine lc_ld205 C (pc' := 55) (jj := x3.toNatClampNeg) (va_up_self _ _ _) hi54 rfl dX4_drawn_54 rfl ?_
        obtain ⟨hi55, h⟩ := lc_ife h
        obtain ⟨s2, es2, h⟩ := lc_let2 h
        refine lc_sd198 C (pc' := 56) (jj := x3.toNatClampNeg) (M' := (va_up M 22 s2)) (va_up_self _ _ _) hi55 rfl es2 (lc_up_up _ _ _ _) dX4_drawn_55 rfl ?_
        obtain ⟨x3_56, e3_56, h⟩ := lc_let2 h
        refine lc_iinc C (pc' := 59) (lo' := [(3, .int x3_56), (0, .ref (lc_ad S 197)), (2, .int x2)]) (q := 2) dX4_drawn_56 rfl (by rw [← e3_56]; rfl) (Nat.le_of_ble_eq_true rfl) rfl rfl ?_
        refine lc_goto C (tgt := 34) dX4_drawn_59 (by decide) ?_
        refine lc_sub (lo' := [(0, .ref (lc_ad S 197)), (2, .int x2), (3, .int x3_56)]) [1, 2, 0] rfl ?_
        exact ih x2 x3_56 s2 h
def P_X4_drawn_2  : Nat → Int32 → Int32 → lc_St → Option (Int32 × lc_St)
  | 0, _, _, _ => none
  | n + 1, x1, x2, s =>
    if (107 : Int32) ≤ x2 then lc_bd2 (P_X4_draws0 x1 s) (fun r28 s1 => P_X4_drawn_34  lc_FU r28 (0 : Int32) s1) else lc_if (lc_ok x2 107) (lc_if (lc_ok x2 107) (lc_let (lc_ss s 8 (x2.toNatClampNeg) (s 1 x2.toNatClampNeg)) (fun s3 => lc_let (x2 + (1 : Int32)) (fun x2_20 => P_X4_drawn_2  n x1 x2_20 s3))))
set_option maxRecDepth 100000 in
set_option maxHeartbeats 4000000 in
theorem w_X4_drawn_2 {S : lc_Se} {X : lc_X} (C : lc_C X cX4_drawn RX4 4 (some .int) rm_X4_drawn) {M : lc_MM}  (out : Int32 × lc_St)  : ∀ (n : Nat) (x1 : Int32) (x2 : Int32) (s : lc_St), P_X4_drawn_2  n x1 x2 s = some out → lc_J S X 4 0 0 (lc_QI S X 0 0 out.1 (va_up M 22 out.2)) 2 [(0, .ref (lc_ad S 197)), (1, .int x1), (2, .int x2)] [] (va_up M 22 s) := by
  intro n
  induction n with
  | zero =>
    intro x1 x2 s h
    rw [P_X4_drawn_2] at h
    cases h
  | succ n ih =>
    intro x1 x2 s h
    rw [P_X4_drawn_2] at h
    refine lc_iload_n C (pc' := 3) 2 dX4_drawn_2 rfl rfl ?_
    refine lc_bipush C (pc' := 5) (v := (107 : Int32)) dX4_drawn_3 (by decide) rfl ?_
    refine lc_icmp_ge C (pc' := 8) (tgt := 26) dX4_drawn_5 (by decide) rfl (fun c5 => ?_) (fun c5 => ?_)
    · have h := (lc_if2 h).1 c5
      refine lc_aload_n C (pc' := 27) 0 dX4_drawn_26 rfl rfl ?_
      refine lc_iload_n C (pc' := 28) 1 dX4_drawn_27 rfl rfl ?_
      obtain ⟨r28, s1, h28, h⟩ := lc_bd2e h
      refine lc_cvi C (pc' := 31) (r := r28) (M' := (va_up M 22 s1)) (As := [.int x1]) (rest := []) (c_X4_draws0 S X.2.1 M   x1 s (r28, s1) h28) kl_RX4_109 (lc_at197 S _) rfl rfl rfl rfl (Nat.le_of_ble_eq_true rfl) ⟨Nat.le_of_ble_eq_true rfl, Nat.le_of_ble_eq_true rfl⟩ ⟨rfl, rfl⟩ (lc_z2 _ _) dX4_drawn_28 rfl ?_
      refine lc_istore_n C (pc' := 32) (lo' := [(2, .int r28), (0, .ref (lc_ad S 197)), (1, .int x1)]) dX4_drawn_31 (Nat.le_of_ble_eq_true rfl) rfl rfl ?_
      refine lc_iconst C (pc' := 33) (v := (0 : Int32)) dX4_drawn_32 (by decide) rfl ?_
      refine lc_istore_n C (pc' := 34) (lo' := [(3, .int (0 : Int32)), (2, .int r28), (0, .ref (lc_ad S 197)), (1, .int x1)]) dX4_drawn_33 (Nat.le_of_ble_eq_true rfl) rfl rfl ?_
      refine lc_sub (lo' := [(0, .ref (lc_ad S 197)), (2, .int r28), (3, .int (0 : Int32))]) [2, 1, 0] rfl ?_
      exact w_X4_drawn_34 C   out  lc_FU r28 (0 : Int32) s1 h
    · have h := (lc_if2 h).2 c5
      refine lc_aload_n C (pc' := 9) 0 dX4_drawn_8 rfl rfl ?_
      refine lc_g197_ahead C (pc' := 12) (va_up_self _ _ _) dX4_drawn_9 kf_RX4_32 rfl ?_
      refine lc_iload_n C (pc' := 13) 2 dX4_drawn_12 rfl rfl ?_
      refine lc_aload_n C (pc' := 14) 0 dX4_drawn_13 rfl rfl ?_
      refine lc_g197_now C (pc' := 17) (va_up_self _ _ _) dX4_drawn_14 kf_RX4_7 rfl ?_
      refine lc_iload_n C (pc' := 18) 2 dX4_drawn_17 rfl rfl ?_
      obtain ⟨hi18, h⟩ := lc_ife h
      refine lc_ld198 C (pc' := 19) (jj := x2.toNatClampNeg) (va_up_self _ _ _) hi18 rfl dX4_drawn_18 rfl ?_
      obtain ⟨hi19, h⟩ := lc_ife h
      obtain ⟨s3, es3, h⟩ := lc_let2 h
      refine lc_sd205 C (pc' := 20) (jj := x2.toNatClampNeg) (M' := (va_up M 22 s3)) (va_up_self _ _ _) hi19 rfl es3 (lc_up_up _ _ _ _) dX4_drawn_19 rfl ?_
      obtain ⟨x2_20, e2_20, h⟩ := lc_let2 h
      refine lc_iinc C (pc' := 23) (lo' := [(2, .int x2_20), (0, .ref (lc_ad S 197)), (1, .int x1)]) (q := 2) dX4_drawn_20 rfl (by rw [← e2_20]; rfl) (Nat.le_of_ble_eq_true rfl) rfl rfl ?_
      refine lc_goto C (tgt := 2) dX4_drawn_23 (by decide) ?_
      refine lc_sub (lo' := [(0, .ref (lc_ad S 197)), (1, .int x1), (2, .int x2_20)]) [1, 2, 0] rfl ?_
      exact ih x1 x2_20 s3 h
def P_X4_drawn  (x1 : Int32) (s : lc_St) : Option (Int32 × lc_St) :=
  P_X4_drawn_2  lc_FU x1 (0 : Int32) s
set_option maxRecDepth 100000 in
set_option maxHeartbeats 4000000 in
theorem c_X4_drawn (S : lc_Se) (l : Launch) (M : lc_MM)  (x1 : Int32) (s : lc_St) (out : Int32 × lc_St) (h : P_X4_drawn x1 s = some out) : lc_MI S l yX4_drawn cX4_drawn 4 (some .int) rm_X4_drawn [.ref (lc_ad S 197), .int x1] (va_up M 22 s) out.1 (va_up M 22 out.2) := by
  refine lc_mkI (own := RX4) pn_RX4 rfl (Nat.le_of_ble_eq_true rfl) (lo := [(0, .ref (lc_ad S 197)), (1, .int x1)]) rfl (fun X hX C => ?_)
  rw [P_X4_drawn] at h
  refine lc_iconst C (pc' := 1) (v := (0 : Int32)) dX4_drawn_0 (by decide) rfl ?_
  refine lc_istore_n C (pc' := 2) (lo' := [(2, .int (0 : Int32)), (0, .ref (lc_ad S 197)), (1, .int x1)]) dX4_drawn_1 (Nat.le_of_ble_eq_true rfl) rfl rfl ?_
  refine lc_sub (lo' := [(0, .ref (lc_ad S 197)), (1, .int x1), (2, .int (0 : Int32))]) [1, 2, 0] rfl ?_
  exact w_X4_drawn_2 C   out  lc_FU x1 (0 : Int32) s h
abbrev rm_X4_allCharge : Room := { frames := 1, cells := 0, slots := 0, locals := 22 }
def P_X4_allCharge_4  : Nat → Int32 → Int32 → lc_St → Option (Int32)
  | 0, _, _, _ => none
  | n + 1, x1, x2, s =>
    if (s 1 1) ≤ x2 then some x1 else lc_bd (P_X4_of x2 (1 : Int32) s) (fun r18 => lc_let (x1 + r18) (fun x1_22 => lc_let (x2 + (1 : Int32)) (fun x2_23 => P_X4_allCharge_4  n x1_22 x2_23 s)))
set_option maxRecDepth 100000 in
set_option maxHeartbeats 4000000 in
theorem w_X4_allCharge_4 {S : lc_Se} {X : lc_X} (C : lc_C X cX4_allCharge RX4 3 (some .int) rm_X4_allCharge) {M : lc_MM}  (out : Int32)  : ∀ (n : Nat) (x1 : Int32) (x2 : Int32) (s : lc_St), P_X4_allCharge_4  n x1 x2 s = some out → lc_J S X 3 0 0 (lc_QI S X 0 0 out (va_up M 22 s)) 4 [(0, .ref (lc_ad S 197)), (1, .int x1), (2, .int x2)] [] (va_up M 22 s) := by
  intro n
  induction n with
  | zero =>
    intro x1 x2 s h
    rw [P_X4_allCharge_4] at h
    cases h
  | succ n ih =>
    intro x1 x2 s h
    rw [P_X4_allCharge_4] at h
    refine lc_iload_n C (pc' := 5) 2 dX4_allCharge_4 rfl rfl ?_
    refine lc_aload_n C (pc' := 6) 0 dX4_allCharge_5 rfl rfl ?_
    refine lc_g197_now C (pc' := 9) (va_up_self _ _ _) dX4_allCharge_6 kf_RX4_7 rfl ?_
    refine lc_iconst C (pc' := 10) (v := (1 : Int32)) dX4_allCharge_9 (by decide) rfl ?_
    refine lc_ld198 C (pc' := 11) (jj := 1) (va_up_self _ _ _) (by decide) (by decide) dX4_allCharge_10 rfl ?_
    refine lc_icmp_ge C (pc' := 14) (tgt := 29) dX4_allCharge_11 (by decide) rfl (fun c11 => ?_) (fun c11 => ?_)
    · have h := (lc_if2 h).1 c11
      refine lc_iload_n C (pc' := 30) 1 dX4_allCharge_29 rfl rfl ?_
      obtain rfl := Option.some.inj h
      exact lc_iret C rfl dX4_allCharge_30
    · have h := (lc_if2 h).2 c11
      refine lc_iload_n C (pc' := 15) 1 dX4_allCharge_14 rfl rfl ?_
      refine lc_aload_n C (pc' := 16) 0 dX4_allCharge_15 rfl rfl ?_
      refine lc_iload_n C (pc' := 17) 2 dX4_allCharge_16 rfl rfl ?_
      refine lc_iconst C (pc' := 18) (v := (1 : Int32)) dX4_allCharge_17 (by decide) rfl ?_
      obtain ⟨r18, h18, h⟩ := lc_bde h
      refine lc_cvi C (pc' := 21) (r := r18) (M' := (va_up M 22 s)) (As := [.int x2, .int (1 : Int32)]) (rest := [.int x1]) (c_X4_of S X.2.1 M   x2 (1 : Int32) s r18 h18) kl_RX4_43 (lc_at197 S _) rfl rfl rfl rfl (Nat.le_of_ble_eq_true rfl) ⟨Nat.le_of_ble_eq_true rfl, Nat.le_of_ble_eq_true rfl⟩ ⟨rfl, rfl⟩ (lc_z2 _ _) dX4_allCharge_18 rfl ?_
      refine lc_iadd C (pc' := 22) dX4_allCharge_21 rfl ?_
      obtain ⟨x1_22, e1_22, h⟩ := lc_let2 h
      rw [e1_22]
      refine lc_istore_n C (pc' := 23) (lo' := [(1, .int x1_22), (0, .ref (lc_ad S 197)), (2, .int x2)]) dX4_allCharge_22 (Nat.le_of_ble_eq_true rfl) rfl rfl ?_
      obtain ⟨x2_23, e2_23, h⟩ := lc_let2 h
      refine lc_iinc C (pc' := 26) (lo' := [(2, .int x2_23), (1, .int x1_22), (0, .ref (lc_ad S 197))]) (q := 2) dX4_allCharge_23 rfl (by rw [← e2_23]; rfl) (Nat.le_of_ble_eq_true rfl) rfl rfl ?_
      refine lc_goto C (tgt := 4) dX4_allCharge_26 (by decide) ?_
      refine lc_sub (lo' := [(0, .ref (lc_ad S 197)), (1, .int x1_22), (2, .int x2_23)]) [2, 1, 0] rfl ?_
      exact ih x1_22 x2_23 s h
def P_X4_allCharge   (s : lc_St) : Option (Int32) :=
  P_X4_allCharge_4  lc_FU (0 : Int32) (0 : Int32) s
set_option maxRecDepth 100000 in
set_option maxHeartbeats 4000000 in
theorem c_X4_allCharge (S : lc_Se) (l : Launch) (M : lc_MM)   (s : lc_St) (out : Int32) (h : P_X4_allCharge  s = some out) : lc_MI S l yX4_allCharge cX4_allCharge 3 (some .int) rm_X4_allCharge [.ref (lc_ad S 197)] (va_up M 22 s) out (va_up M 22 s) := by
  refine lc_mkI (own := RX4) pn_RX4 rfl (Nat.le_of_ble_eq_true rfl) (lo := [(0, .ref (lc_ad S 197))]) rfl (fun X hX C => ?_)
  rw [P_X4_allCharge] at h
  refine lc_iconst C (pc' := 1) (v := (0 : Int32)) dX4_allCharge_0 (by decide) rfl ?_
  refine lc_istore_n C (pc' := 2) (lo' := [(1, .int (0 : Int32)), (0, .ref (lc_ad S 197))]) dX4_allCharge_1 (Nat.le_of_ble_eq_true rfl) rfl rfl ?_
  refine lc_iconst C (pc' := 3) (v := (0 : Int32)) dX4_allCharge_2 (by decide) rfl ?_
  refine lc_istore_n C (pc' := 4) (lo' := [(2, .int (0 : Int32)), (1, .int (0 : Int32)), (0, .ref (lc_ad S 197))]) dX4_allCharge_3 (Nat.le_of_ble_eq_true rfl) rfl rfl ?_
  refine lc_sub (lo' := [(0, .ref (lc_ad S 197)), (1, .int (0 : Int32)), (2, .int (0 : Int32))]) [2, 1, 0] rfl ?_
  exact w_X4_allCharge_4 C   out  lc_FU (0 : Int32) (0 : Int32) s h
abbrev rm_X4_append : Room := { frames := 1, cells := 0, slots := 0, locals := 22 }
def P_X4_append_30  (x1 : Int32) (t1 : Int32) (s : lc_St) : Option (Int32 × lc_St) :=
  lc_let (lc_ss s 0 0 t1) (fun s1 => if (s1 0 0) ≤ 0 then lc_if (lc_ok (s1 0 2) 120) (lc_let (lc_ss s1 6 ((s1 0 2).toNatClampNeg) x1) (fun s2 => lc_let (lc_ss s2 0 2 ((s2 0 2) + (1 : Int32))) (fun s3 => some ((s3 0 2), s3)))) else some ((0 : Int32), s1))
set_option maxRecDepth 100000 in
set_option maxHeartbeats 4000000 in
theorem w_X4_append_30 {S : lc_Se} {X : lc_X} (C : lc_C X cX4_append RX4 2 (some .int) rm_X4_append) {M : lc_MM}  (out : Int32 × lc_St)  : ∀ (x1 : Int32) (t1 : Int32) (s : lc_St), P_X4_append_30  x1 t1 s = some out → lc_J S X 2 0 0 (lc_QI S X 0 0 out.1 (va_up M 22 out.2)) 30 [(0, .ref (lc_ad S 197)), (1, .int x1)] [.int t1, .ref (lc_ad S 197)] (va_up M 22 s) := by
  intro x1 t1 s h
  rw [P_X4_append_30] at h
  obtain ⟨s1, es1, h⟩ := lc_let2 h
  refine lc_p197_thrown C (pc' := 33) (M' := (va_up M 22 s1)) (va_up_self _ _ _) es1 (lc_up_up _ _ _ _) dX4_append_30 kf_RX4_35 rfl ?_
  refine lc_aload_n C (pc' := 34) 0 dX4_append_33 rfl rfl ?_
  refine lc_g197_thrown C (pc' := 37) (va_up_self _ _ _) dX4_append_34 kf_RX4_35 rfl ?_
  refine lc_if_le C (pc' := 40) (tgt := 42) dX4_append_37 (by decide) rfl (fun c37 => ?_) (fun c37 => ?_)
  · have h := (lc_if2 h).1 c37
    refine lc_aload_n C (pc' := 43) 0 dX4_append_42 rfl rfl ?_
    refine lc_g197_text C (pc' := 46) (va_up_self _ _ _) dX4_append_43 kf_RX4_26 rfl ?_
    refine lc_aload_n C (pc' := 47) 0 dX4_append_46 rfl rfl ?_
    refine lc_g197_typed C (pc' := 50) (va_up_self _ _ _) dX4_append_47 kf_RX4_112 rfl ?_
    refine lc_iload_n C (pc' := 51) 1 dX4_append_50 rfl rfl ?_
    obtain ⟨hi51, h⟩ := lc_ife h
    obtain ⟨s2, es2, h⟩ := lc_let2 h
    refine lc_sd203 C (pc' := 52) (jj := (s1 0 2).toNatClampNeg) (M' := (va_up M 22 s2)) (va_up_self _ _ _) hi51 rfl es2 (lc_up_up _ _ _ _) dX4_append_51 rfl ?_
    refine lc_aload_n C (pc' := 53) 0 dX4_append_52 rfl rfl ?_
    refine lc_dup C (pc' := 54) dX4_append_53 rfl rfl ?_
    refine lc_g197_typed C (pc' := 57) (va_up_self _ _ _) dX4_append_54 kf_RX4_112 rfl ?_
    refine lc_iconst C (pc' := 58) (v := (1 : Int32)) dX4_append_57 (by decide) rfl ?_
    refine lc_iadd C (pc' := 59) dX4_append_58 rfl ?_
    obtain ⟨s3, es3, h⟩ := lc_let2 h
    refine lc_p197_typed C (pc' := 62) (M' := (va_up M 22 s3)) (va_up_self _ _ _) es3 (lc_up_up _ _ _ _) dX4_append_59 kf_RX4_112 rfl ?_
    refine lc_aload_n C (pc' := 63) 0 dX4_append_62 rfl rfl ?_
    refine lc_g197_typed C (pc' := 66) (va_up_self _ _ _) dX4_append_63 kf_RX4_112 rfl ?_
    obtain rfl := Option.some.inj h
    exact lc_iret C rfl dX4_append_66
  · have h := (lc_if2 h).2 c37
    refine lc_iconst C (pc' := 41) (v := (0 : Int32)) dX4_append_40 (by decide) rfl ?_
    obtain rfl := Option.some.inj h
    exact lc_iret C rfl dX4_append_41
def P_X4_append  (x1 : Int32) (s : lc_St) : Option (Int32 × lc_St) :=
  lc_bd (P_X4_in x1 (0 : Int32) (255 : Int32)) (fun r6 => if r6 = 0 then P_X4_append_30   x1 (1 : Int32) s else if (s 0 2) = (120 : Int32) then P_X4_append_30   x1 (2 : Int32) s else P_X4_append_30   x1 (0 : Int32) s)
set_option maxRecDepth 100000 in
set_option maxHeartbeats 4000000 in
theorem c_X4_append (S : lc_Se) (l : Launch) (M : lc_MM)  (x1 : Int32) (s : lc_St) (out : Int32 × lc_St) (h : P_X4_append x1 s = some out) : lc_MI S l yX4_append cX4_append 2 (some .int) rm_X4_append [.ref (lc_ad S 197), .int x1] (va_up M 22 s) out.1 (va_up M 22 out.2) := by
  refine lc_mkI (own := RX4) pn_RX4 rfl (Nat.le_of_ble_eq_true rfl) (lo := [(0, .ref (lc_ad S 197)), (1, .int x1)]) rfl (fun X hX C => ?_)
  rw [P_X4_append] at h
  refine lc_aload_n C (pc' := 1) 0 dX4_append_0 rfl rfl ?_
  refine lc_iload_n C (pc' := 2) 1 dX4_append_1 rfl rfl ?_
  refine lc_iconst C (pc' := 3) (v := (0 : Int32)) dX4_append_2 (by decide) rfl ?_
  refine lc_sipush C (pc' := 6) (v := (255 : Int32)) dX4_append_3 (by decide) rfl ?_
  obtain ⟨r6, h6, h⟩ := lc_bde h
  refine lc_csi C (pc' := 9) (r := r6) (M' := (va_up M 22 s)) (As := [.int x1, .int (0 : Int32), .int (255 : Int32)]) (rest := [.ref (lc_ad S 197)]) (c_X4_in S X.2.1 (va_up M 22 s)   x1 (0 : Int32) (255 : Int32)  r6 h6) kl_RX4_39 rfl rfl (Nat.le_of_ble_eq_true rfl) ⟨Nat.le_of_ble_eq_true rfl, Nat.le_of_ble_eq_true rfl⟩ ⟨rfl, rfl⟩ (lc_z2 _ _) dX4_append_6 rfl ?_
  refine lc_if_ne C (pc' := 12) (tgt := 16) dX4_append_9 (by decide) rfl (fun c9 => ?_) (fun c9 => ?_)
  · have h := (lc_if2 h).2 c9
    refine lc_aload_n C (pc' := 17) 0 dX4_append_16 rfl rfl ?_
    refine lc_g197_typed C (pc' := 20) (va_up_self _ _ _) dX4_append_17 kf_RX4_112 rfl ?_
    refine lc_bipush C (pc' := 22) (v := (120 : Int32)) dX4_append_20 (by decide) rfl ?_
    refine lc_icmp_ne C (pc' := 25) (tgt := 29) dX4_append_22 (by decide) rfl (fun c22 => ?_) (fun c22 => ?_)
    · have h := (lc_if2 h).2 c22
      refine lc_iconst C (pc' := 30) (v := (0 : Int32)) dX4_append_29 (by decide) rfl ?_
      exact w_X4_append_30 C   out   x1 (0 : Int32) s h
    · have h := (lc_if2 h).1 c22
      refine lc_iconst C (pc' := 26) (v := (2 : Int32)) dX4_append_25 (by decide) rfl ?_
      refine lc_goto C (tgt := 30) dX4_append_26 (by decide) ?_
      exact w_X4_append_30 C   out   x1 (2 : Int32) s h
  · have h := (lc_if2 h).1 c9
    refine lc_iconst C (pc' := 13) (v := (1 : Int32)) dX4_append_12 (by decide) rfl ?_
    refine lc_goto C (tgt := 30) dX4_append_13 (by decide) ?_
    exact w_X4_append_30 C   out   x1 (1 : Int32) s h
abbrev rm_X4_clearText : Room := { frames := 0, cells := 0, slots := 0, locals := 0 }
def P_X4_clearText   (s : lc_St) : Option (Int32 × lc_St) :=
  lc_let (lc_ss s 0 0 (0 : Int32)) (fun s1 => lc_let (s1 0 2) (fun x1_9 => lc_let (lc_ss s1 0 2 (0 : Int32)) (fun s2 => some (x1_9, s2))))
set_option maxRecDepth 100000 in
set_option maxHeartbeats 4000000 in
theorem c_X4_clearText (S : lc_Se) (l : Launch) (M : lc_MM)   (s : lc_St) (out : Int32 × lc_St) (h : P_X4_clearText  s = some out) : lc_MI S l yX4_clearText cX4_clearText 2 (some .int) rm_X4_clearText [.ref (lc_ad S 197)] (va_up M 22 s) out.1 (va_up M 22 out.2) := by
  refine lc_mkI (own := RX4) pn_RX4 rfl (Nat.le_of_ble_eq_true rfl) (lo := [(0, .ref (lc_ad S 197))]) rfl (fun X hX C => ?_)
  rw [P_X4_clearText] at h
  refine lc_aload_n C (pc' := 1) 0 dX4_clearText_0 rfl rfl ?_
  refine lc_iconst C (pc' := 2) (v := (0 : Int32)) dX4_clearText_1 (by decide) rfl ?_
  obtain ⟨s1, es1, h⟩ := lc_let2 h
  refine lc_p197_thrown C (pc' := 5) (M' := (va_up M 22 s1)) (va_up_self _ _ _) es1 (lc_up_up _ _ _ _) dX4_clearText_2 kf_RX4_35 rfl ?_
  refine lc_aload_n C (pc' := 6) 0 dX4_clearText_5 rfl rfl ?_
  refine lc_g197_typed C (pc' := 9) (va_up_self _ _ _) dX4_clearText_6 kf_RX4_112 rfl ?_
  obtain ⟨x1_9, e1_9, h⟩ := lc_let2 h
  rw [e1_9]
  refine lc_istore_n C (pc' := 10) (lo' := [(1, .int x1_9), (0, .ref (lc_ad S 197))]) dX4_clearText_9 (Nat.le_of_ble_eq_true rfl) rfl rfl ?_
  refine lc_aload_n C (pc' := 11) 1 dX4_clearText_10 rfl rfl ?_
  refine lc_iconst C (pc' := 12) (v := (0 : Int32)) dX4_clearText_11 (by decide) rfl ?_
  obtain ⟨s2, es2, h⟩ := lc_let2 h
  refine lc_p197_typed C (pc' := 15) (M' := (va_up M 22 s2)) (va_up_self _ _ _) es2 (lc_up_up _ _ _ _) dX4_clearText_12 kf_RX4_112 rfl ?_
  refine lc_iload_n C (pc' := 16) 0 dX4_clearText_15 rfl rfl ?_
  obtain rfl := Option.some.inj h
  exact lc_iret C rfl dX4_clearText_16
abbrev rm_X4_look : Room := { frames := 0, cells := 0, slots := 0, locals := 0 }
def P_X4_look   (s : lc_St) : Option (Int32) :=
  if (s 0 2) ≤ (s 0 5) then some (-1 : Int32) else lc_if (lc_ok (s 0 5) 120) (some (s 6 (s 0 5).toNatClampNeg))
set_option maxRecDepth 100000 in
set_option maxHeartbeats 4000000 in
theorem c_X4_look (S : lc_Se) (l : Launch) (M : lc_MM)   (s : lc_St) (out : Int32) (h : P_X4_look  s = some out) : lc_MI S l yX4_look cX4_look 1 (some .int) rm_X4_look [.ref (lc_ad S 197)] (va_up M 22 s) out (va_up M 22 s) := by
  refine lc_mkI (own := RX4) pn_RX4 rfl (Nat.le_of_ble_eq_true rfl) (lo := [(0, .ref (lc_ad S 197))]) rfl (fun X hX C => ?_)
  rw [P_X4_look] at h
  refine lc_aload_n C (pc' := 1) 0 dX4_look_0 rfl rfl ?_
  refine lc_g197_at C (pc' := 4) (va_up_self _ _ _) dX4_look_1 kf_RX4_115 rfl ?_
  refine lc_aload_n C (pc' := 5) 0 dX4_look_4 rfl rfl ?_
  refine lc_g197_typed C (pc' := 8) (va_up_self _ _ _) dX4_look_5 kf_RX4_112 rfl ?_
  refine lc_icmp_ge C (pc' := 11) (tgt := 23) dX4_look_8 (by decide) rfl (fun c8 => ?_) (fun c8 => ?_)
  · have h := (lc_if2 h).1 c8
    refine lc_iconst C (pc' := 24) (v := (-1 : Int32)) dX4_look_23 (by decide) rfl ?_
    obtain rfl := Option.some.inj h
    exact lc_iret C rfl dX4_look_24
  · have h := (lc_if2 h).2 c8
    refine lc_aload_n C (pc' := 12) 0 dX4_look_11 rfl rfl ?_
    refine lc_g197_text C (pc' := 15) (va_up_self _ _ _) dX4_look_12 kf_RX4_26 rfl ?_
    refine lc_aload_n C (pc' := 16) 0 dX4_look_15 rfl rfl ?_
    refine lc_g197_at C (pc' := 19) (va_up_self _ _ _) dX4_look_16 kf_RX4_115 rfl ?_
    obtain ⟨hi19, h⟩ := lc_ife h
    refine lc_ld203 C (pc' := 20) (jj := (s 0 5).toNatClampNeg) (va_up_self _ _ _) hi19 rfl dX4_look_19 rfl ?_
    refine lc_goto C (tgt := 24) dX4_look_20 (by decide) ?_
    obtain rfl := Option.some.inj h
    exact lc_iret C rfl dX4_look_24
abbrev rm_X4_must : Room := { frames := 0, cells := 0, slots := 0, locals := 0 }
def P_X4_must_37  (t1 : Int32) (t2 : Int32) (s : lc_St) : Option (lc_St) :=
  lc_let (lc_ss s 0 5 (t1 + t2)) (fun s2 => some s2)
set_option maxRecDepth 100000 in
set_option maxHeartbeats 4000000 in
theorem w_X4_must_37 {S : lc_Se} {X : lc_X} (C : lc_C X cX4_must RX4 2 none rm_X4_must) {M : lc_MM}  (out : lc_St)  : ∀ (t1 : Int32) (t2 : Int32) (s : lc_St), P_X4_must_37  t1 t2 s = some out → lc_J S X 2 0 0 (lc_QV S X 0 0 (va_up M 22 out)) 37 [] [.int t2, .int t1, .ref (lc_ad S 197)] (va_up M 22 s) := by
  intro t1 t2 s h
  rw [P_X4_must_37] at h
  refine lc_iadd C (pc' := 38) dX4_must_37 rfl ?_
  obtain ⟨s2, es2, h⟩ := lc_let2 h
  refine lc_p197_at C (pc' := 41) (M' := (va_up M 22 s2)) (va_up_self _ _ _) es2 (lc_up_up _ _ _ _) dX4_must_38 kf_RX4_115 rfl ?_
  obtain rfl := Option.some.inj h
  exact lc_vret C rfl dX4_must_41
def P_X4_must_17  (t1 : Int32) (s : lc_St) : Option (lc_St) :=
  lc_if (t1 = 0 ∨ t1 = 1) (lc_let (lc_ss s 0 6 t1) (fun s1 => if (s1 0 6) = 0 then P_X4_must_37   (s1 0 5) (1 : Int32) s1 else P_X4_must_37   (s1 0 5) (0 : Int32) s1))
set_option maxRecDepth 100000 in
set_option maxHeartbeats 4000000 in
theorem w_X4_must_17 {S : lc_Se} {X : lc_X} (C : lc_C X cX4_must RX4 2 none rm_X4_must) {M : lc_MM}  (out : lc_St)  : ∀ (t1 : Int32) (s : lc_St), P_X4_must_17  t1 s = some out → lc_J S X 2 0 0 (lc_QV S X 0 0 (va_up M 22 out)) 17 [(0, .ref (lc_ad S 197))] [.int t1, .ref (lc_ad S 197)] (va_up M 22 s) := by
  intro t1 s h
  rw [P_X4_must_17] at h
  obtain ⟨hb17, h⟩ := lc_ife h
  obtain ⟨s1, es1, h⟩ := lc_let2 h
  refine lc_p197_isStuck C (pc' := 20) (M' := (va_up M 22 s1)) (va_up_self _ _ _) es1 (lc_up_up _ _ _ _) hb17 dX4_must_17 kf_RX4_118 rfl ?_
  refine lc_aload_n C (pc' := 21) 0 dX4_must_20 rfl rfl ?_
  refine lc_dup C (pc' := 22) dX4_must_21 rfl rfl ?_
  refine lc_g197_at C (pc' := 25) (va_up_self _ _ _) dX4_must_22 kf_RX4_115 rfl ?_
  refine lc_aload_n C (pc' := 26) 0 dX4_must_25 rfl rfl ?_
  refine lc_g197_isStuck C (pc' := 29) (va_up_self _ _ _) dX4_must_26 kf_RX4_118 rfl ?_
  refine lc_if_eq C (pc' := 32) (tgt := 36) dX4_must_29 (by decide) rfl (fun c29 => ?_) (fun c29 => ?_)
  · have h := (lc_if2 h).1 c29
    refine lc_iconst C (pc' := 37) (v := (1 : Int32)) dX4_must_36 (by decide) rfl ?_
    refine lc_sub (lo' := []) [] rfl ?_
    exact w_X4_must_37 C   out   (s1 0 5) (1 : Int32) s1 h
  · have h := (lc_if2 h).2 c29
    refine lc_iconst C (pc' := 33) (v := (0 : Int32)) dX4_must_32 (by decide) rfl ?_
    refine lc_goto C (tgt := 37) dX4_must_33 (by decide) ?_
    refine lc_sub (lo' := []) [] rfl ?_
    exact w_X4_must_37 C   out   (s1 0 5) (0 : Int32) s1 h
def P_X4_must_12  (s : lc_St) : Option (lc_St) :=
  P_X4_must_17   (1 : Int32) s
set_option maxRecDepth 100000 in
set_option maxHeartbeats 4000000 in
theorem w_X4_must_12 {S : lc_Se} {X : lc_X} (C : lc_C X cX4_must RX4 2 none rm_X4_must) {M : lc_MM}  (out : lc_St)  : ∀ (s : lc_St), P_X4_must_12  s = some out → lc_J S X 2 0 0 (lc_QV S X 0 0 (va_up M 22 out)) 12 [(0, .ref (lc_ad S 197))] [.ref (lc_ad S 197)] (va_up M 22 s) := by
  intro s h
  rw [P_X4_must_12] at h
  refine lc_iconst C (pc' := 13) (v := (1 : Int32)) dX4_must_12 (by decide) rfl ?_
  refine lc_goto C (tgt := 17) dX4_must_13 (by decide) ?_
  exact w_X4_must_17 C   out   (1 : Int32) s h
def P_X4_must  (x1 : Int32) (s : lc_St) : Option (lc_St) :=
  if (s 0 6) = 0 then if x1 = 0 then P_X4_must_12   s else P_X4_must_17   (0 : Int32) s else P_X4_must_12   s
set_option maxRecDepth 100000 in
set_option maxHeartbeats 4000000 in
theorem c_X4_must (S : lc_Se) (l : Launch) (M : lc_MM)  (x1 : Int32) (s : lc_St) (out : lc_St) (h : P_X4_must x1 s = some out) : lc_MV S l yX4_must cX4_must 2 none rm_X4_must [.ref (lc_ad S 197), .int x1] (va_up M 22 s)  (va_up M 22 out) := by
  refine lc_mkV (own := RX4) pn_RX4 rfl (Nat.le_of_ble_eq_true rfl) (lo := [(0, .ref (lc_ad S 197)), (1, .int x1)]) rfl (fun X hX C => ?_)
  rw [P_X4_must] at h
  refine lc_aload_n C (pc' := 1) 0 dX4_must_0 rfl rfl ?_
  refine lc_aload_n C (pc' := 2) 0 dX4_must_1 rfl rfl ?_
  refine lc_g197_isStuck C (pc' := 5) (va_up_self _ _ _) dX4_must_2 kf_RX4_118 rfl ?_
  refine lc_if_ne C (pc' := 8) (tgt := 12) dX4_must_5 (by decide) rfl (fun c5 => ?_) (fun c5 => ?_)
  · have h := (lc_if2 h).2 c5
    refine lc_sub (lo' := [(0, .ref (lc_ad S 197))]) [0] rfl ?_
    exact w_X4_must_12 C   out   s h
  · have h := (lc_if2 h).1 c5
    refine lc_iload_n C (pc' := 9) 1 dX4_must_8 rfl rfl ?_
    refine lc_if_ne C (pc' := 12) (tgt := 16) dX4_must_9 (by decide) rfl (fun c9 => ?_) (fun c9 => ?_)
    · have h := (lc_if2 h).2 c9
      refine lc_iconst C (pc' := 17) (v := (0 : Int32)) dX4_must_16 (by decide) rfl ?_
      refine lc_sub (lo' := [(0, .ref (lc_ad S 197))]) [0] rfl ?_
      exact w_X4_must_17 C   out   (0 : Int32) s h
    · have h := (lc_if2 h).1 c9
      refine lc_sub (lo' := [(0, .ref (lc_ad S 197))]) [0] rfl ?_
      exact w_X4_must_12 C   out   s h
abbrev rm_X4_number : Room := { frames := 1, cells := 0, slots := 0, locals := 22 }
def P_X4_number_109 (K16 : Int32 → Int32 → Int32 → Int32 → lc_St → Option (Int32 × lc_St)) (x2 : Int32) (x3 : Int32) (x5 : Int32) (t0 : Int32) (s : lc_St) : Option (Int32 × lc_St) :=
  lc_let (x5 / (10 : Int32)) (fun x5_116 => K16 x2 x3 t0 x5_116 s)
set_option maxRecDepth 100000 in
set_option maxHeartbeats 4000000 in
theorem w_X4_number_109 {S : lc_Se} {X : lc_X} (C : lc_C X cX4_number RX4 9 (some .int) rm_X4_number) {M : lc_MM}  (out : Int32 × lc_St) (K16 : Int32 → Int32 → Int32 → Int32 → lc_St → Option (Int32 × lc_St)) (hK16 : ∀ (x2 : Int32) (x3 : Int32) (x4 : Int32) (x5 : Int32) (s : lc_St), K16 x2 x3 x4 x5 s = some out → lc_J S X 9 0 0 (lc_QI S X 0 0 out.1 (va_up M 22 out.2)) 16 [(0, .ref (lc_ad S 197)), (2, .int x2), (3, .int x3), (4, .int x4), (5, .int x5)] [] (va_up M 22 s)) : ∀ (x2 : Int32) (x3 : Int32) (x5 : Int32) (t0 : Int32) (s : lc_St), P_X4_number_109 K16 x2 x3 x5 t0 s = some out → lc_J S X 9 0 0 (lc_QI S X 0 0 out.1 (va_up M 22 out.2)) 109 [(0, .ref (lc_ad S 197)), (2, .int x2), (3, .int x3), (5, .int x5)] [.int t0] (va_up M 22 s) := by
  intro x2 x3 x5 t0 s h
  rw [P_X4_number_109] at h
  refine lc_istore C (pc' := 111) (lo' := [(4, .int t0), (0, .ref (lc_ad S 197)), (2, .int x2), (3, .int x3), (5, .int x5)]) dX4_number_109 (Nat.le_of_ble_eq_true rfl) rfl rfl ?_
  refine lc_iload C (pc' := 113) 4 dX4_number_111 rfl rfl ?_
  refine lc_bipush C (pc' := 115) (v := (10 : Int32)) dX4_number_113 (by decide) rfl ?_
  refine lc_idiv C (pc' := 116) dX4_number_115 (by decide) rfl ?_
  obtain ⟨x5_116, e5_116, h⟩ := lc_let2 h
  rw [e5_116]
  refine lc_istore C (pc' := 118) (lo' := [(5, .int x5_116), (4, .int t0), (0, .ref (lc_ad S 197)), (2, .int x2), (3, .int x3)]) dX4_number_116 (Nat.le_of_ble_eq_true rfl) rfl rfl ?_
  refine lc_goto C (tgt := 16) dX4_number_118 (by decide) ?_
  refine lc_sub (lo' := [(0, .ref (lc_ad S 197)), (2, .int x2), (3, .int x3), (4, .int t0), (5, .int x5_116)]) [2, 3, 4, 1, 0] rfl ?_
  exact hK16 x2 x3 t0 x5_116 s h
def P_X4_number_83 (K16 : Int32 → Int32 → Int32 → Int32 → lc_St → Option (Int32 × lc_St)) (x2 : Int32) (x3 : Int32) (x4 : Int32) (x5 : Int32) (x6 : Int32) (t0 : Int32) (s : lc_St) : Option (Int32 × lc_St) :=
  lc_bd (P_X4_must t0 s) (fun s1 => if t0 = 0 then P_X4_number_109 K16  x2 x3 x5 x4 s1 else P_X4_number_109 K16  x2 x3 x5 (((10 : Int32) * x4) + x6) s1)
set_option maxRecDepth 100000 in
set_option maxHeartbeats 4000000 in
theorem w_X4_number_83 {S : lc_Se} {X : lc_X} (C : lc_C X cX4_number RX4 9 (some .int) rm_X4_number) {M : lc_MM}  (out : Int32 × lc_St) (K16 : Int32 → Int32 → Int32 → Int32 → lc_St → Option (Int32 × lc_St)) (hK16 : ∀ (x2 : Int32) (x3 : Int32) (x4 : Int32) (x5 : Int32) (s : lc_St), K16 x2 x3 x4 x5 s = some out → lc_J S X 9 0 0 (lc_QI S X 0 0 out.1 (va_up M 22 out.2)) 16 [(0, .ref (lc_ad S 197)), (2, .int x2), (3, .int x3), (4, .int x4), (5, .int x5)] [] (va_up M 22 s)) : ∀ (x2 : Int32) (x3 : Int32) (x4 : Int32) (x5 : Int32) (x6 : Int32) (t0 : Int32) (s : lc_St), P_X4_number_83 K16 x2 x3 x4 x5 x6 t0 s = some out → lc_J S X 9 0 0 (lc_QI S X 0 0 out.1 (va_up M 22 out.2)) 83 [(0, .ref (lc_ad S 197)), (2, .int x2), (3, .int x3), (4, .int x4), (5, .int x5), (6, .int x6)] [.int t0] (va_up M 22 s) := by
  intro x2 x3 x4 x5 x6 t0 s h
  rw [P_X4_number_83] at h
  refine lc_istore C (pc' := 85) (lo' := [(8, .int t0), (0, .ref (lc_ad S 197)), (2, .int x2), (3, .int x3), (4, .int x4), (5, .int x5), (6, .int x6)]) dX4_number_83 (Nat.le_of_ble_eq_true rfl) rfl rfl ?_
  refine lc_aload_n C (pc' := 86) 1 dX4_number_85 rfl rfl ?_
  refine lc_iload C (pc' := 88) 0 dX4_number_86 rfl rfl ?_
  obtain ⟨s1, h88, h⟩ := lc_bde h
  refine lc_cvv C (pc' := 91) (M' := (va_up M 22 s1)) (As := [.int t0]) (rest := []) (c_X4_must S X.2.1 M   t0 s s1 h88) kl_RX4_125 (lc_at197 S _) rfl rfl rfl rfl (Nat.le_of_ble_eq_true rfl) ⟨Nat.le_of_ble_eq_true rfl, Nat.le_of_ble_eq_true rfl⟩ ⟨rfl, rfl⟩ (lc_z2 _ _) dX4_number_88 rfl ?_
  refine lc_iload C (pc' := 93) 0 dX4_number_91 rfl rfl ?_
  refine lc_if_eq C (pc' := 96) (tgt := 107) dX4_number_93 (by decide) rfl (fun c93 => ?_) (fun c93 => ?_)
  · have h := (lc_if2 h).1 c93
    refine lc_iload C (pc' := 109) 4 dX4_number_107 rfl rfl ?_
    refine lc_sub (lo' := [(0, .ref (lc_ad S 197)), (2, .int x2), (3, .int x3), (5, .int x5)]) [1, 2, 3, 5] rfl ?_
    exact w_X4_number_109 C   out K16 hK16  x2 x3 x5 x4 s1 h
  · have h := (lc_if2 h).2 c93
    refine lc_bipush C (pc' := 98) (v := (10 : Int32)) dX4_number_96 (by decide) rfl ?_
    refine lc_iload C (pc' := 100) 4 dX4_number_98 rfl rfl ?_
    refine lc_imul C (pc' := 101) dX4_number_100 rfl ?_
    refine lc_iload C (pc' := 103) 6 dX4_number_101 rfl rfl ?_
    refine lc_iadd C (pc' := 104) dX4_number_103 rfl ?_
    refine lc_goto C (tgt := 109) dX4_number_104 (by decide) ?_
    refine lc_sub (lo' := [(0, .ref (lc_ad S 197)), (2, .int x2), (3, .int x3), (5, .int x5)]) [1, 2, 3, 5] rfl ?_
    exact w_X4_number_109 C   out K16 hK16  x2 x3 x5 (((10 : Int32) * x4) + x6) s1 h
def P_X4_number_82 (K16 : Int32 → Int32 → Int32 → Int32 → lc_St → Option (Int32 × lc_St)) (x2 : Int32) (x3 : Int32) (x4 : Int32) (x5 : Int32) (x6 : Int32) (s : lc_St) : Option (Int32 × lc_St) :=
  P_X4_number_83 K16  x2 x3 x4 x5 x6 (0 : Int32) s
set_option maxRecDepth 100000 in
set_option maxHeartbeats 4000000 in
theorem w_X4_number_82 {S : lc_Se} {X : lc_X} (C : lc_C X cX4_number RX4 9 (some .int) rm_X4_number) {M : lc_MM}  (out : Int32 × lc_St) (K16 : Int32 → Int32 → Int32 → Int32 → lc_St → Option (Int32 × lc_St)) (hK16 : ∀ (x2 : Int32) (x3 : Int32) (x4 : Int32) (x5 : Int32) (s : lc_St), K16 x2 x3 x4 x5 s = some out → lc_J S X 9 0 0 (lc_QI S X 0 0 out.1 (va_up M 22 out.2)) 16 [(0, .ref (lc_ad S 197)), (2, .int x2), (3, .int x3), (4, .int x4), (5, .int x5)] [] (va_up M 22 s)) : ∀ (x2 : Int32) (x3 : Int32) (x4 : Int32) (x5 : Int32) (x6 : Int32) (s : lc_St), P_X4_number_82 K16 x2 x3 x4 x5 x6 s = some out → lc_J S X 9 0 0 (lc_QI S X 0 0 out.1 (va_up M 22 out.2)) 82 [(0, .ref (lc_ad S 197)), (2, .int x2), (3, .int x3), (4, .int x4), (5, .int x5), (6, .int x6)] [] (va_up M 22 s) := by
  intro x2 x3 x4 x5 x6 s h
  rw [P_X4_number_82] at h
  refine lc_iconst C (pc' := 83) (v := (0 : Int32)) dX4_number_82 (by decide) rfl ?_
  exact w_X4_number_83 C   out K16 hK16  x2 x3 x4 x5 x6 (0 : Int32) s h
def P_X4_number_16  : Nat → Int32 → Int32 → Int32 → Int32 → lc_St → Option (Int32 × lc_St)
  | 0, _, _, _, _, _ => none
  | n + 1, x2, x3, x4, x5, s =>
    if x5 ≤ 0 then some (x4, s) else if (s 0 6) = 0 then lc_bd (P_X4_look  s) (fun r29 => lc_let (r29 - (48 : Int32)) (fun x6_35 => lc_let ((((10 : Int32) * x4) + x6_35) * x5) (fun x7_48 => lc_bd (P_X4_in x6_35 (0 : Int32) (9 : Int32)) (fun r55 => if r55 = 0 then P_X4_number_82 (fun x2 x3 x4 x5 s => P_X4_number_16  n x2 x3 x4 x5 s)  x2 x3 x4 x5 x6_35 s else if x3 < x7_48 then P_X4_number_82 (fun x2 x3 x4 x5 s => P_X4_number_16  n x2 x3 x4 x5 s)  x2 x3 x4 x5 x6_35 s else if ((x7_48 + x5) - (1 : Int32)) < x2 then P_X4_number_82 (fun x2 x3 x4 x5 s => P_X4_number_16  n x2 x3 x4 x5 s)  x2 x3 x4 x5 x6_35 s else P_X4_number_83 (fun x2 x3 x4 x5 s => P_X4_number_16  n x2 x3 x4 x5 s)  x2 x3 x4 x5 x6_35 (1 : Int32) s)))) else some (x4, s)
set_option maxRecDepth 100000 in
set_option maxHeartbeats 4000000 in
theorem w_X4_number_16 {S : lc_Se} {X : lc_X} (C : lc_C X cX4_number RX4 9 (some .int) rm_X4_number) {M : lc_MM}  (out : Int32 × lc_St)  : ∀ (n : Nat) (x2 : Int32) (x3 : Int32) (x4 : Int32) (x5 : Int32) (s : lc_St), P_X4_number_16  n x2 x3 x4 x5 s = some out → lc_J S X 9 0 0 (lc_QI S X 0 0 out.1 (va_up M 22 out.2)) 16 [(0, .ref (lc_ad S 197)), (2, .int x2), (3, .int x3), (4, .int x4), (5, .int x5)] [] (va_up M 22 s) := by
  intro n
  induction n with
  | zero =>
    intro x2 x3 x4 x5 s h
    rw [P_X4_number_16] at h
    cases h
  | succ n ih =>
    intro x2 x3 x4 x5 s h
    rw [P_X4_number_16] at h
    refine lc_iload C (pc' := 18) 4 dX4_number_16 rfl rfl ?_
    refine lc_if_le C (pc' := 21) (tgt := 121) dX4_number_18 (by decide) rfl (fun c18 => ?_) (fun c18 => ?_)
    · have h := (lc_if2 h).1 c18
      refine lc_iload C (pc' := 123) 3 dX4_number_121 rfl rfl ?_
      obtain rfl := Option.some.inj h
      exact lc_iret C rfl dX4_number_123
    · have h := (lc_if2 h).2 c18
      refine lc_aload_n C (pc' := 22) 0 dX4_number_21 rfl rfl ?_
      refine lc_g197_isStuck C (pc' := 25) (va_up_self _ _ _) dX4_number_22 kf_RX4_118 rfl ?_
      refine lc_if_ne C (pc' := 28) (tgt := 121) dX4_number_25 (by decide) rfl (fun c25 => ?_) (fun c25 => ?_)
      · have h := (lc_if2 h).2 c25
        refine lc_iload C (pc' := 123) 3 dX4_number_121 rfl rfl ?_
        obtain rfl := Option.some.inj h
        exact lc_iret C rfl dX4_number_123
      · have h := (lc_if2 h).1 c25
        refine lc_aload_n C (pc' := 29) 0 dX4_number_28 rfl rfl ?_
        obtain ⟨r29, h29, h⟩ := lc_bde h
        refine lc_cvi C (pc' := 32) (r := r29) (M' := (va_up M 22 s)) (As := []) (rest := []) (c_X4_look S X.2.1 M    s r29 h29) kl_RX4_122 (lc_at197 S _) rfl rfl rfl rfl (Nat.le_of_ble_eq_true rfl) ⟨Nat.le_of_ble_eq_true rfl, Nat.le_of_ble_eq_true rfl⟩ ⟨rfl, rfl⟩ (lc_z2 _ _) dX4_number_29 rfl ?_
        refine lc_bipush C (pc' := 34) (v := (48 : Int32)) dX4_number_32 (by decide) rfl ?_
        refine lc_isub C (pc' := 35) dX4_number_34 rfl ?_
        obtain ⟨x6_35, e6_35, h⟩ := lc_let2 h
        rw [e6_35]
        refine lc_istore C (pc' := 37) (lo' := [(6, .int x6_35), (0, .ref (lc_ad S 197)), (2, .int x2), (3, .int x3), (4, .int x4), (5, .int x5)]) dX4_number_35 (Nat.le_of_ble_eq_true rfl) rfl rfl ?_
        refine lc_bipush C (pc' := 39) (v := (10 : Int32)) dX4_number_37 (by decide) rfl ?_
        refine lc_iload C (pc' := 41) 4 dX4_number_39 rfl rfl ?_
        refine lc_imul C (pc' := 42) dX4_number_41 rfl ?_
        refine lc_iload C (pc' := 44) 0 dX4_number_42 rfl rfl ?_
        refine lc_iadd C (pc' := 45) dX4_number_44 rfl ?_
        refine lc_iload C (pc' := 47) 5 dX4_number_45 rfl rfl ?_
        refine lc_imul C (pc' := 48) dX4_number_47 rfl ?_
        obtain ⟨x7_48, e7_48, h⟩ := lc_let2 h
        rw [e7_48]
        refine lc_istore C (pc' := 50) (lo' := [(7, .int x7_48), (6, .int x6_35), (0, .ref (lc_ad S 197)), (2, .int x2), (3, .int x3), (4, .int x4), (5, .int x5)]) dX4_number_48 (Nat.le_of_ble_eq_true rfl) rfl rfl ?_
        refine lc_iload C (pc' := 52) 1 dX4_number_50 rfl rfl ?_
        refine lc_iconst C (pc' := 53) (v := (0 : Int32)) dX4_number_52 (by decide) rfl ?_
        refine lc_bipush C (pc' := 55) (v := (9 : Int32)) dX4_number_53 (by decide) rfl ?_
        obtain ⟨r55, h55, h⟩ := lc_bde h
        refine lc_csi C (pc' := 58) (r := r55) (M' := (va_up M 22 s)) (As := [.int x6_35, .int (0 : Int32), .int (9 : Int32)]) (rest := []) (c_X4_in S X.2.1 (va_up M 22 s)   x6_35 (0 : Int32) (9 : Int32)  r55 h55) kl_RX4_39 rfl rfl (Nat.le_of_ble_eq_true rfl) ⟨Nat.le_of_ble_eq_true rfl, Nat.le_of_ble_eq_true rfl⟩ ⟨rfl, rfl⟩ (lc_z2 _ _) dX4_number_55 rfl ?_
        refine lc_if_eq C (pc' := 61) (tgt := 82) dX4_number_58 (by decide) rfl (fun c58 => ?_) (fun c58 => ?_)
        · have h := (lc_if2 h).1 c58
          refine lc_sub (lo' := [(0, .ref (lc_ad S 197)), (2, .int x2), (3, .int x3), (4, .int x4), (5, .int x5), (6, .int x6_35)]) [2, 3, 4, 5, 6, 1] rfl ?_
          exact w_X4_number_82 C   out (fun x2 x3 x4 x5 s => P_X4_number_16  n x2 x3 x4 x5 s) ih  x2 x3 x4 x5 x6_35 s h
        · have h := (lc_if2 h).2 c58
          refine lc_iload C (pc' := 63) 0 dX4_number_61 rfl rfl ?_
          refine lc_iload_n C (pc' := 64) 4 dX4_number_63 rfl rfl ?_
          refine lc_icmp_gt C (pc' := 67) (tgt := 82) dX4_number_64 (by decide) rfl (fun c64 => ?_) (fun c64 => ?_)
          · have h := (lc_if2 h).1 c64
            refine lc_sub (lo' := [(0, .ref (lc_ad S 197)), (2, .int x2), (3, .int x3), (4, .int x4), (5, .int x5), (6, .int x6_35)]) [2, 3, 4, 5, 6, 1] rfl ?_
            exact w_X4_number_82 C   out (fun x2 x3 x4 x5 s => P_X4_number_16  n x2 x3 x4 x5 s) ih  x2 x3 x4 x5 x6_35 s h
          · have h := (lc_if2 h).2 c64
            refine lc_iload C (pc' := 69) 0 dX4_number_67 rfl rfl ?_
            refine lc_iload C (pc' := 71) 6 dX4_number_69 rfl rfl ?_
            refine lc_iadd C (pc' := 72) dX4_number_71 rfl ?_
            refine lc_iconst C (pc' := 73) (v := (1 : Int32)) dX4_number_72 (by decide) rfl ?_
            refine lc_isub C (pc' := 74) dX4_number_73 rfl ?_
            refine lc_iload_n C (pc' := 75) 3 dX4_number_74 rfl rfl ?_
            refine lc_icmp_lt C (pc' := 78) (tgt := 82) dX4_number_75 (by decide) rfl (fun c75 => ?_) (fun c75 => ?_)
            · have h := (lc_if2 h).1 c75
              refine lc_sub (lo' := [(0, .ref (lc_ad S 197)), (2, .int x2), (3, .int x3), (4, .int x4), (5, .int x5), (6, .int x6_35)]) [2, 3, 4, 5, 6, 1] rfl ?_
              exact w_X4_number_82 C   out (fun x2 x3 x4 x5 s => P_X4_number_16  n x2 x3 x4 x5 s) ih  x2 x3 x4 x5 x6_35 s h
            · have h := (lc_if2 h).2 c75
              refine lc_iconst C (pc' := 79) (v := (1 : Int32)) dX4_number_78 (by decide) rfl ?_
              refine lc_goto C (tgt := 83) dX4_number_79 (by decide) ?_
              refine lc_sub (lo' := [(0, .ref (lc_ad S 197)), (2, .int x2), (3, .int x3), (4, .int x4), (5, .int x5), (6, .int x6_35)]) [2, 3, 4, 5, 6, 1] rfl ?_
              exact w_X4_number_83 C   out (fun x2 x3 x4 x5 s => P_X4_number_16  n x2 x3 x4 x5 s) ih  x2 x3 x4 x5 x6_35 (1 : Int32) s h
def P_X4_number_14  (x2 : Int32) (x3 : Int32) (x4 : Int32) (t0 : Int32) (s : lc_St) : Option (Int32 × lc_St) :=
  P_X4_number_16  lc_FU x2 x3 x4 t0 s
set_option maxRecDepth 100000 in
set_option maxHeartbeats 4000000 in
theorem w_X4_number_14 {S : lc_Se} {X : lc_X} (C : lc_C X cX4_number RX4 9 (some .int) rm_X4_number) {M : lc_MM}  (out : Int32 × lc_St)  : ∀ (x2 : Int32) (x3 : Int32) (x4 : Int32) (t0 : Int32) (s : lc_St), P_X4_number_14  x2 x3 x4 t0 s = some out → lc_J S X 9 0 0 (lc_QI S X 0 0 out.1 (va_up M 22 out.2)) 14 [(0, .ref (lc_ad S 197)), (2, .int x2), (3, .int x3), (4, .int x4)] [.int t0] (va_up M 22 s) := by
  intro x2 x3 x4 t0 s h
  rw [P_X4_number_14] at h
  refine lc_istore C (pc' := 16) (lo' := [(5, .int t0), (0, .ref (lc_ad S 197)), (2, .int x2), (3, .int x3), (4, .int x4)]) dX4_number_14 (Nat.le_of_ble_eq_true rfl) rfl rfl ?_
  refine lc_sub (lo' := [(0, .ref (lc_ad S 197)), (2, .int x2), (3, .int x3), (4, .int x4), (5, .int t0)]) [1, 2, 3, 4, 0] rfl ?_
  exact w_X4_number_16 C   out  lc_FU x2 x3 x4 t0 s h
def P_X4_number  (x1 : Int32) (x2 : Int32) (x3 : Int32) (s : lc_St) : Option (Int32 × lc_St) :=
  if x1 = (2 : Int32) then P_X4_number_14   x2 x3 (0 : Int32) (10 : Int32) s else P_X4_number_14   x2 x3 (0 : Int32) (1 : Int32) s
set_option maxRecDepth 100000 in
set_option maxHeartbeats 4000000 in
theorem c_X4_number (S : lc_Se) (l : Launch) (M : lc_MM)  (x1 : Int32) (x2 : Int32) (x3 : Int32) (s : lc_St) (out : Int32 × lc_St) (h : P_X4_number x1 x2 x3 s = some out) : lc_MI S l yX4_number cX4_number 9 (some .int) rm_X4_number [.ref (lc_ad S 197), .int x1, .int x2, .int x3] (va_up M 22 s) out.1 (va_up M 22 out.2) := by
  refine lc_mkI (own := RX4) pn_RX4 rfl (Nat.le_of_ble_eq_true rfl) (lo := [(0, .ref (lc_ad S 197)), (1, .int x1), (2, .int x2), (3, .int x3)]) rfl (fun X hX C => ?_)
  rw [P_X4_number] at h
  refine lc_iconst C (pc' := 1) (v := (0 : Int32)) dX4_number_0 (by decide) rfl ?_
  refine lc_istore C (pc' := 3) (lo' := [(4, .int (0 : Int32)), (0, .ref (lc_ad S 197)), (1, .int x1), (2, .int x2), (3, .int x3)]) dX4_number_1 (Nat.le_of_ble_eq_true rfl) rfl rfl ?_
  refine lc_iload_n C (pc' := 4) 2 dX4_number_3 rfl rfl ?_
  refine lc_iconst C (pc' := 5) (v := (2 : Int32)) dX4_number_4 (by decide) rfl ?_
  refine lc_icmp_ne C (pc' := 8) (tgt := 13) dX4_number_5 (by decide) rfl (fun c5 => ?_) (fun c5 => ?_)
  · have h := (lc_if2 h).2 c5
    refine lc_iconst C (pc' := 14) (v := (1 : Int32)) dX4_number_13 (by decide) rfl ?_
    refine lc_sub (lo' := [(0, .ref (lc_ad S 197)), (2, .int x2), (3, .int x3), (4, .int (0 : Int32))]) [1, 3, 4, 0] rfl ?_
    exact w_X4_number_14 C   out   x2 x3 (0 : Int32) (1 : Int32) s h
  · have h := (lc_if2 h).1 c5
    refine lc_bipush C (pc' := 10) (v := (10 : Int32)) dX4_number_8 (by decide) rfl ?_
    refine lc_goto C (tgt := 14) dX4_number_10 (by decide) ?_
    refine lc_sub (lo' := [(0, .ref (lc_ad S 197)), (2, .int x2), (3, .int x3), (4, .int (0 : Int32))]) [1, 3, 4, 0] rfl ?_
    exact w_X4_number_14 C   out   x2 x3 (0 : Int32) (10 : Int32) s h
abbrev rm_X4_newCell : Room := { frames := 0, cells := 0, slots := 0, locals := 0 }
def P_X4_newCell_61 (K16 : Int32 → Int32 → Int32 → Int32 → Int32 → lc_St → Option (Int32 × lc_St)) (x1 : Int32) (x2 : Int32) (x3 : Int32) (x4 : Int32) (x5 : Int32) (t1 : Int32) (t2 : Int32) (s : lc_St) : Option (Int32 × lc_St) :=
  lc_if (lc_ok t1 107) (lc_let (lc_ss s 1 (t1.toNatClampNeg) t2) (fun s3 => lc_let (x5 + (1 : Int32)) (fun x5_62 => K16 x1 x2 x3 x4 x5_62 s3)))
set_option maxRecDepth 100000 in
set_option maxHeartbeats 4000000 in
theorem w_X4_newCell_61 {S : lc_Se} {X : lc_X} (C : lc_C X cX4_newCell RX4 6 (some .int) rm_X4_newCell) {M : lc_MM}  (out : Int32 × lc_St) (K16 : Int32 → Int32 → Int32 → Int32 → Int32 → lc_St → Option (Int32 × lc_St)) (hK16 : ∀ (x1 : Int32) (x2 : Int32) (x3 : Int32) (x4 : Int32) (x5 : Int32) (s : lc_St), K16 x1 x2 x3 x4 x5 s = some out → lc_J S X 6 0 0 (lc_QI S X 0 0 out.1 (va_up M 22 out.2)) 16 [(0, .ref (lc_ad S 197)), (1, .int x1), (2, .int x2), (3, .int x3), (4, .int x4), (5, .int x5)] [] (va_up M 22 s)) : ∀ (x1 : Int32) (x2 : Int32) (x3 : Int32) (x4 : Int32) (x5 : Int32) (t1 : Int32) (t2 : Int32) (s : lc_St), P_X4_newCell_61 K16 x1 x2 x3 x4 x5 t1 t2 s = some out → lc_J S X 6 0 0 (lc_QI S X 0 0 out.1 (va_up M 22 out.2)) 61 [(0, .ref (lc_ad S 197)), (1, .int x1), (2, .int x2), (3, .int x3), (4, .int x4), (5, .int x5)] [.int t2, .int t1, .ref (lc_ad S 198)] (va_up M 22 s) := by
  intro x1 x2 x3 x4 x5 t1 t2 s h
  rw [P_X4_newCell_61] at h
  obtain ⟨hi61, h⟩ := lc_ife h
  obtain ⟨s3, es3, h⟩ := lc_let2 h
  refine lc_sd198 C (pc' := 62) (jj := t1.toNatClampNeg) (M' := (va_up M 22 s3)) (va_up_self _ _ _) hi61 rfl es3 (lc_up_up _ _ _ _) dX4_newCell_61 rfl ?_
  obtain ⟨x5_62, e5_62, h⟩ := lc_let2 h
  refine lc_iinc C (pc' := 65) (lo' := [(5, .int x5_62), (0, .ref (lc_ad S 197)), (1, .int x1), (2, .int x2), (3, .int x3), (4, .int x4)]) (q := 5) dX4_newCell_62 rfl (by rw [← e5_62]; rfl) (Nat.le_of_ble_eq_true rfl) rfl rfl ?_
  refine lc_goto C (tgt := 16) dX4_newCell_65 (by decide) ?_
  refine lc_sub (lo' := [(0, .ref (lc_ad S 197)), (1, .int x1), (2, .int x2), (3, .int x3), (4, .int x4), (5, .int x5_62)]) [1, 2, 3, 4, 5, 0] rfl ?_
  exact hK16 x1 x2 x3 x4 x5_62 s3 h
def P_X4_newCell_16  : Nat → Int32 → Int32 → Int32 → Int32 → Int32 → lc_St → Option (Int32 × lc_St)
  | 0, _, _, _, _, _, _ => none
  | n + 1, x1, x2, x3, x4, x5, s =>
    if (5 : Int32) ≤ x5 then lc_let (lc_ss s 1 1 ((s 1 1) + (1 : Int32))) (fun s1 => lc_let (lc_ss s1 1 3 ((s1 1 3) + x2)) (fun s2 => some (((s2 1 1) - (1 : Int32)), s2))) else if x5 = 0 then P_X4_newCell_61 (fun x1 x2 x3 x4 x5 s => P_X4_newCell_16  n x1 x2 x3 x4 x5 s)  x1 x2 x3 x4 x5 (x4 + x5) x1 s else if x5 = (1 : Int32) then P_X4_newCell_61 (fun x1 x2 x3 x4 x5 s => P_X4_newCell_16  n x1 x2 x3 x4 x5 s)  x1 x2 x3 x4 x5 (x4 + x5) x2 s else if x5 = (2 : Int32) then P_X4_newCell_61 (fun x1 x2 x3 x4 x5 s => P_X4_newCell_16  n x1 x2 x3 x4 x5 s)  x1 x2 x3 x4 x5 (x4 + x5) x3 s else P_X4_newCell_61 (fun x1 x2 x3 x4 x5 s => P_X4_newCell_16  n x1 x2 x3 x4 x5 s)  x1 x2 x3 x4 x5 (x4 + x5) (0 : Int32) s
set_option maxRecDepth 100000 in
set_option maxHeartbeats 4000000 in
theorem w_X4_newCell_16 {S : lc_Se} {X : lc_X} (C : lc_C X cX4_newCell RX4 6 (some .int) rm_X4_newCell) {M : lc_MM}  (out : Int32 × lc_St)  : ∀ (n : Nat) (x1 : Int32) (x2 : Int32) (x3 : Int32) (x4 : Int32) (x5 : Int32) (s : lc_St), P_X4_newCell_16  n x1 x2 x3 x4 x5 s = some out → lc_J S X 6 0 0 (lc_QI S X 0 0 out.1 (va_up M 22 out.2)) 16 [(0, .ref (lc_ad S 197)), (1, .int x1), (2, .int x2), (3, .int x3), (4, .int x4), (5, .int x5)] [] (va_up M 22 s) := by
  intro n
  induction n with
  | zero =>
    intro x1 x2 x3 x4 x5 s h
    rw [P_X4_newCell_16] at h
    cases h
  | succ n ih =>
    intro x1 x2 x3 x4 x5 s h
    rw [P_X4_newCell_16] at h
    refine lc_iload C (pc' := 18) 5 dX4_newCell_16 rfl rfl ?_
    refine lc_iconst C (pc' := 19) (v := (5 : Int32)) dX4_newCell_18 (by decide) rfl ?_
    refine lc_icmp_ge C (pc' := 22) (tgt := 68) dX4_newCell_19 (by decide) rfl (fun c19 => ?_) (fun c19 => ?_)
    · have h := (lc_if2 h).1 c19
      refine lc_aload_n C (pc' := 69) 0 dX4_newCell_68 rfl rfl ?_
      refine lc_g197_now C (pc' := 72) (va_up_self _ _ _) dX4_newCell_69 kf_RX4_7 rfl ?_
      refine lc_iconst C (pc' := 73) (v := (1 : Int32)) dX4_newCell_72 (by decide) rfl ?_
      refine lc_dup2 C (pc' := 74) dX4_newCell_73 rfl rfl rfl ?_
      refine lc_ld198 C (pc' := 75) (jj := 1) (va_up_self _ _ _) (by decide) (by decide) dX4_newCell_74 rfl ?_
      refine lc_iconst C (pc' := 76) (v := (1 : Int32)) dX4_newCell_75 (by decide) rfl ?_
      refine lc_iadd C (pc' := 77) dX4_newCell_76 rfl ?_
      obtain ⟨s1, es1, h⟩ := lc_let2 h
      refine lc_sd198 C (pc' := 78) (jj := 1) (M' := (va_up M 22 s1)) (va_up_self _ _ _) (by decide) (by decide) es1 (lc_up_up _ _ _ _) dX4_newCell_77 rfl ?_
      refine lc_aload_n C (pc' := 79) 0 dX4_newCell_78 rfl rfl ?_
      refine lc_g197_now C (pc' := 82) (va_up_self _ _ _) dX4_newCell_79 kf_RX4_7 rfl ?_
      refine lc_iconst C (pc' := 83) (v := (3 : Int32)) dX4_newCell_82 (by decide) rfl ?_
      refine lc_dup2 C (pc' := 84) dX4_newCell_83 rfl rfl rfl ?_
      refine lc_ld198 C (pc' := 85) (jj := 3) (va_up_self _ _ _) (by decide) (by decide) dX4_newCell_84 rfl ?_
      refine lc_iload_n C (pc' := 86) 2 dX4_newCell_85 rfl rfl ?_
      refine lc_iadd C (pc' := 87) dX4_newCell_86 rfl ?_
      obtain ⟨s2, es2, h⟩ := lc_let2 h
      refine lc_sd198 C (pc' := 88) (jj := 3) (M' := (va_up M 22 s2)) (va_up_self _ _ _) (by decide) (by decide) es2 (lc_up_up _ _ _ _) dX4_newCell_87 rfl ?_
      refine lc_aload_n C (pc' := 89) 0 dX4_newCell_88 rfl rfl ?_
      refine lc_g197_now C (pc' := 92) (va_up_self _ _ _) dX4_newCell_89 kf_RX4_7 rfl ?_
      refine lc_iconst C (pc' := 93) (v := (1 : Int32)) dX4_newCell_92 (by decide) rfl ?_
      refine lc_ld198 C (pc' := 94) (jj := 1) (va_up_self _ _ _) (by decide) (by decide) dX4_newCell_93 rfl ?_
      refine lc_iconst C (pc' := 95) (v := (1 : Int32)) dX4_newCell_94 (by decide) rfl ?_
      refine lc_isub C (pc' := 96) dX4_newCell_95 rfl ?_
      obtain rfl := Option.some.inj h
      exact lc_iret C rfl dX4_newCell_96
    · have h := (lc_if2 h).2 c19
      refine lc_aload_n C (pc' := 23) 0 dX4_newCell_22 rfl rfl ?_
      refine lc_g197_now C (pc' := 26) (va_up_self _ _ _) dX4_newCell_23 kf_RX4_7 rfl ?_
      refine lc_iload C (pc' := 28) 4 dX4_newCell_26 rfl rfl ?_
      refine lc_iload C (pc' := 30) 5 dX4_newCell_28 rfl rfl ?_
      refine lc_iadd C (pc' := 31) dX4_newCell_30 rfl ?_
      refine lc_iload C (pc' := 33) 5 dX4_newCell_31 rfl rfl ?_
      refine lc_if_ne C (pc' := 36) (tgt := 40) dX4_newCell_33 (by decide) rfl (fun c33 => ?_) (fun c33 => ?_)
      · have h := (lc_if2 h).2 c33
        refine lc_iload C (pc' := 42) 5 dX4_newCell_40 rfl rfl ?_
        refine lc_iconst C (pc' := 43) (v := (1 : Int32)) dX4_newCell_42 (by decide) rfl ?_
        refine lc_icmp_ne C (pc' := 46) (tgt := 50) dX4_newCell_43 (by decide) rfl (fun c43 => ?_) (fun c43 => ?_)
        · have h := (lc_if2 h).2 c43
          refine lc_iload C (pc' := 52) 5 dX4_newCell_50 rfl rfl ?_
          refine lc_iconst C (pc' := 53) (v := (2 : Int32)) dX4_newCell_52 (by decide) rfl ?_
          refine lc_icmp_ne C (pc' := 56) (tgt := 60) dX4_newCell_53 (by decide) rfl (fun c53 => ?_) (fun c53 => ?_)
          · have h := (lc_if2 h).2 c53
            refine lc_iconst C (pc' := 61) (v := (0 : Int32)) dX4_newCell_60 (by decide) rfl ?_
            exact w_X4_newCell_61 C   out (fun x1 x2 x3 x4 x5 s => P_X4_newCell_16  n x1 x2 x3 x4 x5 s) ih  x1 x2 x3 x4 x5 (x4 + x5) (0 : Int32) s h
          · have h := (lc_if2 h).1 c53
            refine lc_iload_n C (pc' := 57) 3 dX4_newCell_56 rfl rfl ?_
            refine lc_goto C (tgt := 61) dX4_newCell_57 (by decide) ?_
            exact w_X4_newCell_61 C   out (fun x1 x2 x3 x4 x5 s => P_X4_newCell_16  n x1 x2 x3 x4 x5 s) ih  x1 x2 x3 x4 x5 (x4 + x5) x3 s h
        · have h := (lc_if2 h).1 c43
          refine lc_iload_n C (pc' := 47) 2 dX4_newCell_46 rfl rfl ?_
          refine lc_goto C (tgt := 61) dX4_newCell_47 (by decide) ?_
          exact w_X4_newCell_61 C   out (fun x1 x2 x3 x4 x5 s => P_X4_newCell_16  n x1 x2 x3 x4 x5 s) ih  x1 x2 x3 x4 x5 (x4 + x5) x2 s h
      · have h := (lc_if2 h).1 c33
        refine lc_iload_n C (pc' := 37) 1 dX4_newCell_36 rfl rfl ?_
        refine lc_goto C (tgt := 61) dX4_newCell_37 (by decide) ?_
        exact w_X4_newCell_61 C   out (fun x1 x2 x3 x4 x5 s => P_X4_newCell_16  n x1 x2 x3 x4 x5 s) ih  x1 x2 x3 x4 x5 (x4 + x5) x1 s h
def P_X4_newCell  (x1 : Int32) (x2 : Int32) (x3 : Int32) (s : lc_St) : Option (Int32 × lc_St) :=
  lc_let ((7 : Int32) + ((5 : Int32) * (s 1 1))) (fun x4_11 => P_X4_newCell_16  lc_FU x1 x2 x3 x4_11 (0 : Int32) s)
set_option maxRecDepth 100000 in
set_option maxHeartbeats 4000000 in
theorem c_X4_newCell (S : lc_Se) (l : Launch) (M : lc_MM)  (x1 : Int32) (x2 : Int32) (x3 : Int32) (s : lc_St) (out : Int32 × lc_St) (h : P_X4_newCell x1 x2 x3 s = some out) : lc_MI S l yX4_newCell cX4_newCell 6 (some .int) rm_X4_newCell [.ref (lc_ad S 197), .int x1, .int x2, .int x3] (va_up M 22 s) out.1 (va_up M 22 out.2) := by
  refine lc_mkI (own := RX4) pn_RX4 rfl (Nat.le_of_ble_eq_true rfl) (lo := [(0, .ref (lc_ad S 197)), (1, .int x1), (2, .int x2), (3, .int x3)]) rfl (fun X hX C => ?_)
  rw [P_X4_newCell] at h
  refine lc_bipush C (pc' := 2) (v := (7 : Int32)) dX4_newCell_0 (by decide) rfl ?_
  refine lc_iconst C (pc' := 3) (v := (5 : Int32)) dX4_newCell_2 (by decide) rfl ?_
  refine lc_aload_n C (pc' := 4) 0 dX4_newCell_3 rfl rfl ?_
  refine lc_g197_now C (pc' := 7) (va_up_self _ _ _) dX4_newCell_4 kf_RX4_7 rfl ?_
  refine lc_iconst C (pc' := 8) (v := (1 : Int32)) dX4_newCell_7 (by decide) rfl ?_
  refine lc_ld198 C (pc' := 9) (jj := 1) (va_up_self _ _ _) (by decide) (by decide) dX4_newCell_8 rfl ?_
  refine lc_imul C (pc' := 10) dX4_newCell_9 rfl ?_
  refine lc_iadd C (pc' := 11) dX4_newCell_10 rfl ?_
  obtain ⟨x4_11, e4_11, h⟩ := lc_let2 h
  rw [e4_11]
  refine lc_istore C (pc' := 13) (lo' := [(4, .int x4_11), (0, .ref (lc_ad S 197)), (1, .int x1), (2, .int x2), (3, .int x3)]) dX4_newCell_11 (Nat.le_of_ble_eq_true rfl) rfl rfl ?_
  refine lc_iconst C (pc' := 14) (v := (0 : Int32)) dX4_newCell_13 (by decide) rfl ?_
  refine lc_istore C (pc' := 16) (lo' := [(5, .int (0 : Int32)), (4, .int x4_11), (0, .ref (lc_ad S 197)), (1, .int x1), (2, .int x2), (3, .int x3)]) dX4_newCell_14 (Nat.le_of_ble_eq_true rfl) rfl rfl ?_
  refine lc_sub (lo' := [(0, .ref (lc_ad S 197)), (1, .int x1), (2, .int x2), (3, .int x3), (4, .int x4_11), (5, .int (0 : Int32))]) [2, 3, 4, 5, 1, 0] rfl ?_
  exact w_X4_newCell_16 C   out  lc_FU x1 x2 x3 x4_11 (0 : Int32) s h
abbrev rm_X4_readCell : Room := { frames := 2, cells := 0, slots := 0, locals := 50 }
def P_X4_readCell_17  (t1 : Int32) (s : lc_St) : Option (lc_St) :=
  lc_bd (P_X4_must t1 s) (fun s1 => lc_bd2 (P_X4_number (2 : Int32) (10 : Int32) (99 : Int32) s1) (fun r26 s2 => lc_bd2 (P_X4_number (2 : Int32) (0 : Int32) r26 s2) (fun r34 s3 => lc_bd2 (P_X4_number (1 : Int32) (0 : Int32) (3 : Int32) s3) (fun r42 s4 => if (s4 0 6) = 0 then lc_bd2 (P_X4_newCell r26 r34 r42 s4) (fun r57 s5 => some s5) else some s4))))
set_option maxRecDepth 100000 in
set_option maxHeartbeats 4000000 in
theorem w_X4_readCell_17 {S : lc_Se} {X : lc_X} (C : lc_C X cX4_readCell RX4 4 none rm_X4_readCell) {M : lc_MM}  (out : lc_St)  : ∀ (t1 : Int32) (s : lc_St), P_X4_readCell_17  t1 s = some out → lc_J S X 4 0 0 (lc_QV S X 0 0 (va_up M 22 out)) 17 [(0, .ref (lc_ad S 197))] [.int t1, .ref (lc_ad S 197)] (va_up M 22 s) := by
  intro t1 s h
  rw [P_X4_readCell_17] at h
  obtain ⟨s1, h17, h⟩ := lc_bde h
  refine lc_cvv C (pc' := 20) (M' := (va_up M 22 s1)) (As := [.int t1]) (rest := []) (c_X4_must S X.2.1 M   t1 s s1 h17) kl_RX4_125 (lc_at197 S _) rfl rfl rfl rfl (Nat.le_of_ble_eq_true rfl) ⟨Nat.le_of_ble_eq_true rfl, Nat.le_of_ble_eq_true rfl⟩ ⟨rfl, rfl⟩ (lc_z2 _ _) dX4_readCell_17 rfl ?_
  refine lc_aload_n C (pc' := 21) 0 dX4_readCell_20 rfl rfl ?_
  refine lc_iconst C (pc' := 22) (v := (2 : Int32)) dX4_readCell_21 (by decide) rfl ?_
  refine lc_bipush C (pc' := 24) (v := (10 : Int32)) dX4_readCell_22 (by decide) rfl ?_
  refine lc_bipush C (pc' := 26) (v := (99 : Int32)) dX4_readCell_24 (by decide) rfl ?_
  obtain ⟨r26, s2, h26, h⟩ := lc_bd2e h
  refine lc_cvi C (pc' := 29) (r := r26) (M' := (va_up M 22 s2)) (As := [.int (2 : Int32), .int (10 : Int32), .int (99 : Int32)]) (rest := []) (c_X4_number S X.2.1 M   (2 : Int32) (10 : Int32) (99 : Int32) s1 (r26, s2) h26) kl_RX4_129 (lc_at197 S _) rfl rfl rfl rfl (Nat.le_of_ble_eq_true rfl) ⟨Nat.le_of_ble_eq_true rfl, Nat.le_of_ble_eq_true rfl⟩ ⟨rfl, rfl⟩ (lc_z2 _ _) dX4_readCell_26 rfl ?_
  refine lc_istore_n C (pc' := 30) (lo' := [(1, .int r26), (0, .ref (lc_ad S 197))]) dX4_readCell_29 (Nat.le_of_ble_eq_true rfl) rfl rfl ?_
  refine lc_aload_n C (pc' := 31) 1 dX4_readCell_30 rfl rfl ?_
  refine lc_iconst C (pc' := 32) (v := (2 : Int32)) dX4_readCell_31 (by decide) rfl ?_
  refine lc_iconst C (pc' := 33) (v := (0 : Int32)) dX4_readCell_32 (by decide) rfl ?_
  refine lc_iload_n C (pc' := 34) 0 dX4_readCell_33 rfl rfl ?_
  obtain ⟨r34, s3, h34, h⟩ := lc_bd2e h
  refine lc_cvi C (pc' := 37) (r := r34) (M' := (va_up M 22 s3)) (As := [.int (2 : Int32), .int (0 : Int32), .int r26]) (rest := []) (c_X4_number S X.2.1 M   (2 : Int32) (0 : Int32) r26 s2 (r34, s3) h34) kl_RX4_129 (lc_at197 S _) rfl rfl rfl rfl (Nat.le_of_ble_eq_true rfl) ⟨Nat.le_of_ble_eq_true rfl, Nat.le_of_ble_eq_true rfl⟩ ⟨rfl, rfl⟩ (lc_z2 _ _) dX4_readCell_34 rfl ?_
  refine lc_istore_n C (pc' := 38) (lo' := [(2, .int r34), (1, .int r26), (0, .ref (lc_ad S 197))]) dX4_readCell_37 (Nat.le_of_ble_eq_true rfl) rfl rfl ?_
  refine lc_aload_n C (pc' := 39) 2 dX4_readCell_38 rfl rfl ?_
  refine lc_iconst C (pc' := 40) (v := (1 : Int32)) dX4_readCell_39 (by decide) rfl ?_
  refine lc_iconst C (pc' := 41) (v := (0 : Int32)) dX4_readCell_40 (by decide) rfl ?_
  refine lc_iconst C (pc' := 42) (v := (3 : Int32)) dX4_readCell_41 (by decide) rfl ?_
  obtain ⟨r42, s4, h42, h⟩ := lc_bd2e h
  refine lc_cvi C (pc' := 45) (r := r42) (M' := (va_up M 22 s4)) (As := [.int (1 : Int32), .int (0 : Int32), .int (3 : Int32)]) (rest := []) (c_X4_number S X.2.1 M   (1 : Int32) (0 : Int32) (3 : Int32) s3 (r42, s4) h42) kl_RX4_129 (lc_at197 S _) rfl rfl rfl rfl (Nat.le_of_ble_eq_true rfl) ⟨Nat.le_of_ble_eq_true rfl, Nat.le_of_ble_eq_true rfl⟩ ⟨rfl, rfl⟩ (lc_z2 _ _) dX4_readCell_42 rfl ?_
  refine lc_istore_n C (pc' := 46) (lo' := [(3, .int r42), (2, .int r34), (1, .int r26), (0, .ref (lc_ad S 197))]) dX4_readCell_45 (Nat.le_of_ble_eq_true rfl) rfl rfl ?_
  refine lc_aload_n C (pc' := 47) 3 dX4_readCell_46 rfl rfl ?_
  refine lc_g197_isStuck C (pc' := 50) (va_up_self _ _ _) dX4_readCell_47 kf_RX4_118 rfl ?_
  refine lc_if_ne C (pc' := 53) (tgt := 61) dX4_readCell_50 (by decide) rfl (fun c50 => ?_) (fun c50 => ?_)
  · have h := (lc_if2 h).2 c50
    obtain rfl := Option.some.inj h
    exact lc_vret C rfl dX4_readCell_61
  · have h := (lc_if2 h).1 c50
    refine lc_aload_n C (pc' := 54) 3 dX4_readCell_53 rfl rfl ?_
    refine lc_iload_n C (pc' := 55) 2 dX4_readCell_54 rfl rfl ?_
    refine lc_iload_n C (pc' := 56) 1 dX4_readCell_55 rfl rfl ?_
    refine lc_iload_n C (pc' := 57) 0 dX4_readCell_56 rfl rfl ?_
    obtain ⟨r57, s5, h57, h⟩ := lc_bd2e h
    refine lc_cvi C (pc' := 60) (r := r57) (M' := (va_up M 22 s5)) (As := [.int r26, .int r34, .int r42]) (rest := []) (c_X4_newCell S X.2.1 M   r26 r34 r42 s4 (r57, s5) h57) kl_RX4_132 (lc_at197 S _) rfl rfl rfl rfl (Nat.le_of_ble_eq_true rfl) ⟨Nat.le_of_ble_eq_true rfl, Nat.le_of_ble_eq_true rfl⟩ ⟨rfl, rfl⟩ (lc_z2 _ _) dX4_readCell_57 rfl ?_
    refine lc_pop C (pc' := 61) dX4_readCell_60 rfl rfl ?_
    obtain rfl := Option.some.inj h
    exact lc_vret C rfl dX4_readCell_61
def P_X4_readCell   (s : lc_St) : Option (lc_St) :=
  if (8 : Int32) ≤ (s 1 1) then P_X4_readCell_17   (0 : Int32) s else P_X4_readCell_17   (1 : Int32) s
set_option maxRecDepth 100000 in
set_option maxHeartbeats 4000000 in
theorem c_X4_readCell (S : lc_Se) (l : Launch) (M : lc_MM)   (s : lc_St) (out : lc_St) (h : P_X4_readCell  s = some out) : lc_MV S l yX4_readCell cX4_readCell 4 none rm_X4_readCell [.ref (lc_ad S 197)] (va_up M 22 s)  (va_up M 22 out) := by
  refine lc_mkV (own := RX4) pn_RX4 rfl (Nat.le_of_ble_eq_true rfl) (lo := [(0, .ref (lc_ad S 197))]) rfl (fun X hX C => ?_)
  rw [P_X4_readCell] at h
  refine lc_aload_n C (pc' := 1) 0 dX4_readCell_0 rfl rfl ?_
  refine lc_aload_n C (pc' := 2) 0 dX4_readCell_1 rfl rfl ?_
  refine lc_g197_now C (pc' := 5) (va_up_self _ _ _) dX4_readCell_2 kf_RX4_7 rfl ?_
  refine lc_iconst C (pc' := 6) (v := (1 : Int32)) dX4_readCell_5 (by decide) rfl ?_
  refine lc_ld198 C (pc' := 7) (jj := 1) (va_up_self _ _ _) (by decide) (by decide) dX4_readCell_6 rfl ?_
  refine lc_bipush C (pc' := 9) (v := (8 : Int32)) dX4_readCell_7 (by decide) rfl ?_
  refine lc_icmp_ge C (pc' := 12) (tgt := 16) dX4_readCell_9 (by decide) rfl (fun c9 => ?_) (fun c9 => ?_)
  · have h := (lc_if2 h).1 c9
    refine lc_iconst C (pc' := 17) (v := (0 : Int32)) dX4_readCell_16 (by decide) rfl ?_
    exact w_X4_readCell_17 C   out   (0 : Int32) s h
  · have h := (lc_if2 h).2 c9
    refine lc_iconst C (pc' := 13) (v := (1 : Int32)) dX4_readCell_12 (by decide) rfl ?_
    refine lc_goto C (tgt := 17) dX4_readCell_13 (by decide) ?_
    exact w_X4_readCell_17 C   out   (1 : Int32) s h
abbrev rm_X4_cellHere : Room := { frames := 2, cells := 0, slots := 0, locals := 43 }
def P_X4_cellHere_42  (x2 : Int32) (t1 : Int32) (s : lc_St) : Option (Int32 × lc_St) :=
  lc_bd (P_X4_must t1 s) (fun s1 => some (x2, s1))
set_option maxRecDepth 100000 in
set_option maxHeartbeats 4000000 in
theorem w_X4_cellHere_42 {S : lc_Se} {X : lc_X} (C : lc_C X cX4_cellHere RX4 3 (some .int) rm_X4_cellHere) {M : lc_MM}  (out : Int32 × lc_St)  : ∀ (x2 : Int32) (t1 : Int32) (s : lc_St), P_X4_cellHere_42  x2 t1 s = some out → lc_J S X 3 0 0 (lc_QI S X 0 0 out.1 (va_up M 22 out.2)) 42 [(2, .int x2)] [.int t1, .ref (lc_ad S 197)] (va_up M 22 s) := by
  intro x2 t1 s h
  rw [P_X4_cellHere_42] at h
  obtain ⟨s1, h42, h⟩ := lc_bde h
  refine lc_cvv C (pc' := 45) (M' := (va_up M 22 s1)) (As := [.int t1]) (rest := []) (c_X4_must S X.2.1 M   t1 s s1 h42) kl_RX4_125 (lc_at197 S _) rfl rfl rfl rfl (Nat.le_of_ble_eq_true rfl) ⟨Nat.le_of_ble_eq_true rfl, Nat.le_of_ble_eq_true rfl⟩ ⟨rfl, rfl⟩ (lc_z2 _ _) dX4_cellHere_42 rfl ?_
  refine lc_iload_n C (pc' := 46) 0 dX4_cellHere_45 rfl rfl ?_
  obtain rfl := Option.some.inj h
  exact lc_iret C rfl dX4_cellHere_46
def P_X4_cellHere_41  (x2 : Int32) (s : lc_St) : Option (Int32 × lc_St) :=
  P_X4_cellHere_42   x2 (0 : Int32) s
set_option maxRecDepth 100000 in
set_option maxHeartbeats 4000000 in
theorem w_X4_cellHere_41 {S : lc_Se} {X : lc_X} (C : lc_C X cX4_cellHere RX4 3 (some .int) rm_X4_cellHere) {M : lc_MM}  (out : Int32 × lc_St)  : ∀ (x2 : Int32) (s : lc_St), P_X4_cellHere_41  x2 s = some out → lc_J S X 3 0 0 (lc_QI S X 0 0 out.1 (va_up M 22 out.2)) 41 [(2, .int x2)] [.ref (lc_ad S 197)] (va_up M 22 s) := by
  intro x2 s h
  rw [P_X4_cellHere_41] at h
  refine lc_iconst C (pc' := 42) (v := (0 : Int32)) dX4_cellHere_41 (by decide) rfl ?_
  exact w_X4_cellHere_42 C   out   x2 (0 : Int32) s h
def P_X4_cellHere_37  (x2 : Int32) (s : lc_St) : Option (Int32 × lc_St) :=
  P_X4_cellHere_42   x2 (1 : Int32) s
set_option maxRecDepth 100000 in
set_option maxHeartbeats 4000000 in
theorem w_X4_cellHere_37 {S : lc_Se} {X : lc_X} (C : lc_C X cX4_cellHere RX4 3 (some .int) rm_X4_cellHere) {M : lc_MM}  (out : Int32 × lc_St)  : ∀ (x2 : Int32) (s : lc_St), P_X4_cellHere_37  x2 s = some out → lc_J S X 3 0 0 (lc_QI S X 0 0 out.1 (va_up M 22 out.2)) 37 [(2, .int x2)] [.ref (lc_ad S 197)] (va_up M 22 s) := by
  intro x2 s h
  rw [P_X4_cellHere_37] at h
  refine lc_iconst C (pc' := 38) (v := (1 : Int32)) dX4_cellHere_37 (by decide) rfl ?_
  refine lc_goto C (tgt := 42) dX4_cellHere_38 (by decide) ?_
  exact w_X4_cellHere_42 C   out   x2 (1 : Int32) s h
def P_X4_cellHere  (x1 : Int32) (s : lc_St) : Option (Int32 × lc_St) :=
  lc_bd (P_X4_look  s) (fun r1 => lc_let (r1 - (48 : Int32)) (fun x2_7 => lc_bd (P_X4_isCell x2_7 s) (fun r11 => if r11 = 0 then P_X4_cellHere_41   x2_7 s else if x2_7 = x1 then P_X4_cellHere_41   x2_7 s else if x1 = (-9 : Int32) then lc_bd (P_X4_of x2_7 (1 : Int32) s) (fun r31 => if r31 ≤ 0 then P_X4_cellHere_41   x2_7 s else P_X4_cellHere_37   x2_7 s) else P_X4_cellHere_37   x2_7 s)))
set_option maxRecDepth 100000 in
set_option maxHeartbeats 4000000 in
theorem c_X4_cellHere (S : lc_Se) (l : Launch) (M : lc_MM)  (x1 : Int32) (s : lc_St) (out : Int32 × lc_St) (h : P_X4_cellHere x1 s = some out) : lc_MI S l yX4_cellHere cX4_cellHere 3 (some .int) rm_X4_cellHere [.ref (lc_ad S 197), .int x1] (va_up M 22 s) out.1 (va_up M 22 out.2) := by
  refine lc_mkI (own := RX4) pn_RX4 rfl (Nat.le_of_ble_eq_true rfl) (lo := [(0, .ref (lc_ad S 197)), (1, .int x1)]) rfl (fun X hX C => ?_)
  rw [P_X4_cellHere] at h
  refine lc_aload_n C (pc' := 1) 0 dX4_cellHere_0 rfl rfl ?_
  obtain ⟨r1, h1, h⟩ := lc_bde h
  refine lc_cvi C (pc' := 4) (r := r1) (M' := (va_up M 22 s)) (As := []) (rest := []) (c_X4_look S X.2.1 M    s r1 h1) kl_RX4_122 (lc_at197 S _) rfl rfl rfl rfl (Nat.le_of_ble_eq_true rfl) ⟨Nat.le_of_ble_eq_true rfl, Nat.le_of_ble_eq_true rfl⟩ ⟨rfl, rfl⟩ (lc_z2 _ _) dX4_cellHere_1 rfl ?_
  refine lc_bipush C (pc' := 6) (v := (48 : Int32)) dX4_cellHere_4 (by decide) rfl ?_
  refine lc_isub C (pc' := 7) dX4_cellHere_6 rfl ?_
  obtain ⟨x2_7, e2_7, h⟩ := lc_let2 h
  rw [e2_7]
  refine lc_istore_n C (pc' := 8) (lo' := [(2, .int x2_7), (0, .ref (lc_ad S 197)), (1, .int x1)]) dX4_cellHere_7 (Nat.le_of_ble_eq_true rfl) rfl rfl ?_
  refine lc_aload_n C (pc' := 9) 1 dX4_cellHere_8 rfl rfl ?_
  refine lc_aload_n C (pc' := 10) 1 dX4_cellHere_9 rfl rfl ?_
  refine lc_iload_n C (pc' := 11) 0 dX4_cellHere_10 rfl rfl ?_
  obtain ⟨r11, h11, h⟩ := lc_bde h
  refine lc_cvi C (pc' := 14) (r := r11) (M' := (va_up M 22 s)) (As := [.int x2_7]) (rest := [.ref (lc_ad S 197)]) (c_X4_isCell S X.2.1 M   x2_7 s r11 h11) kl_RX4_135 (lc_at197 S _) rfl rfl rfl rfl (Nat.le_of_ble_eq_true rfl) ⟨Nat.le_of_ble_eq_true rfl, Nat.le_of_ble_eq_true rfl⟩ ⟨rfl, rfl⟩ (lc_z2 _ _) dX4_cellHere_11 rfl ?_
  refine lc_if_eq C (pc' := 17) (tgt := 41) dX4_cellHere_14 (by decide) rfl (fun c14 => ?_) (fun c14 => ?_)
  · have h := (lc_if2 h).1 c14
    refine lc_sub (lo' := [(2, .int x2_7)]) [0] rfl ?_
    exact w_X4_cellHere_41 C   out   x2_7 s h
  · have h := (lc_if2 h).2 c14
    refine lc_iload_n C (pc' := 18) 0 dX4_cellHere_17 rfl rfl ?_
    refine lc_iload_n C (pc' := 19) 2 dX4_cellHere_18 rfl rfl ?_
    refine lc_icmp_eq C (pc' := 22) (tgt := 41) dX4_cellHere_19 (by decide) rfl (fun c19 => ?_) (fun c19 => ?_)
    · have h := (lc_if2 h).1 c19
      refine lc_sub (lo' := [(2, .int x2_7)]) [0] rfl ?_
      exact w_X4_cellHere_41 C   out   x2_7 s h
    · have h := (lc_if2 h).2 c19
      refine lc_iload_n C (pc' := 23) 2 dX4_cellHere_22 rfl rfl ?_
      refine lc_bipush C (pc' := 25) (v := (-9 : Int32)) dX4_cellHere_23 (by decide) rfl ?_
      refine lc_icmp_ne C (pc' := 28) (tgt := 37) dX4_cellHere_25 (by decide) rfl (fun c25 => ?_) (fun c25 => ?_)
      · have h := (lc_if2 h).2 c25
        refine lc_sub (lo' := [(2, .int x2_7)]) [0] rfl ?_
        exact w_X4_cellHere_37 C   out   x2_7 s h
      · have h := (lc_if2 h).1 c25
        refine lc_aload_n C (pc' := 29) 1 dX4_cellHere_28 rfl rfl ?_
        refine lc_iload_n C (pc' := 30) 0 dX4_cellHere_29 rfl rfl ?_
        refine lc_iconst C (pc' := 31) (v := (1 : Int32)) dX4_cellHere_30 (by decide) rfl ?_
        obtain ⟨r31, h31, h⟩ := lc_bde h
        refine lc_cvi C (pc' := 34) (r := r31) (M' := (va_up M 22 s)) (As := [.int x2_7, .int (1 : Int32)]) (rest := [.ref (lc_ad S 197)]) (c_X4_of S X.2.1 M   x2_7 (1 : Int32) s r31 h31) kl_RX4_43 (lc_at197 S _) rfl rfl rfl rfl (Nat.le_of_ble_eq_true rfl) ⟨Nat.le_of_ble_eq_true rfl, Nat.le_of_ble_eq_true rfl⟩ ⟨rfl, rfl⟩ (lc_z2 _ _) dX4_cellHere_31 rfl ?_
        refine lc_if_le C (pc' := 37) (tgt := 41) dX4_cellHere_34 (by decide) rfl (fun c34 => ?_) (fun c34 => ?_)
        · have h := (lc_if2 h).1 c34
          refine lc_sub (lo' := [(2, .int x2_7)]) [0] rfl ?_
          exact w_X4_cellHere_41 C   out   x2_7 s h
        · have h := (lc_if2 h).2 c34
          refine lc_sub (lo' := [(2, .int x2_7)]) [0] rfl ?_
          exact w_X4_cellHere_37 C   out   x2_7 s h
abbrev rm_X4_readLoan : Room := { frames := 3, cells := 0, slots := 0, locals := 72 }
def P_X4_readLoan_71  (x1 : Int32) (x2 : Int32) (x3 : Int32) (t0 : Int32) (s : lc_St) : Option (lc_St) :=
  lc_bd2 (P_X4_number (2 : Int32) (0 : Int32) (50 : Int32) s) (fun r78 s5 => if (s5 0 6) = 0 then lc_bd (P_X4_isTooMuch t0 x2 x3 s5) (fun r96 => if r96 = 0 then lc_bd2 (P_X4_makeLoan x2 x3 t0 r78 s5) (fun r120 s6 => some s6) else lc_let (lc_ss s5 0 6 (1 : Int32)) (fun s7 => lc_let (lc_ss s7 0 5 x1) (fun s8 => some s8))) else some s5)
set_option maxRecDepth 100000 in
set_option maxHeartbeats 4000000 in
theorem w_X4_readLoan_71 {S : lc_Se} {X : lc_X} (C : lc_C X cX4_readLoan RX4 6 none rm_X4_readLoan) {M : lc_MM}  (out : lc_St)  : ∀ (x1 : Int32) (x2 : Int32) (x3 : Int32) (t0 : Int32) (s : lc_St), P_X4_readLoan_71  x1 x2 x3 t0 s = some out → lc_J S X 6 0 0 (lc_QV S X 0 0 (va_up M 22 out)) 71 [(0, .ref (lc_ad S 197)), (1, .int x1), (2, .int x2), (3, .int x3)] [.int t0] (va_up M 22 s) := by
  intro x1 x2 x3 t0 s h
  rw [P_X4_readLoan_71] at h
  refine lc_istore C (pc' := 73) (lo' := [(4, .int t0), (0, .ref (lc_ad S 197)), (1, .int x1), (2, .int x2), (3, .int x3)]) dX4_readLoan_71 (Nat.le_of_ble_eq_true rfl) rfl rfl ?_
  refine lc_aload_n C (pc' := 74) 1 dX4_readLoan_73 rfl rfl ?_
  refine lc_iconst C (pc' := 75) (v := (2 : Int32)) dX4_readLoan_74 (by decide) rfl ?_
  refine lc_iconst C (pc' := 76) (v := (0 : Int32)) dX4_readLoan_75 (by decide) rfl ?_
  refine lc_bipush C (pc' := 78) (v := (50 : Int32)) dX4_readLoan_76 (by decide) rfl ?_
  obtain ⟨r78, s5, h78, h⟩ := lc_bd2e h
  refine lc_cvi C (pc' := 81) (r := r78) (M' := (va_up M 22 s5)) (As := [.int (2 : Int32), .int (0 : Int32), .int (50 : Int32)]) (rest := []) (c_X4_number S X.2.1 M   (2 : Int32) (0 : Int32) (50 : Int32) s (r78, s5) h78) kl_RX4_129 (lc_at197 S _) rfl rfl rfl rfl (Nat.le_of_ble_eq_true rfl) ⟨Nat.le_of_ble_eq_true rfl, Nat.le_of_ble_eq_true rfl⟩ ⟨rfl, rfl⟩ (lc_z2 _ _) dX4_readLoan_78 rfl ?_
  refine lc_istore C (pc' := 83) (lo' := [(5, .int r78), (4, .int t0), (0, .ref (lc_ad S 197)), (1, .int x1), (2, .int x2), (3, .int x3)]) dX4_readLoan_81 (Nat.le_of_ble_eq_true rfl) rfl rfl ?_
  refine lc_aload_n C (pc' := 84) 2 dX4_readLoan_83 rfl rfl ?_
  refine lc_g197_isStuck C (pc' := 87) (va_up_self _ _ _) dX4_readLoan_84 kf_RX4_118 rfl ?_
  refine lc_if_eq C (pc' := 90) (tgt := 91) dX4_readLoan_87 (by decide) rfl (fun c87 => ?_) (fun c87 => ?_)
  · have h := (lc_if2 h).1 c87
    refine lc_aload_n C (pc' := 92) 2 dX4_readLoan_91 rfl rfl ?_
    refine lc_iload C (pc' := 94) 1 dX4_readLoan_92 rfl rfl ?_
    refine lc_iload_n C (pc' := 95) 4 dX4_readLoan_94 rfl rfl ?_
    refine lc_iload_n C (pc' := 96) 5 dX4_readLoan_95 rfl rfl ?_
    obtain ⟨r96, h96, h⟩ := lc_bde h
    refine lc_cvi C (pc' := 99) (r := r96) (M' := (va_up M 22 s5)) (As := [.int t0, .int x2, .int x3]) (rest := []) (c_X4_isTooMuch S X.2.1 M   t0 x2 x3 s5 r96 h96) kl_RX4_141 (lc_at197 S _) rfl rfl rfl rfl (Nat.le_of_ble_eq_true rfl) ⟨Nat.le_of_ble_eq_true rfl, Nat.le_of_ble_eq_true rfl⟩ ⟨rfl, rfl⟩ (lc_z2 _ _) dX4_readLoan_96 rfl ?_
    refine lc_if_eq C (pc' := 102) (tgt := 113) dX4_readLoan_99 (by decide) rfl (fun c99 => ?_) (fun c99 => ?_)
    · have h := (lc_if2 h).1 c99
      refine lc_aload_n C (pc' := 114) 2 dX4_readLoan_113 rfl rfl ?_
      refine lc_iload_n C (pc' := 115) 4 dX4_readLoan_114 rfl rfl ?_
      refine lc_iload_n C (pc' := 116) 5 dX4_readLoan_115 rfl rfl ?_
      refine lc_iload C (pc' := 118) 1 dX4_readLoan_116 rfl rfl ?_
      refine lc_iload C (pc' := 120) 0 dX4_readLoan_118 rfl rfl ?_
      obtain ⟨r120, s6, h120, h⟩ := lc_bd2e h
      refine lc_cvi C (pc' := 123) (r := r120) (M' := (va_up M 22 s6)) (As := [.int x2, .int x3, .int t0, .int r78]) (rest := []) (c_X4_makeLoan S X.2.1 M   x2 x3 t0 r78 s5 (r120, s6) h120) kl_RX4_101 (lc_at197 S _) rfl rfl rfl rfl (Nat.le_of_ble_eq_true rfl) ⟨Nat.le_of_ble_eq_true rfl, Nat.le_of_ble_eq_true rfl⟩ ⟨rfl, rfl⟩ (lc_z2 _ _) dX4_readLoan_120 rfl ?_
      refine lc_pop C (pc' := 124) dX4_readLoan_123 rfl rfl ?_
      obtain rfl := Option.some.inj h
      exact lc_vret C rfl dX4_readLoan_124
    · have h := (lc_if2 h).2 c99
      refine lc_aload_n C (pc' := 103) 2 dX4_readLoan_102 rfl rfl ?_
      refine lc_iconst C (pc' := 104) (v := (1 : Int32)) dX4_readLoan_103 (by decide) rfl ?_
      obtain ⟨s7, es7, h⟩ := lc_let2 h
      refine lc_p197_isStuck C (pc' := 107) (M' := (va_up M 22 s7)) (va_up_self _ _ _) es7 (lc_up_up _ _ _ _) (Or.inr rfl) dX4_readLoan_104 kf_RX4_118 rfl ?_
      refine lc_aload_n C (pc' := 108) 2 dX4_readLoan_107 rfl rfl ?_
      refine lc_iload_n C (pc' := 109) 3 dX4_readLoan_108 rfl rfl ?_
      obtain ⟨s8, es8, h⟩ := lc_let2 h
      refine lc_p197_at C (pc' := 112) (M' := (va_up M 22 s8)) (va_up_self _ _ _) es8 (lc_up_up _ _ _ _) dX4_readLoan_109 kf_RX4_115 rfl ?_
      obtain rfl := Option.some.inj h
      exact lc_vret C rfl dX4_readLoan_112
  · have h := (lc_if2 h).2 c87
    obtain rfl := Option.some.inj h
    exact lc_vret C rfl dX4_readLoan_90
def P_X4_readLoan_32  (x1 : Int32) (t1 : Int32) (s : lc_St) : Option (lc_St) :=
  lc_bd (P_X4_must t1 s) (fun s1 => lc_bd2 (P_X4_cellHere (-9 : Int32) s1) (fun r38 s2 => lc_bd2 (P_X4_cellHere r38 s2) (fun r44 s3 => if (s3 0 6) = 0 then lc_bd (P_X4_of r38 (1 : Int32) s3) (fun r65 => lc_bd2 (P_X4_number (2 : Int32) (1 : Int32) r65 s3) (fun r68 s4 => P_X4_readLoan_71   x1 r38 r44 r68 s4)) else P_X4_readLoan_71   x1 r38 r44 (0 : Int32) s3)))
set_option maxRecDepth 100000 in
set_option maxHeartbeats 4000000 in
theorem w_X4_readLoan_32 {S : lc_Se} {X : lc_X} (C : lc_C X cX4_readLoan RX4 6 none rm_X4_readLoan) {M : lc_MM}  (out : lc_St)  : ∀ (x1 : Int32) (t1 : Int32) (s : lc_St), P_X4_readLoan_32  x1 t1 s = some out → lc_J S X 6 0 0 (lc_QV S X 0 0 (va_up M 22 out)) 32 [(0, .ref (lc_ad S 197)), (1, .int x1)] [.int t1, .ref (lc_ad S 197)] (va_up M 22 s) := by
  intro x1 t1 s h
  rw [P_X4_readLoan_32] at h
  obtain ⟨s1, h32, h⟩ := lc_bde h
  refine lc_cvv C (pc' := 35) (M' := (va_up M 22 s1)) (As := [.int t1]) (rest := []) (c_X4_must S X.2.1 M   t1 s s1 h32) kl_RX4_125 (lc_at197 S _) rfl rfl rfl rfl (Nat.le_of_ble_eq_true rfl) ⟨Nat.le_of_ble_eq_true rfl, Nat.le_of_ble_eq_true rfl⟩ ⟨rfl, rfl⟩ (lc_z2 _ _) dX4_readLoan_32 rfl ?_
  refine lc_aload_n C (pc' := 36) 0 dX4_readLoan_35 rfl rfl ?_
  refine lc_bipush C (pc' := 38) (v := (-9 : Int32)) dX4_readLoan_36 (by decide) rfl ?_
  obtain ⟨r38, s2, h38, h⟩ := lc_bd2e h
  refine lc_cvi C (pc' := 41) (r := r38) (M' := (va_up M 22 s2)) (As := [.int (-9 : Int32)]) (rest := []) (c_X4_cellHere S X.2.1 M   (-9 : Int32) s1 (r38, s2) h38) kl_RX4_138 (lc_at197 S _) rfl rfl rfl rfl (Nat.le_of_ble_eq_true rfl) ⟨Nat.le_of_ble_eq_true rfl, Nat.le_of_ble_eq_true rfl⟩ ⟨rfl, rfl⟩ (lc_z2 _ _) dX4_readLoan_38 rfl ?_
  refine lc_istore_n C (pc' := 42) (lo' := [(2, .int r38), (0, .ref (lc_ad S 197)), (1, .int x1)]) dX4_readLoan_41 (Nat.le_of_ble_eq_true rfl) rfl rfl ?_
  refine lc_aload_n C (pc' := 43) 1 dX4_readLoan_42 rfl rfl ?_
  refine lc_iload_n C (pc' := 44) 0 dX4_readLoan_43 rfl rfl ?_
  obtain ⟨r44, s3, h44, h⟩ := lc_bd2e h
  refine lc_cvi C (pc' := 47) (r := r44) (M' := (va_up M 22 s3)) (As := [.int r38]) (rest := []) (c_X4_cellHere S X.2.1 M   r38 s2 (r44, s3) h44) kl_RX4_138 (lc_at197 S _) rfl rfl rfl rfl (Nat.le_of_ble_eq_true rfl) ⟨Nat.le_of_ble_eq_true rfl, Nat.le_of_ble_eq_true rfl⟩ ⟨rfl, rfl⟩ (lc_z2 _ _) dX4_readLoan_44 rfl ?_
  refine lc_istore_n C (pc' := 48) (lo' := [(3, .int r44), (2, .int r38), (0, .ref (lc_ad S 197)), (1, .int x1)]) dX4_readLoan_47 (Nat.le_of_ble_eq_true rfl) rfl rfl ?_
  refine lc_aload_n C (pc' := 49) 2 dX4_readLoan_48 rfl rfl ?_
  refine lc_g197_isStuck C (pc' := 52) (va_up_self _ _ _) dX4_readLoan_49 kf_RX4_118 rfl ?_
  refine lc_if_eq C (pc' := 55) (tgt := 59) dX4_readLoan_52 (by decide) rfl (fun c52 => ?_) (fun c52 => ?_)
  · have h := (lc_if2 h).1 c52
    refine lc_aload_n C (pc' := 60) 2 dX4_readLoan_59 rfl rfl ?_
    refine lc_iconst C (pc' := 61) (v := (2 : Int32)) dX4_readLoan_60 (by decide) rfl ?_
    refine lc_iconst C (pc' := 62) (v := (1 : Int32)) dX4_readLoan_61 (by decide) rfl ?_
    refine lc_aload_n C (pc' := 63) 2 dX4_readLoan_62 rfl rfl ?_
    refine lc_iload_n C (pc' := 64) 1 dX4_readLoan_63 rfl rfl ?_
    refine lc_iconst C (pc' := 65) (v := (1 : Int32)) dX4_readLoan_64 (by decide) rfl ?_
    obtain ⟨r65, h65, h⟩ := lc_bde h
    refine lc_cvi C (pc' := 68) (r := r65) (M' := (va_up M 22 s3)) (As := [.int r38, .int (1 : Int32)]) (rest := [.int (1 : Int32), .int (2 : Int32), .ref (lc_ad S 197)]) (c_X4_of S X.2.1 M   r38 (1 : Int32) s3 r65 h65) kl_RX4_43 (lc_at197 S _) rfl rfl rfl rfl (Nat.le_of_ble_eq_true rfl) ⟨Nat.le_of_ble_eq_true rfl, Nat.le_of_ble_eq_true rfl⟩ ⟨rfl, rfl⟩ (lc_z2 _ _) dX4_readLoan_65 rfl ?_
    obtain ⟨r68, s4, h68, h⟩ := lc_bd2e h
    refine lc_cvi C (pc' := 71) (r := r68) (M' := (va_up M 22 s4)) (As := [.int (2 : Int32), .int (1 : Int32), .int r65]) (rest := []) (c_X4_number S X.2.1 M   (2 : Int32) (1 : Int32) r65 s3 (r68, s4) h68) kl_RX4_129 (lc_at197 S _) rfl rfl rfl rfl (Nat.le_of_ble_eq_true rfl) ⟨Nat.le_of_ble_eq_true rfl, Nat.le_of_ble_eq_true rfl⟩ ⟨rfl, rfl⟩ (lc_z2 _ _) dX4_readLoan_68 rfl ?_
    refine lc_sub (lo' := [(0, .ref (lc_ad S 197)), (1, .int x1), (2, .int r38), (3, .int r44)]) [2, 3, 1, 0] rfl ?_
    exact w_X4_readLoan_71 C   out   x1 r38 r44 r68 s4 h
  · have h := (lc_if2 h).2 c52
    refine lc_iconst C (pc' := 56) (v := (0 : Int32)) dX4_readLoan_55 (by decide) rfl ?_
    refine lc_goto C (tgt := 71) dX4_readLoan_56 (by decide) ?_
    refine lc_sub (lo' := [(0, .ref (lc_ad S 197)), (1, .int x1), (2, .int r38), (3, .int r44)]) [2, 3, 1, 0] rfl ?_
    exact w_X4_readLoan_71 C   out   x1 r38 r44 (0 : Int32) s3 h
def P_X4_readLoan_31  (x1 : Int32) (s : lc_St) : Option (lc_St) :=
  P_X4_readLoan_32   x1 (0 : Int32) s
set_option maxRecDepth 100000 in
set_option maxHeartbeats 4000000 in
theorem w_X4_readLoan_31 {S : lc_Se} {X : lc_X} (C : lc_C X cX4_readLoan RX4 6 none rm_X4_readLoan) {M : lc_MM}  (out : lc_St)  : ∀ (x1 : Int32) (s : lc_St), P_X4_readLoan_31  x1 s = some out → lc_J S X 6 0 0 (lc_QV S X 0 0 (va_up M 22 out)) 31 [(0, .ref (lc_ad S 197)), (1, .int x1)] [.ref (lc_ad S 197)] (va_up M 22 s) := by
  intro x1 s h
  rw [P_X4_readLoan_31] at h
  refine lc_iconst C (pc' := 32) (v := (0 : Int32)) dX4_readLoan_31 (by decide) rfl ?_
  exact w_X4_readLoan_32 C   out   x1 (0 : Int32) s h
def P_X4_readLoan   (s : lc_St) : Option (lc_St) :=
  lc_let (s 0 5) (fun x1_4 => if (s 1 1) ≤ (1 : Int32) then P_X4_readLoan_31   x1_4 s else if (12 : Int32) ≤ (s 1 2) then P_X4_readLoan_31   x1_4 s else P_X4_readLoan_32   x1_4 (1 : Int32) s)
set_option maxRecDepth 100000 in
set_option maxHeartbeats 4000000 in
theorem c_X4_readLoan (S : lc_Se) (l : Launch) (M : lc_MM)   (s : lc_St) (out : lc_St) (h : P_X4_readLoan  s = some out) : lc_MV S l yX4_readLoan cX4_readLoan 6 none rm_X4_readLoan [.ref (lc_ad S 197)] (va_up M 22 s)  (va_up M 22 out) := by
  refine lc_mkV (own := RX4) pn_RX4 rfl (Nat.le_of_ble_eq_true rfl) (lo := [(0, .ref (lc_ad S 197))]) rfl (fun X hX C => ?_)
  rw [P_X4_readLoan] at h
  refine lc_aload_n C (pc' := 1) 0 dX4_readLoan_0 rfl rfl ?_
  refine lc_g197_at C (pc' := 4) (va_up_self _ _ _) dX4_readLoan_1 kf_RX4_115 rfl ?_
  obtain ⟨x1_4, e1_4, h⟩ := lc_let2 h
  rw [e1_4]
  refine lc_istore_n C (pc' := 5) (lo' := [(1, .int x1_4), (0, .ref (lc_ad S 197))]) dX4_readLoan_4 (Nat.le_of_ble_eq_true rfl) rfl rfl ?_
  refine lc_aload_n C (pc' := 6) 1 dX4_readLoan_5 rfl rfl ?_
  refine lc_aload_n C (pc' := 7) 1 dX4_readLoan_6 rfl rfl ?_
  refine lc_g197_now C (pc' := 10) (va_up_self _ _ _) dX4_readLoan_7 kf_RX4_7 rfl ?_
  refine lc_iconst C (pc' := 11) (v := (1 : Int32)) dX4_readLoan_10 (by decide) rfl ?_
  refine lc_ld198 C (pc' := 12) (jj := 1) (va_up_self _ _ _) (by decide) (by decide) dX4_readLoan_11 rfl ?_
  refine lc_iconst C (pc' := 13) (v := (1 : Int32)) dX4_readLoan_12 (by decide) rfl ?_
  refine lc_icmp_le C (pc' := 16) (tgt := 31) dX4_readLoan_13 (by decide) rfl (fun c13 => ?_) (fun c13 => ?_)
  · have h := (lc_if2 h).1 c13
    refine lc_sub (lo' := [(0, .ref (lc_ad S 197)), (1, .int x1_4)]) [1, 0] rfl ?_
    exact w_X4_readLoan_31 C   out   x1_4 s h
  · have h := (lc_if2 h).2 c13
    refine lc_aload_n C (pc' := 17) 1 dX4_readLoan_16 rfl rfl ?_
    refine lc_g197_now C (pc' := 20) (va_up_self _ _ _) dX4_readLoan_17 kf_RX4_7 rfl ?_
    refine lc_iconst C (pc' := 21) (v := (2 : Int32)) dX4_readLoan_20 (by decide) rfl ?_
    refine lc_ld198 C (pc' := 22) (jj := 2) (va_up_self _ _ _) (by decide) (by decide) dX4_readLoan_21 rfl ?_
    refine lc_bipush C (pc' := 24) (v := (12 : Int32)) dX4_readLoan_22 (by decide) rfl ?_
    refine lc_icmp_ge C (pc' := 27) (tgt := 31) dX4_readLoan_24 (by decide) rfl (fun c24 => ?_) (fun c24 => ?_)
    · have h := (lc_if2 h).1 c24
      refine lc_sub (lo' := [(0, .ref (lc_ad S 197)), (1, .int x1_4)]) [1, 0] rfl ?_
      exact w_X4_readLoan_31 C   out   x1_4 s h
    · have h := (lc_if2 h).2 c24
      refine lc_iconst C (pc' := 28) (v := (1 : Int32)) dX4_readLoan_27 (by decide) rfl ?_
      refine lc_goto C (tgt := 32) dX4_readLoan_28 (by decide) ?_
      refine lc_sub (lo' := [(0, .ref (lc_ad S 197)), (1, .int x1_4)]) [1, 0] rfl ?_
      exact w_X4_readLoan_32 C   out   x1_4 (1 : Int32) s h
abbrev rm_X4_isBattery : Room := { frames := 4, cells := 0, slots := 0, locals := 97 }
def P_X4_isBattery_107  (s : lc_St) : Option (Int32 × lc_St) :=
  if (s 0 6) = 0 then some ((1 : Int32), s) else some ((0 : Int32), s)
set_option maxRecDepth 100000 in
set_option maxHeartbeats 4000000 in
theorem w_X4_isBattery_107 {S : lc_Se} {X : lc_X} (C : lc_C X cX4_isBattery RX4 2 (some .boolean) rm_X4_isBattery) {M : lc_MM}  (out : Int32 × lc_St)  : ∀ (s : lc_St), P_X4_isBattery_107  s = some out → lc_J S X 2 0 0 (lc_QI S X 0 0 out.1 (va_up M 22 out.2)) 107 [(0, .ref (lc_ad S 197))] [] (va_up M 22 s) := by
  intro s h
  rw [P_X4_isBattery_107] at h
  refine lc_aload_n C (pc' := 108) 0 dX4_isBattery_107 rfl rfl ?_
  refine lc_g197_isStuck C (pc' := 111) (va_up_self _ _ _) dX4_isBattery_108 kf_RX4_118 rfl ?_
  refine lc_if_ne C (pc' := 114) (tgt := 118) dX4_isBattery_111 (by decide) rfl (fun c111 => ?_) (fun c111 => ?_)
  · have h := (lc_if2 h).2 c111
    refine lc_iconst C (pc' := 119) (v := (0 : Int32)) dX4_isBattery_118 (by decide) rfl ?_
    obtain rfl := Option.some.inj h
    exact lc_zret C rfl (Or.inl rfl) dX4_isBattery_119
  · have h := (lc_if2 h).1 c111
    refine lc_iconst C (pc' := 115) (v := (1 : Int32)) dX4_isBattery_114 (by decide) rfl ?_
    refine lc_goto C (tgt := 119) dX4_isBattery_115 (by decide) ?_
    obtain rfl := Option.some.inj h
    exact lc_zret C rfl (Or.inr rfl) dX4_isBattery_119
def P_X4_isBattery_49  : Nat → lc_St → Option (Int32 × lc_St)
  | 0, _ => none
  | n + 1, s =>
    if (s 0 6) = 0 then if (s 0 2) ≤ (s 0 5) then P_X4_isBattery_107   s else lc_bd (P_X4_look  s) (fun r68 => if r68 = (99 : Int32) then lc_bd (P_X4_readCell  s) (fun s6 => P_X4_isBattery_49  n s6) else lc_bd (P_X4_look  s) (fun r84 => if r84 = (108 : Int32) then lc_bd (P_X4_readLoan  s) (fun s5 => P_X4_isBattery_49  n s5) else lc_bd (P_X4_must (0 : Int32) s) (fun s4 => P_X4_isBattery_49  n s4))) else P_X4_isBattery_107   s
set_option maxRecDepth 100000 in
set_option maxHeartbeats 4000000 in
theorem w_X4_isBattery_49 {S : lc_Se} {X : lc_X} (C : lc_C X cX4_isBattery RX4 2 (some .boolean) rm_X4_isBattery) {M : lc_MM}  (out : Int32 × lc_St)  : ∀ (n : Nat) (s : lc_St), P_X4_isBattery_49  n s = some out → lc_J S X 2 0 0 (lc_QI S X 0 0 out.1 (va_up M 22 out.2)) 49 [(0, .ref (lc_ad S 197))] [] (va_up M 22 s) := by
  intro n
  induction n with
  | zero =>
    intro s h
    rw [P_X4_isBattery_49] at h
    cases h
  | succ n ih =>
    intro s h
    rw [P_X4_isBattery_49] at h
    refine lc_aload_n C (pc' := 50) 0 dX4_isBattery_49 rfl rfl ?_
    refine lc_g197_isStuck C (pc' := 53) (va_up_self _ _ _) dX4_isBattery_50 kf_RX4_118 rfl ?_
    refine lc_if_ne C (pc' := 56) (tgt := 107) dX4_isBattery_53 (by decide) rfl (fun c53 => ?_) (fun c53 => ?_)
    · have h := (lc_if2 h).2 c53
      exact w_X4_isBattery_107 C   out   s h
    · have h := (lc_if2 h).1 c53
      refine lc_aload_n C (pc' := 57) 0 dX4_isBattery_56 rfl rfl ?_
      refine lc_g197_at C (pc' := 60) (va_up_self _ _ _) dX4_isBattery_57 kf_RX4_115 rfl ?_
      refine lc_aload_n C (pc' := 61) 0 dX4_isBattery_60 rfl rfl ?_
      refine lc_g197_typed C (pc' := 64) (va_up_self _ _ _) dX4_isBattery_61 kf_RX4_112 rfl ?_
      refine lc_icmp_ge C (pc' := 67) (tgt := 107) dX4_isBattery_64 (by decide) rfl (fun c64 => ?_) (fun c64 => ?_)
      · have h := (lc_if2 h).1 c64
        exact w_X4_isBattery_107 C   out   s h
      · have h := (lc_if2 h).2 c64
        refine lc_aload_n C (pc' := 68) 0 dX4_isBattery_67 rfl rfl ?_
        obtain ⟨r68, h68, h⟩ := lc_bde h
        refine lc_cvi C (pc' := 71) (r := r68) (M' := (va_up M 22 s)) (As := []) (rest := []) (c_X4_look S X.2.1 M    s r68 h68) kl_RX4_122 (lc_at197 S _) rfl rfl rfl rfl (Nat.le_of_ble_eq_true rfl) ⟨Nat.le_of_ble_eq_true rfl, Nat.le_of_ble_eq_true rfl⟩ ⟨rfl, rfl⟩ (lc_z2 _ _) dX4_isBattery_68 rfl ?_
        refine lc_bipush C (pc' := 73) (v := (99 : Int32)) dX4_isBattery_71 (by decide) rfl ?_
        refine lc_icmp_ne C (pc' := 76) (tgt := 83) dX4_isBattery_73 (by decide) rfl (fun c73 => ?_) (fun c73 => ?_)
        · have h := (lc_if2 h).2 c73
          refine lc_aload_n C (pc' := 84) 0 dX4_isBattery_83 rfl rfl ?_
          obtain ⟨r84, h84, h⟩ := lc_bde h
          refine lc_cvi C (pc' := 87) (r := r84) (M' := (va_up M 22 s)) (As := []) (rest := []) (c_X4_look S X.2.1 M    s r84 h84) kl_RX4_122 (lc_at197 S _) rfl rfl rfl rfl (Nat.le_of_ble_eq_true rfl) ⟨Nat.le_of_ble_eq_true rfl, Nat.le_of_ble_eq_true rfl⟩ ⟨rfl, rfl⟩ (lc_z2 _ _) dX4_isBattery_84 rfl ?_
          refine lc_bipush C (pc' := 89) (v := (108 : Int32)) dX4_isBattery_87 (by decide) rfl ?_
          refine lc_icmp_ne C (pc' := 92) (tgt := 99) dX4_isBattery_89 (by decide) rfl (fun c89 => ?_) (fun c89 => ?_)
          · have h := (lc_if2 h).2 c89
            refine lc_aload_n C (pc' := 100) 0 dX4_isBattery_99 rfl rfl ?_
            refine lc_iconst C (pc' := 101) (v := (0 : Int32)) dX4_isBattery_100 (by decide) rfl ?_
            obtain ⟨s4, h101, h⟩ := lc_bde h
            refine lc_cvv C (pc' := 104) (M' := (va_up M 22 s4)) (As := [.int (0 : Int32)]) (rest := []) (c_X4_must S X.2.1 M   (0 : Int32) s s4 h101) kl_RX4_125 (lc_at197 S _) rfl rfl rfl rfl (Nat.le_of_ble_eq_true rfl) ⟨Nat.le_of_ble_eq_true rfl, Nat.le_of_ble_eq_true rfl⟩ ⟨rfl, rfl⟩ (lc_z2 _ _) dX4_isBattery_101 rfl ?_
            refine lc_goto C (tgt := 49) dX4_isBattery_104 (by decide) ?_
            exact ih s4 h
          · have h := (lc_if2 h).1 c89
            refine lc_aload_n C (pc' := 93) 0 dX4_isBattery_92 rfl rfl ?_
            obtain ⟨s5, h93, h⟩ := lc_bde h
            refine lc_cvv C (pc' := 96) (M' := (va_up M 22 s5)) (As := []) (rest := []) (c_X4_readLoan S X.2.1 M    s s5 h93) kl_RX4_147 (lc_at197 S _) rfl rfl rfl rfl (Nat.le_of_ble_eq_true rfl) ⟨Nat.le_of_ble_eq_true rfl, Nat.le_of_ble_eq_true rfl⟩ ⟨rfl, rfl⟩ (lc_z2 _ _) dX4_isBattery_93 rfl ?_
            refine lc_goto C (tgt := 49) dX4_isBattery_96 (by decide) ?_
            exact ih s5 h
        · have h := (lc_if2 h).1 c73
          refine lc_aload_n C (pc' := 77) 0 dX4_isBattery_76 rfl rfl ?_
          obtain ⟨s6, h77, h⟩ := lc_bde h
          refine lc_cvv C (pc' := 80) (M' := (va_up M 22 s6)) (As := []) (rest := []) (c_X4_readCell S X.2.1 M    s s6 h77) kl_RX4_144 (lc_at197 S _) rfl rfl rfl rfl (Nat.le_of_ble_eq_true rfl) ⟨Nat.le_of_ble_eq_true rfl, Nat.le_of_ble_eq_true rfl⟩ ⟨rfl, rfl⟩ (lc_z2 _ _) dX4_isBattery_77 rfl ?_
          refine lc_goto C (tgt := 49) dX4_isBattery_80 (by decide) ?_
          exact ih s6 h
def P_X4_isBattery_46  (t1 : Int32) (s : lc_St) : Option (Int32 × lc_St) :=
  lc_bd (P_X4_must t1 s) (fun s3 => P_X4_isBattery_49  lc_FU s3)
set_option maxRecDepth 100000 in
set_option maxHeartbeats 4000000 in
theorem w_X4_isBattery_46 {S : lc_Se} {X : lc_X} (C : lc_C X cX4_isBattery RX4 2 (some .boolean) rm_X4_isBattery) {M : lc_MM}  (out : Int32 × lc_St)  : ∀ (t1 : Int32) (s : lc_St), P_X4_isBattery_46  t1 s = some out → lc_J S X 2 0 0 (lc_QI S X 0 0 out.1 (va_up M 22 out.2)) 46 [(0, .ref (lc_ad S 197))] [.int t1, .ref (lc_ad S 197)] (va_up M 22 s) := by
  intro t1 s h
  rw [P_X4_isBattery_46] at h
  obtain ⟨s3, h46, h⟩ := lc_bde h
  refine lc_cvv C (pc' := 49) (M' := (va_up M 22 s3)) (As := [.int t1]) (rest := []) (c_X4_must S X.2.1 M   t1 s s3 h46) kl_RX4_125 (lc_at197 S _) rfl rfl rfl rfl (Nat.le_of_ble_eq_true rfl) ⟨Nat.le_of_ble_eq_true rfl, Nat.le_of_ble_eq_true rfl⟩ ⟨rfl, rfl⟩ (lc_z2 _ _) dX4_isBattery_46 rfl ?_
  exact w_X4_isBattery_49 C   out  lc_FU s3 h
def P_X4_isBattery_2  : Nat → Int32 → lc_St → Option (Int32 × lc_St)
  | 0, _, _ => none
  | n + 1, x1, s =>
    if (107 : Int32) ≤ x1 then lc_let (lc_ss s 0 5 (0 : Int32)) (fun s1 => lc_let (lc_ss s1 0 6 (0 : Int32)) (fun s2 => lc_bd (P_X4_look  s2) (fun r33 => if r33 = (66 : Int32) then P_X4_isBattery_46   (1 : Int32) s2 else P_X4_isBattery_46   (0 : Int32) s2))) else lc_if (lc_ok x1 107) (lc_let (lc_ss s 1 (x1.toNatClampNeg) (0 : Int32)) (fun s7 => lc_let (x1 + (1 : Int32)) (fun x1_15 => P_X4_isBattery_2  n x1_15 s7)))
set_option maxRecDepth 100000 in
set_option maxHeartbeats 4000000 in
theorem w_X4_isBattery_2 {S : lc_Se} {X : lc_X} (C : lc_C X cX4_isBattery RX4 2 (some .boolean) rm_X4_isBattery) {M : lc_MM}  (out : Int32 × lc_St)  : ∀ (n : Nat) (x1 : Int32) (s : lc_St), P_X4_isBattery_2  n x1 s = some out → lc_J S X 2 0 0 (lc_QI S X 0 0 out.1 (va_up M 22 out.2)) 2 [(0, .ref (lc_ad S 197)), (1, .int x1)] [] (va_up M 22 s) := by
  intro n
  induction n with
  | zero =>
    intro x1 s h
    rw [P_X4_isBattery_2] at h
    cases h
  | succ n ih =>
    intro x1 s h
    rw [P_X4_isBattery_2] at h
    refine lc_iload_n C (pc' := 3) 1 dX4_isBattery_2 rfl rfl ?_
    refine lc_bipush C (pc' := 5) (v := (107 : Int32)) dX4_isBattery_3 (by decide) rfl ?_
    refine lc_icmp_ge C (pc' := 8) (tgt := 21) dX4_isBattery_5 (by decide) rfl (fun c5 => ?_) (fun c5 => ?_)
    · have h := (lc_if2 h).1 c5
      refine lc_aload_n C (pc' := 22) 0 dX4_isBattery_21 rfl rfl ?_
      refine lc_iconst C (pc' := 23) (v := (0 : Int32)) dX4_isBattery_22 (by decide) rfl ?_
      obtain ⟨s1, es1, h⟩ := lc_let2 h
      refine lc_p197_at C (pc' := 26) (M' := (va_up M 22 s1)) (va_up_self _ _ _) es1 (lc_up_up _ _ _ _) dX4_isBattery_23 kf_RX4_115 rfl ?_
      refine lc_aload_n C (pc' := 27) 0 dX4_isBattery_26 rfl rfl ?_
      refine lc_iconst C (pc' := 28) (v := (0 : Int32)) dX4_isBattery_27 (by decide) rfl ?_
      obtain ⟨s2, es2, h⟩ := lc_let2 h
      refine lc_p197_isStuck C (pc' := 31) (M' := (va_up M 22 s2)) (va_up_self _ _ _) es2 (lc_up_up _ _ _ _) (Or.inl rfl) dX4_isBattery_28 kf_RX4_118 rfl ?_
      refine lc_aload_n C (pc' := 32) 0 dX4_isBattery_31 rfl rfl ?_
      refine lc_aload_n C (pc' := 33) 0 dX4_isBattery_32 rfl rfl ?_
      obtain ⟨r33, h33, h⟩ := lc_bde h
      refine lc_cvi C (pc' := 36) (r := r33) (M' := (va_up M 22 s2)) (As := []) (rest := [.ref (lc_ad S 197)]) (c_X4_look S X.2.1 M    s2 r33 h33) kl_RX4_122 (lc_at197 S _) rfl rfl rfl rfl (Nat.le_of_ble_eq_true rfl) ⟨Nat.le_of_ble_eq_true rfl, Nat.le_of_ble_eq_true rfl⟩ ⟨rfl, rfl⟩ (lc_z2 _ _) dX4_isBattery_33 rfl ?_
      refine lc_bipush C (pc' := 38) (v := (66 : Int32)) dX4_isBattery_36 (by decide) rfl ?_
      refine lc_icmp_ne C (pc' := 41) (tgt := 45) dX4_isBattery_38 (by decide) rfl (fun c38 => ?_) (fun c38 => ?_)
      · have h := (lc_if2 h).2 c38
        refine lc_iconst C (pc' := 46) (v := (0 : Int32)) dX4_isBattery_45 (by decide) rfl ?_
        refine lc_sub (lo' := [(0, .ref (lc_ad S 197))]) [0] rfl ?_
        exact w_X4_isBattery_46 C   out   (0 : Int32) s2 h
      · have h := (lc_if2 h).1 c38
        refine lc_iconst C (pc' := 42) (v := (1 : Int32)) dX4_isBattery_41 (by decide) rfl ?_
        refine lc_goto C (tgt := 46) dX4_isBattery_42 (by decide) ?_
        refine lc_sub (lo' := [(0, .ref (lc_ad S 197))]) [0] rfl ?_
        exact w_X4_isBattery_46 C   out   (1 : Int32) s2 h
    · have h := (lc_if2 h).2 c5
      refine lc_aload_n C (pc' := 9) 0 dX4_isBattery_8 rfl rfl ?_
      refine lc_g197_now C (pc' := 12) (va_up_self _ _ _) dX4_isBattery_9 kf_RX4_7 rfl ?_
      refine lc_iload_n C (pc' := 13) 1 dX4_isBattery_12 rfl rfl ?_
      refine lc_iconst C (pc' := 14) (v := (0 : Int32)) dX4_isBattery_13 (by decide) rfl ?_
      obtain ⟨hi14, h⟩ := lc_ife h
      obtain ⟨s7, es7, h⟩ := lc_let2 h
      refine lc_sd198 C (pc' := 15) (jj := x1.toNatClampNeg) (M' := (va_up M 22 s7)) (va_up_self _ _ _) hi14 rfl es7 (lc_up_up _ _ _ _) dX4_isBattery_14 rfl ?_
      obtain ⟨x1_15, e1_15, h⟩ := lc_let2 h
      refine lc_iinc C (pc' := 18) (lo' := [(1, .int x1_15), (0, .ref (lc_ad S 197))]) (q := 1) dX4_isBattery_15 rfl (by rw [← e1_15]; rfl) (Nat.le_of_ble_eq_true rfl) rfl rfl ?_
      refine lc_goto C (tgt := 2) dX4_isBattery_18 (by decide) ?_
      refine lc_sub (lo' := [(0, .ref (lc_ad S 197)), (1, .int x1_15)]) [1, 0] rfl ?_
      exact ih x1_15 s7 h
def P_X4_isBattery   (s : lc_St) : Option (Int32 × lc_St) :=
  P_X4_isBattery_2  lc_FU (0 : Int32) s
set_option maxRecDepth 100000 in
set_option maxHeartbeats 4000000 in
theorem c_X4_isBattery (S : lc_Se) (l : Launch) (M : lc_MM)   (s : lc_St) (out : Int32 × lc_St) (h : P_X4_isBattery  s = some out) : lc_MI S l yX4_isBattery cX4_isBattery 2 (some .boolean) rm_X4_isBattery [.ref (lc_ad S 197)] (va_up M 22 s) out.1 (va_up M 22 out.2) := by
  refine lc_mkI (own := RX4) pn_RX4 rfl (Nat.le_of_ble_eq_true rfl) (lo := [(0, .ref (lc_ad S 197))]) rfl (fun X hX C => ?_)
  rw [P_X4_isBattery] at h
  refine lc_iconst C (pc' := 1) (v := (0 : Int32)) dX4_isBattery_0 (by decide) rfl ?_
  refine lc_istore_n C (pc' := 2) (lo' := [(1, .int (0 : Int32)), (0, .ref (lc_ad S 197))]) dX4_isBattery_1 (Nat.le_of_ble_eq_true rfl) rfl rfl ?_
  refine lc_sub (lo' := [(0, .ref (lc_ad S 197)), (1, .int (0 : Int32))]) [1, 0] rfl ?_
  exact w_X4_isBattery_2 C   out  lc_FU (0 : Int32) s h
abbrev rm_X4_errorPosition : Room := { frames := 5, cells := 0, slots := 0, locals := 118 }
def P_X4_errorPosition   (s : lc_St) : Option (Int32 × lc_St) :=
  lc_let (lc_ss s 0 0 (0 : Int32)) (fun s1 => lc_bd (P_X4_layPut  s1) (fun s2 => lc_bd2 (P_X4_isBattery  s2) (fun r10 s3 => lc_bd (P_X4_putBack  s3) (fun s4 => if r10 = 0 then some ((s4 0 5), s4) else some ((-9 : Int32), s4)))))
set_option maxRecDepth 100000 in
set_option maxHeartbeats 4000000 in
theorem c_X4_errorPosition (S : lc_Se) (l : Launch) (M : lc_MM)   (s : lc_St) (out : Int32 × lc_St) (h : P_X4_errorPosition  s = some out) : lc_MI S l yX4_errorPosition cX4_errorPosition 2 (some .int) rm_X4_errorPosition [.ref (lc_ad S 197)] (va_up M 22 s) out.1 (va_up M 22 out.2) := by
  refine lc_mkI (own := RX4) pn_RX4 rfl (Nat.le_of_ble_eq_true rfl) (lo := [(0, .ref (lc_ad S 197))]) rfl (fun X hX C => ?_)
  rw [P_X4_errorPosition] at h
  refine lc_aload_n C (pc' := 1) 0 dX4_errorPosition_0 rfl rfl ?_
  refine lc_iconst C (pc' := 2) (v := (0 : Int32)) dX4_errorPosition_1 (by decide) rfl ?_
  obtain ⟨s1, es1, h⟩ := lc_let2 h
  refine lc_p197_thrown C (pc' := 5) (M' := (va_up M 22 s1)) (va_up_self _ _ _) es1 (lc_up_up _ _ _ _) dX4_errorPosition_2 kf_RX4_35 rfl ?_
  refine lc_aload_n C (pc' := 6) 0 dX4_errorPosition_5 rfl rfl ?_
  obtain ⟨s2, h6, h⟩ := lc_bde h
  refine lc_cvv C (pc' := 9) (M' := (va_up M 22 s2)) (As := []) (rest := []) (c_X4_layPut S X.2.1 M    s1 s2 h6) kl_RX4_150 (lc_at197 S _) rfl rfl rfl rfl (Nat.le_of_ble_eq_true rfl) ⟨Nat.le_of_ble_eq_true rfl, Nat.le_of_ble_eq_true rfl⟩ ⟨rfl, rfl⟩ (lc_z2 _ _) dX4_errorPosition_6 rfl ?_
  refine lc_aload_n C (pc' := 10) 0 dX4_errorPosition_9 rfl rfl ?_
  obtain ⟨r10, s3, h10, h⟩ := lc_bd2e h
  refine lc_cvi C (pc' := 13) (r := r10) (M' := (va_up M 22 s3)) (As := []) (rest := []) (c_X4_isBattery S X.2.1 M    s2 (r10, s3) h10) kl_RX4_153 (lc_at197 S _) rfl rfl rfl rfl (Nat.le_of_ble_eq_true rfl) ⟨Nat.le_of_ble_eq_true rfl, Nat.le_of_ble_eq_true rfl⟩ ⟨rfl, rfl⟩ (lc_z2 _ _) dX4_errorPosition_10 rfl ?_
  refine lc_istore_n C (pc' := 14) (lo' := [(1, .int r10), (0, .ref (lc_ad S 197))]) dX4_errorPosition_13 (Nat.le_of_ble_eq_true rfl) rfl rfl ?_
  refine lc_aload_n C (pc' := 15) 1 dX4_errorPosition_14 rfl rfl ?_
  obtain ⟨s4, h15, h⟩ := lc_bde h
  refine lc_cvv C (pc' := 18) (M' := (va_up M 22 s4)) (As := []) (rest := []) (c_X4_putBack S X.2.1 M    s3 s4 h15) kl_RX4_157 (lc_at197 S _) rfl rfl rfl rfl (Nat.le_of_ble_eq_true rfl) ⟨Nat.le_of_ble_eq_true rfl, Nat.le_of_ble_eq_true rfl⟩ ⟨rfl, rfl⟩ (lc_z2 _ _) dX4_errorPosition_15 rfl ?_
  refine lc_iload_n C (pc' := 19) 0 dX4_errorPosition_18 rfl rfl ?_
  refine lc_if_eq C (pc' := 22) (tgt := 27) dX4_errorPosition_19 (by decide) rfl (fun c19 => ?_) (fun c19 => ?_)
  · have h := (lc_if2 h).1 c19
    refine lc_aload_n C (pc' := 28) 1 dX4_errorPosition_27 rfl rfl ?_
    refine lc_g197_at C (pc' := 31) (va_up_self _ _ _) dX4_errorPosition_28 kf_RX4_115 rfl ?_
    obtain rfl := Option.some.inj h
    exact lc_iret C rfl dX4_errorPosition_31
  · have h := (lc_if2 h).2 c19
    refine lc_bipush C (pc' := 24) (v := (-9 : Int32)) dX4_errorPosition_22 (by decide) rfl ?_
    refine lc_goto C (tgt := 31) dX4_errorPosition_24 (by decide) ?_
    obtain rfl := Option.some.inj h
    exact lc_iret C rfl dX4_errorPosition_31
abbrev rm_X4_load : Room := { frames := 5, cells := 0, slots := 0, locals := 118 }
def P_X4_load_17  (t1 : Int32) (s : lc_St) : Option (Int32 × lc_St) :=
  lc_let (lc_ss s 0 0 t1) (fun s3 => if (s3 0 0) ≤ 0 then lc_let (lc_ss s3 0 1 (0 : Int32)) (fun s4 => lc_let (lc_ss s4 4 0 (vp_nar .boolean (0 : Int32))) (fun s5 => lc_let (lc_ss s5 4 1 (vp_nar .boolean (0 : Int32))) (fun s6 => some ((s6 1 1), s6)))) else lc_bd (P_X4_putBack  s3) (fun s7 => some ((0 : Int32), s7)))
set_option maxRecDepth 100000 in
set_option maxHeartbeats 4000000 in
theorem w_X4_load_17 {S : lc_Se} {X : lc_X} (C : lc_C X cX4_load RX4 1 (some .int) rm_X4_load) {M : lc_MM}  (out : Int32 × lc_St)  : ∀ (t1 : Int32) (s : lc_St), P_X4_load_17  t1 s = some out → lc_J S X 1 0 0 (lc_QI S X 0 0 out.1 (va_up M 22 out.2)) 17 [(0, .ref (lc_ad S 197))] [.int t1, .ref (lc_ad S 197)] (va_up M 22 s) := by
  intro t1 s h
  rw [P_X4_load_17] at h
  obtain ⟨s3, es3, h⟩ := lc_let2 h
  refine lc_p197_thrown C (pc' := 20) (M' := (va_up M 22 s3)) (va_up_self _ _ _) es3 (lc_up_up _ _ _ _) dX4_load_17 kf_RX4_35 rfl ?_
  refine lc_aload_n C (pc' := 21) 0 dX4_load_20 rfl rfl ?_
  refine lc_g197_thrown C (pc' := 24) (va_up_self _ _ _) dX4_load_21 kf_RX4_35 rfl ?_
  refine lc_if_le C (pc' := 27) (tgt := 33) dX4_load_24 (by decide) rfl (fun c24 => ?_) (fun c24 => ?_)
  · have h := (lc_if2 h).1 c24
    refine lc_aload_n C (pc' := 34) 0 dX4_load_33 rfl rfl ?_
    refine lc_iconst C (pc' := 35) (v := (0 : Int32)) dX4_load_34 (by decide) rfl ?_
    obtain ⟨s4, es4, h⟩ := lc_let2 h
    refine lc_p197_acts C (pc' := 38) (M' := (va_up M 22 s4)) (va_up_self _ _ _) es4 (lc_up_up _ _ _ _) dX4_load_35 kf_RX4_47 rfl ?_
    refine lc_aload_n C (pc' := 39) 0 dX4_load_38 rfl rfl ?_
    refine lc_g197_isSaved C (pc' := 42) (va_up_self _ _ _) dX4_load_39 kf_RX4_19 rfl ?_
    refine lc_iconst C (pc' := 43) (v := (0 : Int32)) dX4_load_42 (by decide) rfl ?_
    refine lc_iconst C (pc' := 44) (v := (0 : Int32)) dX4_load_43 (by decide) rfl ?_
    obtain ⟨s5, es5, h⟩ := lc_let2 h
    refine lc_sd201 C (pc' := 45) (jj := 0) (M' := (va_up M 22 s5)) (va_up_self _ _ _) (by decide) (by decide) es5 (lc_up_up _ _ _ _) dX4_load_44 rfl ?_
    refine lc_aload_n C (pc' := 46) 0 dX4_load_45 rfl rfl ?_
    refine lc_g197_isSaved C (pc' := 49) (va_up_self _ _ _) dX4_load_46 kf_RX4_19 rfl ?_
    refine lc_iconst C (pc' := 50) (v := (1 : Int32)) dX4_load_49 (by decide) rfl ?_
    refine lc_iconst C (pc' := 51) (v := (0 : Int32)) dX4_load_50 (by decide) rfl ?_
    obtain ⟨s6, es6, h⟩ := lc_let2 h
    refine lc_sd201 C (pc' := 52) (jj := 1) (M' := (va_up M 22 s6)) (va_up_self _ _ _) (by decide) (by decide) es6 (lc_up_up _ _ _ _) dX4_load_51 rfl ?_
    refine lc_aload_n C (pc' := 53) 0 dX4_load_52 rfl rfl ?_
    refine lc_g197_now C (pc' := 56) (va_up_self _ _ _) dX4_load_53 kf_RX4_7 rfl ?_
    refine lc_iconst C (pc' := 57) (v := (1 : Int32)) dX4_load_56 (by decide) rfl ?_
    refine lc_ld198 C (pc' := 58) (jj := 1) (va_up_self _ _ _) (by decide) (by decide) dX4_load_57 rfl ?_
    obtain rfl := Option.some.inj h
    exact lc_iret C rfl dX4_load_58
  · have h := (lc_if2 h).2 c24
    refine lc_aload_n C (pc' := 28) 0 dX4_load_27 rfl rfl ?_
    obtain ⟨s7, h28, h⟩ := lc_bde h
    refine lc_cvv C (pc' := 31) (M' := (va_up M 22 s7)) (As := []) (rest := []) (c_X4_putBack S X.2.1 M    s3 s7 h28) kl_RX4_157 (lc_at197 S _) rfl rfl rfl rfl (Nat.le_of_ble_eq_true rfl) ⟨Nat.le_of_ble_eq_true rfl, Nat.le_of_ble_eq_true rfl⟩ ⟨rfl, rfl⟩ (lc_z2 _ _) dX4_load_28 rfl ?_
    refine lc_iconst C (pc' := 32) (v := (0 : Int32)) dX4_load_31 (by decide) rfl ?_
    obtain rfl := Option.some.inj h
    exact lc_iret C rfl dX4_load_32
def P_X4_load   (s : lc_St) : Option (Int32 × lc_St) :=
  lc_bd (P_X4_layPut  s) (fun s1 => lc_bd2 (P_X4_isBattery  s1) (fun r6 s2 => if r6 = 0 then P_X4_load_17   (1 : Int32) s2 else P_X4_load_17   (0 : Int32) s2))
set_option maxRecDepth 100000 in
set_option maxHeartbeats 4000000 in
theorem c_X4_load (S : lc_Se) (l : Launch) (M : lc_MM)   (s : lc_St) (out : Int32 × lc_St) (h : P_X4_load  s = some out) : lc_MI S l yX4_load cX4_load 1 (some .int) rm_X4_load [.ref (lc_ad S 197)] (va_up M 22 s) out.1 (va_up M 22 out.2) := by
  refine lc_mkI (own := RX4) pn_RX4 rfl (Nat.le_of_ble_eq_true rfl) (lo := [(0, .ref (lc_ad S 197))]) rfl (fun X hX C => ?_)
  rw [P_X4_load] at h
  refine lc_aload_n C (pc' := 1) 0 dX4_load_0 rfl rfl ?_
  obtain ⟨s1, h1, h⟩ := lc_bde h
  refine lc_cvv C (pc' := 4) (M' := (va_up M 22 s1)) (As := []) (rest := []) (c_X4_layPut S X.2.1 M    s s1 h1) kl_RX4_150 (lc_at197 S _) rfl rfl rfl rfl (Nat.le_of_ble_eq_true rfl) ⟨Nat.le_of_ble_eq_true rfl, Nat.le_of_ble_eq_true rfl⟩ ⟨rfl, rfl⟩ (lc_z2 _ _) dX4_load_1 rfl ?_
  refine lc_aload_n C (pc' := 5) 0 dX4_load_4 rfl rfl ?_
  refine lc_aload_n C (pc' := 6) 0 dX4_load_5 rfl rfl ?_
  obtain ⟨r6, s2, h6, h⟩ := lc_bd2e h
  refine lc_cvi C (pc' := 9) (r := r6) (M' := (va_up M 22 s2)) (As := []) (rest := [.ref (lc_ad S 197)]) (c_X4_isBattery S X.2.1 M    s1 (r6, s2) h6) kl_RX4_153 (lc_at197 S _) rfl rfl rfl rfl (Nat.le_of_ble_eq_true rfl) ⟨Nat.le_of_ble_eq_true rfl, Nat.le_of_ble_eq_true rfl⟩ ⟨rfl, rfl⟩ (lc_z2 _ _) dX4_load_6 rfl ?_
  refine lc_if_eq C (pc' := 12) (tgt := 16) dX4_load_9 (by decide) rfl (fun c9 => ?_) (fun c9 => ?_)
  · have h := (lc_if2 h).1 c9
    refine lc_iconst C (pc' := 17) (v := (1 : Int32)) dX4_load_16 (by decide) rfl ?_
    exact w_X4_load_17 C   out   (1 : Int32) s2 h
  · have h := (lc_if2 h).2 c9
    refine lc_iconst C (pc' := 13) (v := (0 : Int32)) dX4_load_12 (by decide) rfl ?_
    refine lc_goto C (tgt := 17) dX4_load_13 (by decide) ?_
    exact w_X4_load_17 C   out   (0 : Int32) s2 h
abbrev rm_X4_bankrupts : Room := { frames := 2, cells := 0, slots := 0, locals := 43 }
def P_X4_bankrupts_30 (K4 : Int32 → Int32 → lc_St → Option (Int32)) (x2 : Int32) (t0 : Int32) (t1 : Int32) (s : lc_St) : Option (Int32) :=
  lc_let (t0 ||| t1) (fun x1_31 => lc_let (x2 + (1 : Int32)) (fun x2_32 => K4 x1_31 x2_32 s))
set_option maxRecDepth 100000 in
set_option maxHeartbeats 4000000 in
theorem w_X4_bankrupts_30 {S : lc_Se} {X : lc_X} (C : lc_C X cX4_bankrupts RX4 3 (some .int) rm_X4_bankrupts) {M : lc_MM}  (out : Int32) (K4 : Int32 → Int32 → lc_St → Option (Int32)) (hK4 : ∀ (x1 : Int32) (x2 : Int32) (s : lc_St), K4 x1 x2 s = some out → lc_J S X 3 0 0 (lc_QI S X 0 0 out (va_up M 22 s)) 4 [(0, .ref (lc_ad S 197)), (1, .int x1), (2, .int x2)] [] (va_up M 22 s)) : ∀ (x2 : Int32) (t0 : Int32) (t1 : Int32) (s : lc_St), P_X4_bankrupts_30 K4 x2 t0 t1 s = some out → lc_J S X 3 0 0 (lc_QI S X 0 0 out (va_up M 22 s)) 30 [(0, .ref (lc_ad S 197)), (2, .int x2)] [.int t1, .int t0] (va_up M 22 s) := by
  intro x2 t0 t1 s h
  rw [P_X4_bankrupts_30] at h
  refine lc_ior C (pc' := 31) dX4_bankrupts_30 rfl ?_
  obtain ⟨x1_31, e1_31, h⟩ := lc_let2 h
  rw [e1_31]
  refine lc_istore_n C (pc' := 32) (lo' := [(1, .int x1_31), (0, .ref (lc_ad S 197)), (2, .int x2)]) dX4_bankrupts_31 (Nat.le_of_ble_eq_true rfl) rfl rfl ?_
  obtain ⟨x2_32, e2_32, h⟩ := lc_let2 h
  refine lc_iinc C (pc' := 35) (lo' := [(2, .int x2_32), (1, .int x1_31), (0, .ref (lc_ad S 197))]) (q := 2) dX4_bankrupts_32 rfl (by rw [← e2_32]; rfl) (Nat.le_of_ble_eq_true rfl) rfl rfl ?_
  refine lc_goto C (tgt := 4) dX4_bankrupts_35 (by decide) ?_
  refine lc_sub (lo' := [(0, .ref (lc_ad S 197)), (1, .int x1_31), (2, .int x2_32)]) [2, 1, 0] rfl ?_
  exact hK4 x1_31 x2_32 s h
def P_X4_bankrupts_4  : Nat → Int32 → Int32 → lc_St → Option (Int32)
  | 0, _, _, _ => none
  | n + 1, x1, x2, s =>
    if (s 1 1) ≤ x2 then some x1 else lc_bd (P_X4_isSound x2 s) (fun r17 => if r17 = 0 then P_X4_bankrupts_30 (fun x1 x2 s => P_X4_bankrupts_4  n x1 x2 s)  x2 x1 ((1 : Int32) <<< (x2 &&& 31)) s else P_X4_bankrupts_30 (fun x1 x2 s => P_X4_bankrupts_4  n x1 x2 s)  x2 x1 (0 : Int32) s)
set_option maxRecDepth 100000 in
set_option maxHeartbeats 4000000 in
theorem w_X4_bankrupts_4 {S : lc_Se} {X : lc_X} (C : lc_C X cX4_bankrupts RX4 3 (some .int) rm_X4_bankrupts) {M : lc_MM}  (out : Int32)  : ∀ (n : Nat) (x1 : Int32) (x2 : Int32) (s : lc_St), P_X4_bankrupts_4  n x1 x2 s = some out → lc_J S X 3 0 0 (lc_QI S X 0 0 out (va_up M 22 s)) 4 [(0, .ref (lc_ad S 197)), (1, .int x1), (2, .int x2)] [] (va_up M 22 s) := by
  intro n
  induction n with
  | zero =>
    intro x1 x2 s h
    rw [P_X4_bankrupts_4] at h
    cases h
  | succ n ih =>
    intro x1 x2 s h
    rw [P_X4_bankrupts_4] at h
    refine lc_iload_n C (pc' := 5) 2 dX4_bankrupts_4 rfl rfl ?_
    refine lc_aload_n C (pc' := 6) 0 dX4_bankrupts_5 rfl rfl ?_
    refine lc_g197_now C (pc' := 9) (va_up_self _ _ _) dX4_bankrupts_6 kf_RX4_7 rfl ?_
    refine lc_iconst C (pc' := 10) (v := (1 : Int32)) dX4_bankrupts_9 (by decide) rfl ?_
    refine lc_ld198 C (pc' := 11) (jj := 1) (va_up_self _ _ _) (by decide) (by decide) dX4_bankrupts_10 rfl ?_
    refine lc_icmp_ge C (pc' := 14) (tgt := 38) dX4_bankrupts_11 (by decide) rfl (fun c11 => ?_) (fun c11 => ?_)
    · have h := (lc_if2 h).1 c11
      refine lc_iload_n C (pc' := 39) 1 dX4_bankrupts_38 rfl rfl ?_
      obtain rfl := Option.some.inj h
      exact lc_iret C rfl dX4_bankrupts_39
    · have h := (lc_if2 h).2 c11
      refine lc_iload_n C (pc' := 15) 1 dX4_bankrupts_14 rfl rfl ?_
      refine lc_aload_n C (pc' := 16) 0 dX4_bankrupts_15 rfl rfl ?_
      refine lc_iload_n C (pc' := 17) 2 dX4_bankrupts_16 rfl rfl ?_
      obtain ⟨r17, h17, h⟩ := lc_bde h
      refine lc_cvi C (pc' := 20) (r := r17) (M' := (va_up M 22 s)) (As := [.int x2]) (rest := [.int x1]) (c_X4_isSound S X.2.1 M   x2 s r17 h17) kl_RX4_84 (lc_at197 S _) rfl rfl rfl rfl (Nat.le_of_ble_eq_true rfl) ⟨Nat.le_of_ble_eq_true rfl, Nat.le_of_ble_eq_true rfl⟩ ⟨rfl, rfl⟩ (lc_z2 _ _) dX4_bankrupts_17 rfl ?_
      refine lc_if_eq C (pc' := 23) (tgt := 27) dX4_bankrupts_20 (by decide) rfl (fun c20 => ?_) (fun c20 => ?_)
      · have h := (lc_if2 h).1 c20
        refine lc_iconst C (pc' := 28) (v := (1 : Int32)) dX4_bankrupts_27 (by decide) rfl ?_
        refine lc_iload_n C (pc' := 29) 2 dX4_bankrupts_28 rfl rfl ?_
        refine lc_ishl C (pc' := 30) dX4_bankrupts_29 rfl ?_
        refine lc_sub (lo' := [(0, .ref (lc_ad S 197)), (2, .int x2)]) [0, 2] rfl ?_
        exact w_X4_bankrupts_30 C   out (fun x1 x2 s => P_X4_bankrupts_4  n x1 x2 s) ih  x2 x1 ((1 : Int32) <<< (x2 &&& 31)) s h
      · have h := (lc_if2 h).2 c20
        refine lc_iconst C (pc' := 24) (v := (0 : Int32)) dX4_bankrupts_23 (by decide) rfl ?_
        refine lc_goto C (tgt := 30) dX4_bankrupts_24 (by decide) ?_
        refine lc_sub (lo' := [(0, .ref (lc_ad S 197)), (2, .int x2)]) [0, 2] rfl ?_
        exact w_X4_bankrupts_30 C   out (fun x1 x2 s => P_X4_bankrupts_4  n x1 x2 s) ih  x2 x1 (0 : Int32) s h
def P_X4_bankrupts   (s : lc_St) : Option (Int32) :=
  P_X4_bankrupts_4  lc_FU (0 : Int32) (0 : Int32) s
set_option maxRecDepth 100000 in
set_option maxHeartbeats 4000000 in
theorem c_X4_bankrupts (S : lc_Se) (l : Launch) (M : lc_MM)   (s : lc_St) (out : Int32) (h : P_X4_bankrupts  s = some out) : lc_MI S l yX4_bankrupts cX4_bankrupts 3 (some .int) rm_X4_bankrupts [.ref (lc_ad S 197)] (va_up M 22 s) out (va_up M 22 s) := by
  refine lc_mkI (own := RX4) pn_RX4 rfl (Nat.le_of_ble_eq_true rfl) (lo := [(0, .ref (lc_ad S 197))]) rfl (fun X hX C => ?_)
  rw [P_X4_bankrupts] at h
  refine lc_iconst C (pc' := 1) (v := (0 : Int32)) dX4_bankrupts_0 (by decide) rfl ?_
  refine lc_istore_n C (pc' := 2) (lo' := [(1, .int (0 : Int32)), (0, .ref (lc_ad S 197))]) dX4_bankrupts_1 (Nat.le_of_ble_eq_true rfl) rfl rfl ?_
  refine lc_iconst C (pc' := 3) (v := (0 : Int32)) dX4_bankrupts_2 (by decide) rfl ?_
  refine lc_istore_n C (pc' := 4) (lo' := [(2, .int (0 : Int32)), (1, .int (0 : Int32)), (0, .ref (lc_ad S 197))]) dX4_bankrupts_3 (Nat.le_of_ble_eq_true rfl) rfl rfl ?_
  refine lc_sub (lo' := [(0, .ref (lc_ad S 197)), (1, .int (0 : Int32)), (2, .int (0 : Int32))]) [2, 1, 0] rfl ?_
  exact w_X4_bankrupts_4 C   out  lc_FU (0 : Int32) (0 : Int32) s h
abbrev rm_X4_allOwed : Room := { frames := 1, cells := 0, slots := 0, locals := 22 }
def P_X4_allOwed_4  : Nat → Int32 → Int32 → lc_St → Option (Int32)
  | 0, _, _, _ => none
  | n + 1, x1, x2, s =>
    if (s 1 2) ≤ x2 then some x1 else lc_bd (P_X4_ofLoan x2 (2 : Int32) s) (fun r18 => lc_let (x1 + r18) (fun x1_22 => lc_let (x2 + (1 : Int32)) (fun x2_23 => P_X4_allOwed_4  n x1_22 x2_23 s)))
set_option maxRecDepth 100000 in
set_option maxHeartbeats 4000000 in
theorem w_X4_allOwed_4 {S : lc_Se} {X : lc_X} (C : lc_C X cX4_allOwed RX4 3 (some .int) rm_X4_allOwed) {M : lc_MM}  (out : Int32)  : ∀ (n : Nat) (x1 : Int32) (x2 : Int32) (s : lc_St), P_X4_allOwed_4  n x1 x2 s = some out → lc_J S X 3 0 0 (lc_QI S X 0 0 out (va_up M 22 s)) 4 [(0, .ref (lc_ad S 197)), (1, .int x1), (2, .int x2)] [] (va_up M 22 s) := by
  intro n
  induction n with
  | zero =>
    intro x1 x2 s h
    rw [P_X4_allOwed_4] at h
    cases h
  | succ n ih =>
    intro x1 x2 s h
    rw [P_X4_allOwed_4] at h
    refine lc_iload_n C (pc' := 5) 2 dX4_allOwed_4 rfl rfl ?_
    refine lc_aload_n C (pc' := 6) 0 dX4_allOwed_5 rfl rfl ?_
    refine lc_g197_now C (pc' := 9) (va_up_self _ _ _) dX4_allOwed_6 kf_RX4_7 rfl ?_
    refine lc_iconst C (pc' := 10) (v := (2 : Int32)) dX4_allOwed_9 (by decide) rfl ?_
    refine lc_ld198 C (pc' := 11) (jj := 2) (va_up_self _ _ _) (by decide) (by decide) dX4_allOwed_10 rfl ?_
    refine lc_icmp_ge C (pc' := 14) (tgt := 29) dX4_allOwed_11 (by decide) rfl (fun c11 => ?_) (fun c11 => ?_)
    · have h := (lc_if2 h).1 c11
      refine lc_iload_n C (pc' := 30) 1 dX4_allOwed_29 rfl rfl ?_
      obtain rfl := Option.some.inj h
      exact lc_iret C rfl dX4_allOwed_30
    · have h := (lc_if2 h).2 c11
      refine lc_iload_n C (pc' := 15) 1 dX4_allOwed_14 rfl rfl ?_
      refine lc_aload_n C (pc' := 16) 0 dX4_allOwed_15 rfl rfl ?_
      refine lc_iload_n C (pc' := 17) 2 dX4_allOwed_16 rfl rfl ?_
      refine lc_iconst C (pc' := 18) (v := (2 : Int32)) dX4_allOwed_17 (by decide) rfl ?_
      obtain ⟨r18, h18, h⟩ := lc_bde h
      refine lc_cvi C (pc' := 21) (r := r18) (M' := (va_up M 22 s)) (As := [.int x2, .int (2 : Int32)]) (rest := [.int x1]) (c_X4_ofLoan S X.2.1 M   x2 (2 : Int32) s r18 h18) kl_RX4_64 (lc_at197 S _) rfl rfl rfl rfl (Nat.le_of_ble_eq_true rfl) ⟨Nat.le_of_ble_eq_true rfl, Nat.le_of_ble_eq_true rfl⟩ ⟨rfl, rfl⟩ (lc_z2 _ _) dX4_allOwed_18 rfl ?_
      refine lc_iadd C (pc' := 22) dX4_allOwed_21 rfl ?_
      obtain ⟨x1_22, e1_22, h⟩ := lc_let2 h
      rw [e1_22]
      refine lc_istore_n C (pc' := 23) (lo' := [(1, .int x1_22), (0, .ref (lc_ad S 197)), (2, .int x2)]) dX4_allOwed_22 (Nat.le_of_ble_eq_true rfl) rfl rfl ?_
      obtain ⟨x2_23, e2_23, h⟩ := lc_let2 h
      refine lc_iinc C (pc' := 26) (lo' := [(2, .int x2_23), (1, .int x1_22), (0, .ref (lc_ad S 197))]) (q := 2) dX4_allOwed_23 rfl (by rw [← e2_23]; rfl) (Nat.le_of_ble_eq_true rfl) rfl rfl ?_
      refine lc_goto C (tgt := 4) dX4_allOwed_26 (by decide) ?_
      refine lc_sub (lo' := [(0, .ref (lc_ad S 197)), (1, .int x1_22), (2, .int x2_23)]) [2, 1, 0] rfl ?_
      exact ih x1_22 x2_23 s h
def P_X4_allOwed   (s : lc_St) : Option (Int32) :=
  P_X4_allOwed_4  lc_FU (0 : Int32) (0 : Int32) s
set_option maxRecDepth 100000 in
set_option maxHeartbeats 4000000 in
theorem c_X4_allOwed (S : lc_Se) (l : Launch) (M : lc_MM)   (s : lc_St) (out : Int32) (h : P_X4_allOwed  s = some out) : lc_MI S l yX4_allOwed cX4_allOwed 3 (some .int) rm_X4_allOwed [.ref (lc_ad S 197)] (va_up M 22 s) out (va_up M 22 s) := by
  refine lc_mkI (own := RX4) pn_RX4 rfl (Nat.le_of_ble_eq_true rfl) (lo := [(0, .ref (lc_ad S 197))]) rfl (fun X hX C => ?_)
  rw [P_X4_allOwed] at h
  refine lc_iconst C (pc' := 1) (v := (0 : Int32)) dX4_allOwed_0 (by decide) rfl ?_
  refine lc_istore_n C (pc' := 2) (lo' := [(1, .int (0 : Int32)), (0, .ref (lc_ad S 197))]) dX4_allOwed_1 (Nat.le_of_ble_eq_true rfl) rfl rfl ?_
  refine lc_iconst C (pc' := 3) (v := (0 : Int32)) dX4_allOwed_2 (by decide) rfl ?_
  refine lc_istore_n C (pc' := 4) (lo' := [(2, .int (0 : Int32)), (1, .int (0 : Int32)), (0, .ref (lc_ad S 197))]) dX4_allOwed_3 (Nat.le_of_ble_eq_true rfl) rfl rfl ?_
  refine lc_sub (lo' := [(0, .ref (lc_ad S 197)), (1, .int (0 : Int32)), (2, .int (0 : Int32))]) [2, 1, 0] rfl ?_
  exact w_X4_allOwed_4 C   out  lc_FU (0 : Int32) (0 : Int32) s h
abbrev rm_X4_about : Room := { frames := 3, cells := 0, slots := 0, locals := 65 }
def P_X4_about_16  (x1 : Int32) (t1 : Int32) (s : lc_St) : Option (Int32 × lc_St) :=
  lc_let (lc_ss s 0 0 t1) (fun s1 => if x1 = (0 : Int32) then some ((s1 1 1), s1) else if x1 = (1 : Int32) then some ((s1 1 2), s1) else if x1 = (2 : Int32) then some ((s1 1 0), s1) else if x1 = (3 : Int32) then lc_bd (P_X4_allCharge  s1) (fun r98 => some (r98, s1)) else if x1 = (4 : Int32) then some ((s1 1 3), s1) else if x1 = (5 : Int32) then some ((s1 1 4), s1) else if x1 = (6 : Int32) then some ((s1 1 5), s1) else if x1 = (7 : Int32) then lc_bd (P_X4_allOwed  s1) (fun r124 => some (r124, s1)) else if x1 = (8 : Int32) then some ((s1 1 6), s1) else if x1 = (9 : Int32) then lc_bd (P_X4_bankrupts  s1) (fun r137 => some (r137, s1)) else some ((0 : Int32), s1))
set_option maxRecDepth 100000 in
set_option maxHeartbeats 4000000 in
theorem w_X4_about_16 {S : lc_Se} {X : lc_X} (C : lc_C X cX4_about RX4 2 (some .int) rm_X4_about) {M : lc_MM}  (out : Int32 × lc_St)  : ∀ (x1 : Int32) (t1 : Int32) (s : lc_St), P_X4_about_16  x1 t1 s = some out → lc_J S X 2 0 0 (lc_QI S X 0 0 out.1 (va_up M 22 out.2)) 16 [(0, .ref (lc_ad S 197)), (1, .int x1)] [.int t1, .ref (lc_ad S 197)] (va_up M 22 s) := by
  intro x1 t1 s h
  rw [P_X4_about_16] at h
  obtain ⟨s1, es1, h⟩ := lc_let2 h
  refine lc_p197_thrown C (pc' := 19) (M' := (va_up M 22 s1)) (va_up_self _ _ _) es1 (lc_up_up _ _ _ _) dX4_about_16 kf_RX4_35 rfl ?_
  refine lc_iload_n C (pc' := 20) 1 dX4_about_19 rfl rfl ?_
  by_cases q20_0 : x1 = (0 : Int32)
  · have h := (lc_if2 h).1 q20_0
    refine lc_tabIn C (tgt := 76) dX4_about_20 (0 : Int) (by rw [q20_0]; decide) (by decide) (by decide) rfl (by decide) ?_
    refine lc_aload_n C (pc' := 77) 0 dX4_about_76 rfl rfl ?_
    refine lc_g197_now C (pc' := 80) (va_up_self _ _ _) dX4_about_77 kf_RX4_7 rfl ?_
    refine lc_iconst C (pc' := 81) (v := (1 : Int32)) dX4_about_80 (by decide) rfl ?_
    refine lc_ld198 C (pc' := 82) (jj := 1) (va_up_self _ _ _) (by decide) (by decide) dX4_about_81 rfl ?_
    obtain rfl := Option.some.inj h
    exact lc_iret C rfl dX4_about_82
  have h := (lc_if2 h).2 q20_0
  by_cases q20_1 : x1 = (1 : Int32)
  · have h := (lc_if2 h).1 q20_1
    refine lc_tabIn C (tgt := 83) dX4_about_20 (1 : Int) (by rw [q20_1]; decide) (by decide) (by decide) rfl (by decide) ?_
    refine lc_aload_n C (pc' := 84) 0 dX4_about_83 rfl rfl ?_
    refine lc_g197_now C (pc' := 87) (va_up_self _ _ _) dX4_about_84 kf_RX4_7 rfl ?_
    refine lc_iconst C (pc' := 88) (v := (2 : Int32)) dX4_about_87 (by decide) rfl ?_
    refine lc_ld198 C (pc' := 89) (jj := 2) (va_up_self _ _ _) (by decide) (by decide) dX4_about_88 rfl ?_
    obtain rfl := Option.some.inj h
    exact lc_iret C rfl dX4_about_89
  have h := (lc_if2 h).2 q20_1
  by_cases q20_2 : x1 = (2 : Int32)
  · have h := (lc_if2 h).1 q20_2
    refine lc_tabIn C (tgt := 90) dX4_about_20 (2 : Int) (by rw [q20_2]; decide) (by decide) (by decide) rfl (by decide) ?_
    refine lc_aload_n C (pc' := 91) 0 dX4_about_90 rfl rfl ?_
    refine lc_g197_now C (pc' := 94) (va_up_self _ _ _) dX4_about_91 kf_RX4_7 rfl ?_
    refine lc_iconst C (pc' := 95) (v := (0 : Int32)) dX4_about_94 (by decide) rfl ?_
    refine lc_ld198 C (pc' := 96) (jj := 0) (va_up_self _ _ _) (by decide) (by decide) dX4_about_95 rfl ?_
    obtain rfl := Option.some.inj h
    exact lc_iret C rfl dX4_about_96
  have h := (lc_if2 h).2 q20_2
  by_cases q20_3 : x1 = (3 : Int32)
  · have h := (lc_if2 h).1 q20_3
    refine lc_tabIn C (tgt := 97) dX4_about_20 (3 : Int) (by rw [q20_3]; decide) (by decide) (by decide) rfl (by decide) ?_
    refine lc_aload_n C (pc' := 98) 0 dX4_about_97 rfl rfl ?_
    obtain ⟨r98, h98, h⟩ := lc_bde h
    refine lc_cvi C (pc' := 101) (r := r98) (M' := (va_up M 22 s1)) (As := []) (rest := []) (c_X4_allCharge S X.2.1 M    s1 r98 h98) kl_RX4_160 (lc_at197 S _) rfl rfl rfl rfl (Nat.le_of_ble_eq_true rfl) ⟨Nat.le_of_ble_eq_true rfl, Nat.le_of_ble_eq_true rfl⟩ ⟨rfl, rfl⟩ (lc_z2 _ _) dX4_about_98 rfl ?_
    obtain rfl := Option.some.inj h
    exact lc_iret C rfl dX4_about_101
  have h := (lc_if2 h).2 q20_3
  by_cases q20_4 : x1 = (4 : Int32)
  · have h := (lc_if2 h).1 q20_4
    refine lc_tabIn C (tgt := 102) dX4_about_20 (4 : Int) (by rw [q20_4]; decide) (by decide) (by decide) rfl (by decide) ?_
    refine lc_aload_n C (pc' := 103) 0 dX4_about_102 rfl rfl ?_
    refine lc_g197_now C (pc' := 106) (va_up_self _ _ _) dX4_about_103 kf_RX4_7 rfl ?_
    refine lc_iconst C (pc' := 107) (v := (3 : Int32)) dX4_about_106 (by decide) rfl ?_
    refine lc_ld198 C (pc' := 108) (jj := 3) (va_up_self _ _ _) (by decide) (by decide) dX4_about_107 rfl ?_
    obtain rfl := Option.some.inj h
    exact lc_iret C rfl dX4_about_108
  have h := (lc_if2 h).2 q20_4
  by_cases q20_5 : x1 = (5 : Int32)
  · have h := (lc_if2 h).1 q20_5
    refine lc_tabIn C (tgt := 109) dX4_about_20 (5 : Int) (by rw [q20_5]; decide) (by decide) (by decide) rfl (by decide) ?_
    refine lc_aload_n C (pc' := 110) 0 dX4_about_109 rfl rfl ?_
    refine lc_g197_now C (pc' := 113) (va_up_self _ _ _) dX4_about_110 kf_RX4_7 rfl ?_
    refine lc_iconst C (pc' := 114) (v := (4 : Int32)) dX4_about_113 (by decide) rfl ?_
    refine lc_ld198 C (pc' := 115) (jj := 4) (va_up_self _ _ _) (by decide) (by decide) dX4_about_114 rfl ?_
    obtain rfl := Option.some.inj h
    exact lc_iret C rfl dX4_about_115
  have h := (lc_if2 h).2 q20_5
  by_cases q20_6 : x1 = (6 : Int32)
  · have h := (lc_if2 h).1 q20_6
    refine lc_tabIn C (tgt := 116) dX4_about_20 (6 : Int) (by rw [q20_6]; decide) (by decide) (by decide) rfl (by decide) ?_
    refine lc_aload_n C (pc' := 117) 0 dX4_about_116 rfl rfl ?_
    refine lc_g197_now C (pc' := 120) (va_up_self _ _ _) dX4_about_117 kf_RX4_7 rfl ?_
    refine lc_iconst C (pc' := 121) (v := (5 : Int32)) dX4_about_120 (by decide) rfl ?_
    refine lc_ld198 C (pc' := 122) (jj := 5) (va_up_self _ _ _) (by decide) (by decide) dX4_about_121 rfl ?_
    obtain rfl := Option.some.inj h
    exact lc_iret C rfl dX4_about_122
  have h := (lc_if2 h).2 q20_6
  by_cases q20_7 : x1 = (7 : Int32)
  · have h := (lc_if2 h).1 q20_7
    refine lc_tabIn C (tgt := 123) dX4_about_20 (7 : Int) (by rw [q20_7]; decide) (by decide) (by decide) rfl (by decide) ?_
    refine lc_aload_n C (pc' := 124) 0 dX4_about_123 rfl rfl ?_
    obtain ⟨r124, h124, h⟩ := lc_bde h
    refine lc_cvi C (pc' := 127) (r := r124) (M' := (va_up M 22 s1)) (As := []) (rest := []) (c_X4_allOwed S X.2.1 M    s1 r124 h124) kl_RX4_163 (lc_at197 S _) rfl rfl rfl rfl (Nat.le_of_ble_eq_true rfl) ⟨Nat.le_of_ble_eq_true rfl, Nat.le_of_ble_eq_true rfl⟩ ⟨rfl, rfl⟩ (lc_z2 _ _) dX4_about_124 rfl ?_
    obtain rfl := Option.some.inj h
    exact lc_iret C rfl dX4_about_127
  have h := (lc_if2 h).2 q20_7
  by_cases q20_8 : x1 = (8 : Int32)
  · have h := (lc_if2 h).1 q20_8
    refine lc_tabIn C (tgt := 128) dX4_about_20 (8 : Int) (by rw [q20_8]; decide) (by decide) (by decide) rfl (by decide) ?_
    refine lc_aload_n C (pc' := 129) 0 dX4_about_128 rfl rfl ?_
    refine lc_g197_now C (pc' := 132) (va_up_self _ _ _) dX4_about_129 kf_RX4_7 rfl ?_
    refine lc_bipush C (pc' := 134) (v := (6 : Int32)) dX4_about_132 (by decide) rfl ?_
    refine lc_ld198 C (pc' := 135) (jj := 6) (va_up_self _ _ _) (by decide) (by decide) dX4_about_134 rfl ?_
    obtain rfl := Option.some.inj h
    exact lc_iret C rfl dX4_about_135
  have h := (lc_if2 h).2 q20_8
  by_cases q20_9 : x1 = (9 : Int32)
  · have h := (lc_if2 h).1 q20_9
    refine lc_tabIn C (tgt := 136) dX4_about_20 (9 : Int) (by rw [q20_9]; decide) (by decide) (by decide) rfl (by decide) ?_
    refine lc_aload_n C (pc' := 137) 0 dX4_about_136 rfl rfl ?_
    obtain ⟨r137, h137, h⟩ := lc_bde h
    refine lc_cvi C (pc' := 140) (r := r137) (M' := (va_up M 22 s1)) (As := []) (rest := []) (c_X4_bankrupts S X.2.1 M    s1 r137 h137) kl_RX4_166 (lc_at197 S _) rfl rfl rfl rfl (Nat.le_of_ble_eq_true rfl) ⟨Nat.le_of_ble_eq_true rfl, Nat.le_of_ble_eq_true rfl⟩ ⟨rfl, rfl⟩ (lc_z2 _ _) dX4_about_137 rfl ?_
    obtain rfl := Option.some.inj h
    exact lc_iret C rfl dX4_about_140
  have h := (lc_if2 h).2 q20_9
  refine lc_tabOut C (tgt := 141) dX4_about_20 (by have n0 : x1.toInt ≠ 0 := fun q => q20_0 (Int32.toInt_inj.mp q); have n1 : x1.toInt ≠ 1 := fun q => q20_1 (Int32.toInt_inj.mp q); have n2 : x1.toInt ≠ 2 := fun q => q20_2 (Int32.toInt_inj.mp q); have n3 : x1.toInt ≠ 3 := fun q => q20_3 (Int32.toInt_inj.mp q); have n4 : x1.toInt ≠ 4 := fun q => q20_4 (Int32.toInt_inj.mp q); have n5 : x1.toInt ≠ 5 := fun q => q20_5 (Int32.toInt_inj.mp q); have n6 : x1.toInt ≠ 6 := fun q => q20_6 (Int32.toInt_inj.mp q); have n7 : x1.toInt ≠ 7 := fun q => q20_7 (Int32.toInt_inj.mp q); have n8 : x1.toInt ≠ 8 := fun q => q20_8 (Int32.toInt_inj.mp q); have n9 : x1.toInt ≠ 9 := fun q => q20_9 (Int32.toInt_inj.mp q); omega) (by decide) ?_
  refine lc_iconst C (pc' := 142) (v := (0 : Int32)) dX4_about_141 (by decide) rfl ?_
  obtain rfl := Option.some.inj h
  exact lc_iret C rfl dX4_about_142
def P_X4_about  (x1 : Int32) (s : lc_St) : Option (Int32 × lc_St) :=
  lc_bd (P_X4_in x1 (0 : Int32) (9 : Int32)) (fun r5 => if r5 = 0 then P_X4_about_16   x1 (1 : Int32) s else P_X4_about_16   x1 (0 : Int32) s)
set_option maxRecDepth 100000 in
set_option maxHeartbeats 4000000 in
theorem c_X4_about (S : lc_Se) (l : Launch) (M : lc_MM)  (x1 : Int32) (s : lc_St) (out : Int32 × lc_St) (h : P_X4_about x1 s = some out) : lc_MI S l yX4_about cX4_about 2 (some .int) rm_X4_about [.ref (lc_ad S 197), .int x1] (va_up M 22 s) out.1 (va_up M 22 out.2) := by
  refine lc_mkI (own := RX4) pn_RX4 rfl (Nat.le_of_ble_eq_true rfl) (lo := [(0, .ref (lc_ad S 197)), (1, .int x1)]) rfl (fun X hX C => ?_)
  rw [P_X4_about] at h
  refine lc_aload_n C (pc' := 1) 0 dX4_about_0 rfl rfl ?_
  refine lc_iload_n C (pc' := 2) 1 dX4_about_1 rfl rfl ?_
  refine lc_iconst C (pc' := 3) (v := (0 : Int32)) dX4_about_2 (by decide) rfl ?_
  refine lc_bipush C (pc' := 5) (v := (9 : Int32)) dX4_about_3 (by decide) rfl ?_
  obtain ⟨r5, h5, h⟩ := lc_bde h
  refine lc_csi C (pc' := 8) (r := r5) (M' := (va_up M 22 s)) (As := [.int x1, .int (0 : Int32), .int (9 : Int32)]) (rest := [.ref (lc_ad S 197)]) (c_X4_in S X.2.1 (va_up M 22 s)   x1 (0 : Int32) (9 : Int32)  r5 h5) kl_RX4_39 rfl rfl (Nat.le_of_ble_eq_true rfl) ⟨Nat.le_of_ble_eq_true rfl, Nat.le_of_ble_eq_true rfl⟩ ⟨rfl, rfl⟩ (lc_z2 _ _) dX4_about_5 rfl ?_
  refine lc_if_eq C (pc' := 11) (tgt := 15) dX4_about_8 (by decide) rfl (fun c8 => ?_) (fun c8 => ?_)
  · have h := (lc_if2 h).1 c8
    refine lc_iconst C (pc' := 16) (v := (1 : Int32)) dX4_about_15 (by decide) rfl ?_
    exact w_X4_about_16 C   out   x1 (1 : Int32) s h
  · have h := (lc_if2 h).2 c8
    refine lc_iconst C (pc' := 12) (v := (0 : Int32)) dX4_about_11 (by decide) rfl ?_
    refine lc_goto C (tgt := 16) dX4_about_12 (by decide) ?_
    exact w_X4_about_16 C   out   x1 (0 : Int32) s h
abbrev rm_X4_interestOf : Room := { frames := 2, cells := 0, slots := 0, locals := 43 }
def P_X4_interestOf_34 (K4 : Int32 → Int32 → Int32 → lc_St → Option (Int32)) (x1 : Int32) (x3 : Int32) (t0 : Int32) (t1 : Int32) (s : lc_St) : Option (Int32) :=
  lc_let (t0 + t1) (fun x2_35 => lc_let (x3 + (1 : Int32)) (fun x3_36 => K4 x1 x2_35 x3_36 s))
set_option maxRecDepth 100000 in
set_option maxHeartbeats 4000000 in
theorem w_X4_interestOf_34 {S : lc_Se} {X : lc_X} (C : lc_C X cX4_interestOf RX4 4 (some .int) rm_X4_interestOf) {M : lc_MM}  (out : Int32) (K4 : Int32 → Int32 → Int32 → lc_St → Option (Int32)) (hK4 : ∀ (x1 : Int32) (x2 : Int32) (x3 : Int32) (s : lc_St), K4 x1 x2 x3 s = some out → lc_J S X 4 0 0 (lc_QI S X 0 0 out (va_up M 22 s)) 4 [(0, .ref (lc_ad S 197)), (1, .int x1), (2, .int x2), (3, .int x3)] [] (va_up M 22 s)) : ∀ (x1 : Int32) (x3 : Int32) (t0 : Int32) (t1 : Int32) (s : lc_St), P_X4_interestOf_34 K4 x1 x3 t0 t1 s = some out → lc_J S X 4 0 0 (lc_QI S X 0 0 out (va_up M 22 s)) 34 [(0, .ref (lc_ad S 197)), (1, .int x1), (3, .int x3)] [.int t1, .int t0] (va_up M 22 s) := by
  intro x1 x3 t0 t1 s h
  rw [P_X4_interestOf_34] at h
  refine lc_iadd C (pc' := 35) dX4_interestOf_34 rfl ?_
  obtain ⟨x2_35, e2_35, h⟩ := lc_let2 h
  rw [e2_35]
  refine lc_istore_n C (pc' := 36) (lo' := [(2, .int x2_35), (0, .ref (lc_ad S 197)), (1, .int x1), (3, .int x3)]) dX4_interestOf_35 (Nat.le_of_ble_eq_true rfl) rfl rfl ?_
  obtain ⟨x3_36, e3_36, h⟩ := lc_let2 h
  refine lc_iinc C (pc' := 39) (lo' := [(3, .int x3_36), (2, .int x2_35), (0, .ref (lc_ad S 197)), (1, .int x1)]) (q := 3) dX4_interestOf_36 rfl (by rw [← e3_36]; rfl) (Nat.le_of_ble_eq_true rfl) rfl rfl ?_
  refine lc_goto C (tgt := 4) dX4_interestOf_39 (by decide) ?_
  refine lc_sub (lo' := [(0, .ref (lc_ad S 197)), (1, .int x1), (2, .int x2_35), (3, .int x3_36)]) [2, 3, 1, 0] rfl ?_
  exact hK4 x1 x2_35 x3_36 s h
def P_X4_interestOf_4  : Nat → Int32 → Int32 → Int32 → lc_St → Option (Int32)
  | 0, _, _, _, _ => none
  | n + 1, x1, x2, x3, s =>
    if (s 1 2) ≤ x3 then some x2 else lc_bd (P_X4_ofLoan x3 (1 : Int32) s) (fun r18 => if r18 = x1 then lc_bd (P_X4_interest x3 s) (fun r27 => P_X4_interestOf_34 (fun x1 x2 x3 s => P_X4_interestOf_4  n x1 x2 x3 s)  x1 x3 x2 r27 s) else P_X4_interestOf_34 (fun x1 x2 x3 s => P_X4_interestOf_4  n x1 x2 x3 s)  x1 x3 x2 (0 : Int32) s)
set_option maxRecDepth 100000 in
set_option maxHeartbeats 4000000 in
theorem w_X4_interestOf_4 {S : lc_Se} {X : lc_X} (C : lc_C X cX4_interestOf RX4 4 (some .int) rm_X4_interestOf) {M : lc_MM}  (out : Int32)  : ∀ (n : Nat) (x1 : Int32) (x2 : Int32) (x3 : Int32) (s : lc_St), P_X4_interestOf_4  n x1 x2 x3 s = some out → lc_J S X 4 0 0 (lc_QI S X 0 0 out (va_up M 22 s)) 4 [(0, .ref (lc_ad S 197)), (1, .int x1), (2, .int x2), (3, .int x3)] [] (va_up M 22 s) := by
  intro n
  induction n with
  | zero =>
    intro x1 x2 x3 s h
    rw [P_X4_interestOf_4] at h
    cases h
  | succ n ih =>
    intro x1 x2 x3 s h
    rw [P_X4_interestOf_4] at h
    refine lc_iload_n C (pc' := 5) 3 dX4_interestOf_4 rfl rfl ?_
    refine lc_aload_n C (pc' := 6) 0 dX4_interestOf_5 rfl rfl ?_
    refine lc_g197_now C (pc' := 9) (va_up_self _ _ _) dX4_interestOf_6 kf_RX4_7 rfl ?_
    refine lc_iconst C (pc' := 10) (v := (2 : Int32)) dX4_interestOf_9 (by decide) rfl ?_
    refine lc_ld198 C (pc' := 11) (jj := 2) (va_up_self _ _ _) (by decide) (by decide) dX4_interestOf_10 rfl ?_
    refine lc_icmp_ge C (pc' := 14) (tgt := 42) dX4_interestOf_11 (by decide) rfl (fun c11 => ?_) (fun c11 => ?_)
    · have h := (lc_if2 h).1 c11
      refine lc_iload_n C (pc' := 43) 2 dX4_interestOf_42 rfl rfl ?_
      obtain rfl := Option.some.inj h
      exact lc_iret C rfl dX4_interestOf_43
    · have h := (lc_if2 h).2 c11
      refine lc_iload_n C (pc' := 15) 2 dX4_interestOf_14 rfl rfl ?_
      refine lc_aload_n C (pc' := 16) 0 dX4_interestOf_15 rfl rfl ?_
      refine lc_iload_n C (pc' := 17) 3 dX4_interestOf_16 rfl rfl ?_
      refine lc_iconst C (pc' := 18) (v := (1 : Int32)) dX4_interestOf_17 (by decide) rfl ?_
      obtain ⟨r18, h18, h⟩ := lc_bde h
      refine lc_cvi C (pc' := 21) (r := r18) (M' := (va_up M 22 s)) (As := [.int x3, .int (1 : Int32)]) (rest := [.int x2]) (c_X4_ofLoan S X.2.1 M   x3 (1 : Int32) s r18 h18) kl_RX4_64 (lc_at197 S _) rfl rfl rfl rfl (Nat.le_of_ble_eq_true rfl) ⟨Nat.le_of_ble_eq_true rfl, Nat.le_of_ble_eq_true rfl⟩ ⟨rfl, rfl⟩ (lc_z2 _ _) dX4_interestOf_18 rfl ?_
      refine lc_iload_n C (pc' := 22) 1 dX4_interestOf_21 rfl rfl ?_
      refine lc_icmp_ne C (pc' := 25) (tgt := 33) dX4_interestOf_22 (by decide) rfl (fun c22 => ?_) (fun c22 => ?_)
      · have h := (lc_if2 h).2 c22
        refine lc_iconst C (pc' := 34) (v := (0 : Int32)) dX4_interestOf_33 (by decide) rfl ?_
        refine lc_sub (lo' := [(0, .ref (lc_ad S 197)), (1, .int x1), (3, .int x3)]) [0, 1, 3] rfl ?_
        exact w_X4_interestOf_34 C   out (fun x1 x2 x3 s => P_X4_interestOf_4  n x1 x2 x3 s) ih  x1 x3 x2 (0 : Int32) s h
      · have h := (lc_if2 h).1 c22
        refine lc_aload_n C (pc' := 26) 0 dX4_interestOf_25 rfl rfl ?_
        refine lc_iload_n C (pc' := 27) 3 dX4_interestOf_26 rfl rfl ?_
        obtain ⟨r27, h27, h⟩ := lc_bde h
        refine lc_cvi C (pc' := 30) (r := r27) (M' := (va_up M 22 s)) (As := [.int x3]) (rest := [.int x2]) (c_X4_interest S X.2.1 M   x3 s r27 h27) kl_RX4_67 (lc_at197 S _) rfl rfl rfl rfl (Nat.le_of_ble_eq_true rfl) ⟨Nat.le_of_ble_eq_true rfl, Nat.le_of_ble_eq_true rfl⟩ ⟨rfl, rfl⟩ (lc_z2 _ _) dX4_interestOf_27 rfl ?_
        refine lc_goto C (tgt := 34) dX4_interestOf_30 (by decide) ?_
        refine lc_sub (lo' := [(0, .ref (lc_ad S 197)), (1, .int x1), (3, .int x3)]) [0, 1, 3] rfl ?_
        exact w_X4_interestOf_34 C   out (fun x1 x2 x3 s => P_X4_interestOf_4  n x1 x2 x3 s) ih  x1 x3 x2 r27 s h
def P_X4_interestOf  (x1 : Int32) (s : lc_St) : Option (Int32) :=
  P_X4_interestOf_4  lc_FU x1 (0 : Int32) (0 : Int32) s
set_option maxRecDepth 100000 in
set_option maxHeartbeats 4000000 in
theorem c_X4_interestOf (S : lc_Se) (l : Launch) (M : lc_MM)  (x1 : Int32) (s : lc_St) (out : Int32) (h : P_X4_interestOf x1 s = some out) : lc_MI S l yX4_interestOf cX4_interestOf 4 (some .int) rm_X4_interestOf [.ref (lc_ad S 197), .int x1] (va_up M 22 s) out (va_up M 22 s) := by
  refine lc_mkI (own := RX4) pn_RX4 rfl (Nat.le_of_ble_eq_true rfl) (lo := [(0, .ref (lc_ad S 197)), (1, .int x1)]) rfl (fun X hX C => ?_)
  rw [P_X4_interestOf] at h
  refine lc_iconst C (pc' := 1) (v := (0 : Int32)) dX4_interestOf_0 (by decide) rfl ?_
  refine lc_istore_n C (pc' := 2) (lo' := [(2, .int (0 : Int32)), (0, .ref (lc_ad S 197)), (1, .int x1)]) dX4_interestOf_1 (Nat.le_of_ble_eq_true rfl) rfl rfl ?_
  refine lc_iconst C (pc' := 3) (v := (0 : Int32)) dX4_interestOf_2 (by decide) rfl ?_
  refine lc_istore_n C (pc' := 4) (lo' := [(3, .int (0 : Int32)), (2, .int (0 : Int32)), (0, .ref (lc_ad S 197)), (1, .int x1)]) dX4_interestOf_3 (Nat.le_of_ble_eq_true rfl) rfl rfl ?_
  refine lc_sub (lo' := [(0, .ref (lc_ad S 197)), (1, .int x1), (2, .int (0 : Int32)), (3, .int (0 : Int32))]) [2, 3, 1, 0] rfl ?_
  exact w_X4_interestOf_4 C   out  lc_FU x1 (0 : Int32) (0 : Int32) s h
abbrev rm_X4_kindOf : Room := { frames := 2, cells := 0, slots := 0, locals := 46 }
def P_X4_kindOf  (x1 : Int32) (s : lc_St) : Option (Int32) :=
  lc_bd (P_X4_isSound x1 s) (fun r2 => if r2 = 0 then some (3 : Int32) else lc_bd (P_X4_of x1 (3 : Int32) s) (fun r15 => if r15 ≤ 0 then lc_bd (P_X4_owedBy x1 (1 : Int32) s) (fun r28 => if r28 ≤ 0 then some (0 : Int32) else some (1 : Int32)) else some (2 : Int32)))
set_option maxRecDepth 100000 in
set_option maxHeartbeats 4000000 in
theorem c_X4_kindOf (S : lc_Se) (l : Launch) (M : lc_MM)  (x1 : Int32) (s : lc_St) (out : Int32) (h : P_X4_kindOf x1 s = some out) : lc_MI S l yX4_kindOf cX4_kindOf 2 (some .int) rm_X4_kindOf [.ref (lc_ad S 197), .int x1] (va_up M 22 s) out (va_up M 22 s) := by
  refine lc_mkI (own := RX4) pn_RX4 rfl (Nat.le_of_ble_eq_true rfl) (lo := [(0, .ref (lc_ad S 197)), (1, .int x1)]) rfl (fun X hX C => ?_)
  rw [P_X4_kindOf] at h
  refine lc_aload_n C (pc' := 1) 0 dX4_kindOf_0 rfl rfl ?_
  refine lc_iload_n C (pc' := 2) 1 dX4_kindOf_1 rfl rfl ?_
  obtain ⟨r2, h2, h⟩ := lc_bde h
  refine lc_cvi C (pc' := 5) (r := r2) (M' := (va_up M 22 s)) (As := [.int x1]) (rest := []) (c_X4_isSound S X.2.1 M   x1 s r2 h2) kl_RX4_84 (lc_at197 S _) rfl rfl rfl rfl (Nat.le_of_ble_eq_true rfl) ⟨Nat.le_of_ble_eq_true rfl, Nat.le_of_ble_eq_true rfl⟩ ⟨rfl, rfl⟩ (lc_z2 _ _) dX4_kindOf_2 rfl ?_
  refine lc_if_ne C (pc' := 8) (tgt := 12) dX4_kindOf_5 (by decide) rfl (fun c5 => ?_) (fun c5 => ?_)
  · have h := (lc_if2 h).2 c5
    refine lc_aload_n C (pc' := 13) 0 dX4_kindOf_12 rfl rfl ?_
    refine lc_iload_n C (pc' := 14) 1 dX4_kindOf_13 rfl rfl ?_
    refine lc_iconst C (pc' := 15) (v := (3 : Int32)) dX4_kindOf_14 (by decide) rfl ?_
    obtain ⟨r15, h15, h⟩ := lc_bde h
    refine lc_cvi C (pc' := 18) (r := r15) (M' := (va_up M 22 s)) (As := [.int x1, .int (3 : Int32)]) (rest := []) (c_X4_of S X.2.1 M   x1 (3 : Int32) s r15 h15) kl_RX4_43 (lc_at197 S _) rfl rfl rfl rfl (Nat.le_of_ble_eq_true rfl) ⟨Nat.le_of_ble_eq_true rfl, Nat.le_of_ble_eq_true rfl⟩ ⟨rfl, rfl⟩ (lc_z2 _ _) dX4_kindOf_15 rfl ?_
    refine lc_if_le C (pc' := 21) (tgt := 25) dX4_kindOf_18 (by decide) rfl (fun c18 => ?_) (fun c18 => ?_)
    · have h := (lc_if2 h).1 c18
      refine lc_aload_n C (pc' := 26) 0 dX4_kindOf_25 rfl rfl ?_
      refine lc_iload_n C (pc' := 27) 1 dX4_kindOf_26 rfl rfl ?_
      refine lc_iconst C (pc' := 28) (v := (1 : Int32)) dX4_kindOf_27 (by decide) rfl ?_
      obtain ⟨r28, h28, h⟩ := lc_bde h
      refine lc_cvi C (pc' := 31) (r := r28) (M' := (va_up M 22 s)) (As := [.int x1, .int (1 : Int32)]) (rest := []) (c_X4_owedBy S X.2.1 M   x1 (1 : Int32) s r28 h28) kl_RX4_74 (lc_at197 S _) rfl rfl rfl rfl (Nat.le_of_ble_eq_true rfl) ⟨Nat.le_of_ble_eq_true rfl, Nat.le_of_ble_eq_true rfl⟩ ⟨rfl, rfl⟩ (lc_z2 _ _) dX4_kindOf_28 rfl ?_
      refine lc_if_le C (pc' := 34) (tgt := 38) dX4_kindOf_31 (by decide) rfl (fun c31 => ?_) (fun c31 => ?_)
      · have h := (lc_if2 h).1 c31
        refine lc_iconst C (pc' := 39) (v := (0 : Int32)) dX4_kindOf_38 (by decide) rfl ?_
        obtain rfl := Option.some.inj h
        exact lc_iret C rfl dX4_kindOf_39
      · have h := (lc_if2 h).2 c31
        refine lc_iconst C (pc' := 35) (v := (1 : Int32)) dX4_kindOf_34 (by decide) rfl ?_
        refine lc_goto C (tgt := 39) dX4_kindOf_35 (by decide) ?_
        obtain rfl := Option.some.inj h
        exact lc_iret C rfl dX4_kindOf_39
    · have h := (lc_if2 h).2 c18
      refine lc_iconst C (pc' := 22) (v := (2 : Int32)) dX4_kindOf_21 (by decide) rfl ?_
      refine lc_goto C (tgt := 39) dX4_kindOf_22 (by decide) ?_
      obtain rfl := Option.some.inj h
      exact lc_iret C rfl dX4_kindOf_39
  · have h := (lc_if2 h).1 c5
    refine lc_iconst C (pc' := 9) (v := (3 : Int32)) dX4_kindOf_8 (by decide) rfl ?_
    refine lc_goto C (tgt := 39) dX4_kindOf_9 (by decide) ?_
    obtain rfl := Option.some.inj h
    exact lc_iret C rfl dX4_kindOf_39
abbrev rm_X4_cell : Room := { frames := 3, cells := 0, slots := 0, locals := 67 }
def P_X4_cell_28  (x1 : Int32) (x2 : Int32) (t1 : Int32) (s : lc_St) : Option (Int32 × lc_St) :=
  lc_let (lc_ss s 0 0 t1) (fun s1 => if (s1 0 0) ≤ 0 then if x2 = (4 : Int32) then lc_bd (P_X4_owedBy x1 (1 : Int32) s1) (fun r75 => some (r75, s1)) else if x2 = (5 : Int32) then lc_bd (P_X4_owedBy x1 (0 : Int32) s1) (fun r82 => some (r82, s1)) else if x2 = (6 : Int32) then lc_bd (P_X4_interestOf x1 s1) (fun r88 => some (r88, s1)) else if x2 = (7 : Int32) then lc_bd (P_X4_kindOf x1 s1) (fun r94 => some (r94, s1)) else lc_bd (P_X4_of x1 x2 s1) (fun r101 => some (r101, s1)) else some ((0 : Int32), s1))
set_option maxRecDepth 100000 in
set_option maxHeartbeats 4000000 in
theorem w_X4_cell_28 {S : lc_Se} {X : lc_X} (C : lc_C X cX4_cell RX4 3 (some .int) rm_X4_cell) {M : lc_MM}  (out : Int32 × lc_St)  : ∀ (x1 : Int32) (x2 : Int32) (t1 : Int32) (s : lc_St), P_X4_cell_28  x1 x2 t1 s = some out → lc_J S X 3 0 0 (lc_QI S X 0 0 out.1 (va_up M 22 out.2)) 28 [(0, .ref (lc_ad S 197)), (1, .int x1), (2, .int x2)] [.int t1, .ref (lc_ad S 197)] (va_up M 22 s) := by
  intro x1 x2 t1 s h
  rw [P_X4_cell_28] at h
  obtain ⟨s1, es1, h⟩ := lc_let2 h
  refine lc_p197_thrown C (pc' := 31) (M' := (va_up M 22 s1)) (va_up_self _ _ _) es1 (lc_up_up _ _ _ _) dX4_cell_28 kf_RX4_35 rfl ?_
  refine lc_aload_n C (pc' := 32) 0 dX4_cell_31 rfl rfl ?_
  refine lc_g197_thrown C (pc' := 35) (va_up_self _ _ _) dX4_cell_32 kf_RX4_35 rfl ?_
  refine lc_if_le C (pc' := 38) (tgt := 40) dX4_cell_35 (by decide) rfl (fun c35 => ?_) (fun c35 => ?_)
  · have h := (lc_if2 h).1 c35
    refine lc_iload_n C (pc' := 41) 2 dX4_cell_40 rfl rfl ?_
    by_cases q41_4 : x2 = (4 : Int32)
    · have h := (lc_if2 h).1 q41_4
      refine lc_tabIn C (tgt := 72) dX4_cell_41 (4 : Int) (by rw [q41_4]; decide) (by decide) (by decide) rfl (by decide) ?_
      refine lc_aload_n C (pc' := 73) 0 dX4_cell_72 rfl rfl ?_
      refine lc_iload_n C (pc' := 74) 1 dX4_cell_73 rfl rfl ?_
      refine lc_iconst C (pc' := 75) (v := (1 : Int32)) dX4_cell_74 (by decide) rfl ?_
      obtain ⟨r75, h75, h⟩ := lc_bde h
      refine lc_cvi C (pc' := 78) (r := r75) (M' := (va_up M 22 s1)) (As := [.int x1, .int (1 : Int32)]) (rest := []) (c_X4_owedBy S X.2.1 M   x1 (1 : Int32) s1 r75 h75) kl_RX4_74 (lc_at197 S _) rfl rfl rfl rfl (Nat.le_of_ble_eq_true rfl) ⟨Nat.le_of_ble_eq_true rfl, Nat.le_of_ble_eq_true rfl⟩ ⟨rfl, rfl⟩ (lc_z2 _ _) dX4_cell_75 rfl ?_
      obtain rfl := Option.some.inj h
      exact lc_iret C rfl dX4_cell_78
    have h := (lc_if2 h).2 q41_4
    by_cases q41_5 : x2 = (5 : Int32)
    · have h := (lc_if2 h).1 q41_5
      refine lc_tabIn C (tgt := 79) dX4_cell_41 (5 : Int) (by rw [q41_5]; decide) (by decide) (by decide) rfl (by decide) ?_
      refine lc_aload_n C (pc' := 80) 0 dX4_cell_79 rfl rfl ?_
      refine lc_iload_n C (pc' := 81) 1 dX4_cell_80 rfl rfl ?_
      refine lc_iconst C (pc' := 82) (v := (0 : Int32)) dX4_cell_81 (by decide) rfl ?_
      obtain ⟨r82, h82, h⟩ := lc_bde h
      refine lc_cvi C (pc' := 85) (r := r82) (M' := (va_up M 22 s1)) (As := [.int x1, .int (0 : Int32)]) (rest := []) (c_X4_owedBy S X.2.1 M   x1 (0 : Int32) s1 r82 h82) kl_RX4_74 (lc_at197 S _) rfl rfl rfl rfl (Nat.le_of_ble_eq_true rfl) ⟨Nat.le_of_ble_eq_true rfl, Nat.le_of_ble_eq_true rfl⟩ ⟨rfl, rfl⟩ (lc_z2 _ _) dX4_cell_82 rfl ?_
      obtain rfl := Option.some.inj h
      exact lc_iret C rfl dX4_cell_85
    have h := (lc_if2 h).2 q41_5
    by_cases q41_6 : x2 = (6 : Int32)
    · have h := (lc_if2 h).1 q41_6
      refine lc_tabIn C (tgt := 86) dX4_cell_41 (6 : Int) (by rw [q41_6]; decide) (by decide) (by decide) rfl (by decide) ?_
      refine lc_aload_n C (pc' := 87) 0 dX4_cell_86 rfl rfl ?_
      refine lc_iload_n C (pc' := 88) 1 dX4_cell_87 rfl rfl ?_
      obtain ⟨r88, h88, h⟩ := lc_bde h
      refine lc_cvi C (pc' := 91) (r := r88) (M' := (va_up M 22 s1)) (As := [.int x1]) (rest := []) (c_X4_interestOf S X.2.1 M   x1 s1 r88 h88) kl_RX4_169 (lc_at197 S _) rfl rfl rfl rfl (Nat.le_of_ble_eq_true rfl) ⟨Nat.le_of_ble_eq_true rfl, Nat.le_of_ble_eq_true rfl⟩ ⟨rfl, rfl⟩ (lc_z2 _ _) dX4_cell_88 rfl ?_
      obtain rfl := Option.some.inj h
      exact lc_iret C rfl dX4_cell_91
    have h := (lc_if2 h).2 q41_6
    by_cases q41_7 : x2 = (7 : Int32)
    · have h := (lc_if2 h).1 q41_7
      refine lc_tabIn C (tgt := 92) dX4_cell_41 (7 : Int) (by rw [q41_7]; decide) (by decide) (by decide) rfl (by decide) ?_
      refine lc_aload_n C (pc' := 93) 0 dX4_cell_92 rfl rfl ?_
      refine lc_iload_n C (pc' := 94) 1 dX4_cell_93 rfl rfl ?_
      obtain ⟨r94, h94, h⟩ := lc_bde h
      refine lc_cvi C (pc' := 97) (r := r94) (M' := (va_up M 22 s1)) (As := [.int x1]) (rest := []) (c_X4_kindOf S X.2.1 M   x1 s1 r94 h94) kl_RX4_172 (lc_at197 S _) rfl rfl rfl rfl (Nat.le_of_ble_eq_true rfl) ⟨Nat.le_of_ble_eq_true rfl, Nat.le_of_ble_eq_true rfl⟩ ⟨rfl, rfl⟩ (lc_z2 _ _) dX4_cell_94 rfl ?_
      obtain rfl := Option.some.inj h
      exact lc_iret C rfl dX4_cell_97
    have h := (lc_if2 h).2 q41_7
    refine lc_tabOut C (tgt := 98) dX4_cell_41 (by have n4 : x2.toInt ≠ 4 := fun q => q41_4 (Int32.toInt_inj.mp q); have n5 : x2.toInt ≠ 5 := fun q => q41_5 (Int32.toInt_inj.mp q); have n6 : x2.toInt ≠ 6 := fun q => q41_6 (Int32.toInt_inj.mp q); have n7 : x2.toInt ≠ 7 := fun q => q41_7 (Int32.toInt_inj.mp q); omega) (by decide) ?_
    refine lc_aload_n C (pc' := 99) 0 dX4_cell_98 rfl rfl ?_
    refine lc_iload_n C (pc' := 100) 1 dX4_cell_99 rfl rfl ?_
    refine lc_iload_n C (pc' := 101) 2 dX4_cell_100 rfl rfl ?_
    obtain ⟨r101, h101, h⟩ := lc_bde h
    refine lc_cvi C (pc' := 104) (r := r101) (M' := (va_up M 22 s1)) (As := [.int x1, .int x2]) (rest := []) (c_X4_of S X.2.1 M   x1 x2 s1 r101 h101) kl_RX4_43 (lc_at197 S _) rfl rfl rfl rfl (Nat.le_of_ble_eq_true rfl) ⟨Nat.le_of_ble_eq_true rfl, Nat.le_of_ble_eq_true rfl⟩ ⟨rfl, rfl⟩ (lc_z2 _ _) dX4_cell_101 rfl ?_
    obtain rfl := Option.some.inj h
    exact lc_iret C rfl dX4_cell_104
  · have h := (lc_if2 h).2 c35
    refine lc_iconst C (pc' := 39) (v := (0 : Int32)) dX4_cell_38 (by decide) rfl ?_
    obtain rfl := Option.some.inj h
    exact lc_iret C rfl dX4_cell_39
def P_X4_cell  (x1 : Int32) (x2 : Int32) (s : lc_St) : Option (Int32 × lc_St) :=
  lc_bd (P_X4_isCell x1 s) (fun r3 => if r3 = 0 then P_X4_cell_28   x1 x2 (1 : Int32) s else lc_bd (P_X4_in x2 (0 : Int32) (7 : Int32)) (fun r17 => if r17 = 0 then P_X4_cell_28   x1 x2 (2 : Int32) s else P_X4_cell_28   x1 x2 (0 : Int32) s))
set_option maxRecDepth 100000 in
set_option maxHeartbeats 4000000 in
theorem c_X4_cell (S : lc_Se) (l : Launch) (M : lc_MM)  (x1 : Int32) (x2 : Int32) (s : lc_St) (out : Int32 × lc_St) (h : P_X4_cell x1 x2 s = some out) : lc_MI S l yX4_cell cX4_cell 3 (some .int) rm_X4_cell [.ref (lc_ad S 197), .int x1, .int x2] (va_up M 22 s) out.1 (va_up M 22 out.2) := by
  refine lc_mkI (own := RX4) pn_RX4 rfl (Nat.le_of_ble_eq_true rfl) (lo := [(0, .ref (lc_ad S 197)), (1, .int x1), (2, .int x2)]) rfl (fun X hX C => ?_)
  rw [P_X4_cell] at h
  refine lc_aload_n C (pc' := 1) 0 dX4_cell_0 rfl rfl ?_
  refine lc_aload_n C (pc' := 2) 0 dX4_cell_1 rfl rfl ?_
  refine lc_iload_n C (pc' := 3) 1 dX4_cell_2 rfl rfl ?_
  obtain ⟨r3, h3, h⟩ := lc_bde h
  refine lc_cvi C (pc' := 6) (r := r3) (M' := (va_up M 22 s)) (As := [.int x1]) (rest := [.ref (lc_ad S 197)]) (c_X4_isCell S X.2.1 M   x1 s r3 h3) kl_RX4_135 (lc_at197 S _) rfl rfl rfl rfl (Nat.le_of_ble_eq_true rfl) ⟨Nat.le_of_ble_eq_true rfl, Nat.le_of_ble_eq_true rfl⟩ ⟨rfl, rfl⟩ (lc_z2 _ _) dX4_cell_3 rfl ?_
  refine lc_if_ne C (pc' := 9) (tgt := 13) dX4_cell_6 (by decide) rfl (fun c6 => ?_) (fun c6 => ?_)
  · have h := (lc_if2 h).2 c6
    refine lc_iload_n C (pc' := 14) 2 dX4_cell_13 rfl rfl ?_
    refine lc_iconst C (pc' := 15) (v := (0 : Int32)) dX4_cell_14 (by decide) rfl ?_
    refine lc_bipush C (pc' := 17) (v := (7 : Int32)) dX4_cell_15 (by decide) rfl ?_
    obtain ⟨r17, h17, h⟩ := lc_bde h
    refine lc_csi C (pc' := 20) (r := r17) (M' := (va_up M 22 s)) (As := [.int x2, .int (0 : Int32), .int (7 : Int32)]) (rest := [.ref (lc_ad S 197)]) (c_X4_in S X.2.1 (va_up M 22 s)   x2 (0 : Int32) (7 : Int32)  r17 h17) kl_RX4_39 rfl rfl (Nat.le_of_ble_eq_true rfl) ⟨Nat.le_of_ble_eq_true rfl, Nat.le_of_ble_eq_true rfl⟩ ⟨rfl, rfl⟩ (lc_z2 _ _) dX4_cell_17 rfl ?_
    refine lc_if_ne C (pc' := 23) (tgt := 27) dX4_cell_20 (by decide) rfl (fun c20 => ?_) (fun c20 => ?_)
    · have h := (lc_if2 h).2 c20
      refine lc_iconst C (pc' := 28) (v := (0 : Int32)) dX4_cell_27 (by decide) rfl ?_
      exact w_X4_cell_28 C   out   x1 x2 (0 : Int32) s h
    · have h := (lc_if2 h).1 c20
      refine lc_iconst C (pc' := 24) (v := (2 : Int32)) dX4_cell_23 (by decide) rfl ?_
      refine lc_goto C (tgt := 28) dX4_cell_24 (by decide) ?_
      exact w_X4_cell_28 C   out   x1 x2 (2 : Int32) s h
  · have h := (lc_if2 h).1 c6
    refine lc_iconst C (pc' := 10) (v := (1 : Int32)) dX4_cell_9 (by decide) rfl ?_
    refine lc_goto C (tgt := 28) dX4_cell_10 (by decide) ?_
    exact w_X4_cell_28 C   out   x1 x2 (1 : Int32) s h
abbrev rm_X4_loan : Room := { frames := 2, cells := 0, slots := 0, locals := 43 }
def P_X4_loan_27  (x1 : Int32) (x2 : Int32) (t1 : Int32) (s : lc_St) : Option (Int32 × lc_St) :=
  lc_let (lc_ss s 0 0 t1) (fun s1 => if (s1 0 0) ≤ 0 then if (4 : Int32) ≤ x2 then if x2 = (4 : Int32) then lc_bd (P_X4_interest x1 s1) (fun r60 => some (r60, s1)) else lc_bd (P_X4_ofLoan x1 (4 : Int32) s1) (fun r69 => some (r69, s1)) else lc_bd (P_X4_ofLoan x1 x2 s1) (fun r47 => some (r47, s1)) else some ((0 : Int32), s1))
set_option maxRecDepth 100000 in
set_option maxHeartbeats 4000000 in
theorem w_X4_loan_27 {S : lc_Se} {X : lc_X} (C : lc_C X cX4_loan RX4 3 (some .int) rm_X4_loan) {M : lc_MM}  (out : Int32 × lc_St)  : ∀ (x1 : Int32) (x2 : Int32) (t1 : Int32) (s : lc_St), P_X4_loan_27  x1 x2 t1 s = some out → lc_J S X 3 0 0 (lc_QI S X 0 0 out.1 (va_up M 22 out.2)) 27 [(0, .ref (lc_ad S 197)), (1, .int x1), (2, .int x2)] [.int t1, .ref (lc_ad S 197)] (va_up M 22 s) := by
  intro x1 x2 t1 s h
  rw [P_X4_loan_27] at h
  obtain ⟨s1, es1, h⟩ := lc_let2 h
  refine lc_p197_thrown C (pc' := 30) (M' := (va_up M 22 s1)) (va_up_self _ _ _) es1 (lc_up_up _ _ _ _) dX4_loan_27 kf_RX4_35 rfl ?_
  refine lc_aload_n C (pc' := 31) 0 dX4_loan_30 rfl rfl ?_
  refine lc_g197_thrown C (pc' := 34) (va_up_self _ _ _) dX4_loan_31 kf_RX4_35 rfl ?_
  refine lc_if_le C (pc' := 37) (tgt := 39) dX4_loan_34 (by decide) rfl (fun c34 => ?_) (fun c34 => ?_)
  · have h := (lc_if2 h).1 c34
    refine lc_iload_n C (pc' := 40) 2 dX4_loan_39 rfl rfl ?_
    refine lc_iconst C (pc' := 41) (v := (4 : Int32)) dX4_loan_40 (by decide) rfl ?_
    refine lc_icmp_ge C (pc' := 44) (tgt := 53) dX4_loan_41 (by decide) rfl (fun c41 => ?_) (fun c41 => ?_)
    · have h := (lc_if2 h).1 c41
      refine lc_iload_n C (pc' := 54) 2 dX4_loan_53 rfl rfl ?_
      refine lc_iconst C (pc' := 55) (v := (4 : Int32)) dX4_loan_54 (by decide) rfl ?_
      refine lc_icmp_ne C (pc' := 58) (tgt := 66) dX4_loan_55 (by decide) rfl (fun c55 => ?_) (fun c55 => ?_)
      · have h := (lc_if2 h).2 c55
        refine lc_aload_n C (pc' := 67) 0 dX4_loan_66 rfl rfl ?_
        refine lc_iload_n C (pc' := 68) 1 dX4_loan_67 rfl rfl ?_
        refine lc_iconst C (pc' := 69) (v := (4 : Int32)) dX4_loan_68 (by decide) rfl ?_
        obtain ⟨r69, h69, h⟩ := lc_bde h
        refine lc_cvi C (pc' := 72) (r := r69) (M' := (va_up M 22 s1)) (As := [.int x1, .int (4 : Int32)]) (rest := []) (c_X4_ofLoan S X.2.1 M   x1 (4 : Int32) s1 r69 h69) kl_RX4_64 (lc_at197 S _) rfl rfl rfl rfl (Nat.le_of_ble_eq_true rfl) ⟨Nat.le_of_ble_eq_true rfl, Nat.le_of_ble_eq_true rfl⟩ ⟨rfl, rfl⟩ (lc_z2 _ _) dX4_loan_69 rfl ?_
        obtain rfl := Option.some.inj h
        exact lc_iret C rfl dX4_loan_72
      · have h := (lc_if2 h).1 c55
        refine lc_aload_n C (pc' := 59) 0 dX4_loan_58 rfl rfl ?_
        refine lc_iload_n C (pc' := 60) 1 dX4_loan_59 rfl rfl ?_
        obtain ⟨r60, h60, h⟩ := lc_bde h
        refine lc_cvi C (pc' := 63) (r := r60) (M' := (va_up M 22 s1)) (As := [.int x1]) (rest := []) (c_X4_interest S X.2.1 M   x1 s1 r60 h60) kl_RX4_67 (lc_at197 S _) rfl rfl rfl rfl (Nat.le_of_ble_eq_true rfl) ⟨Nat.le_of_ble_eq_true rfl, Nat.le_of_ble_eq_true rfl⟩ ⟨rfl, rfl⟩ (lc_z2 _ _) dX4_loan_60 rfl ?_
        refine lc_goto C (tgt := 72) dX4_loan_63 (by decide) ?_
        obtain rfl := Option.some.inj h
        exact lc_iret C rfl dX4_loan_72
    · have h := (lc_if2 h).2 c41
      refine lc_aload_n C (pc' := 45) 0 dX4_loan_44 rfl rfl ?_
      refine lc_iload_n C (pc' := 46) 1 dX4_loan_45 rfl rfl ?_
      refine lc_iload_n C (pc' := 47) 2 dX4_loan_46 rfl rfl ?_
      obtain ⟨r47, h47, h⟩ := lc_bde h
      refine lc_cvi C (pc' := 50) (r := r47) (M' := (va_up M 22 s1)) (As := [.int x1, .int x2]) (rest := []) (c_X4_ofLoan S X.2.1 M   x1 x2 s1 r47 h47) kl_RX4_64 (lc_at197 S _) rfl rfl rfl rfl (Nat.le_of_ble_eq_true rfl) ⟨Nat.le_of_ble_eq_true rfl, Nat.le_of_ble_eq_true rfl⟩ ⟨rfl, rfl⟩ (lc_z2 _ _) dX4_loan_47 rfl ?_
      refine lc_goto C (tgt := 72) dX4_loan_50 (by decide) ?_
      obtain rfl := Option.some.inj h
      exact lc_iret C rfl dX4_loan_72
  · have h := (lc_if2 h).2 c34
    refine lc_iconst C (pc' := 38) (v := (0 : Int32)) dX4_loan_37 (by decide) rfl ?_
    obtain rfl := Option.some.inj h
    exact lc_iret C rfl dX4_loan_38
def P_X4_loan  (x1 : Int32) (x2 : Int32) (s : lc_St) : Option (Int32 × lc_St) :=
  lc_bd (P_X4_isLoan x1 s) (fun r3 => if r3 = 0 then P_X4_loan_27   x1 x2 (1 : Int32) s else lc_bd (P_X4_in x2 (0 : Int32) (5 : Int32)) (fun r16 => if r16 = 0 then P_X4_loan_27   x1 x2 (2 : Int32) s else P_X4_loan_27   x1 x2 (0 : Int32) s))
set_option maxRecDepth 100000 in
set_option maxHeartbeats 4000000 in
theorem c_X4_loan (S : lc_Se) (l : Launch) (M : lc_MM)  (x1 : Int32) (x2 : Int32) (s : lc_St) (out : Int32 × lc_St) (h : P_X4_loan x1 x2 s = some out) : lc_MI S l yX4_loan cX4_loan 3 (some .int) rm_X4_loan [.ref (lc_ad S 197), .int x1, .int x2] (va_up M 22 s) out.1 (va_up M 22 out.2) := by
  refine lc_mkI (own := RX4) pn_RX4 rfl (Nat.le_of_ble_eq_true rfl) (lo := [(0, .ref (lc_ad S 197)), (1, .int x1), (2, .int x2)]) rfl (fun X hX C => ?_)
  rw [P_X4_loan] at h
  refine lc_aload_n C (pc' := 1) 0 dX4_loan_0 rfl rfl ?_
  refine lc_aload_n C (pc' := 2) 0 dX4_loan_1 rfl rfl ?_
  refine lc_iload_n C (pc' := 3) 1 dX4_loan_2 rfl rfl ?_
  obtain ⟨r3, h3, h⟩ := lc_bde h
  refine lc_cvi C (pc' := 6) (r := r3) (M' := (va_up M 22 s)) (As := [.int x1]) (rest := [.ref (lc_ad S 197)]) (c_X4_isLoan S X.2.1 M   x1 s r3 h3) kl_RX4_175 (lc_at197 S _) rfl rfl rfl rfl (Nat.le_of_ble_eq_true rfl) ⟨Nat.le_of_ble_eq_true rfl, Nat.le_of_ble_eq_true rfl⟩ ⟨rfl, rfl⟩ (lc_z2 _ _) dX4_loan_3 rfl ?_
  refine lc_if_ne C (pc' := 9) (tgt := 13) dX4_loan_6 (by decide) rfl (fun c6 => ?_) (fun c6 => ?_)
  · have h := (lc_if2 h).2 c6
    refine lc_iload_n C (pc' := 14) 2 dX4_loan_13 rfl rfl ?_
    refine lc_iconst C (pc' := 15) (v := (0 : Int32)) dX4_loan_14 (by decide) rfl ?_
    refine lc_iconst C (pc' := 16) (v := (5 : Int32)) dX4_loan_15 (by decide) rfl ?_
    obtain ⟨r16, h16, h⟩ := lc_bde h
    refine lc_csi C (pc' := 19) (r := r16) (M' := (va_up M 22 s)) (As := [.int x2, .int (0 : Int32), .int (5 : Int32)]) (rest := [.ref (lc_ad S 197)]) (c_X4_in S X.2.1 (va_up M 22 s)   x2 (0 : Int32) (5 : Int32)  r16 h16) kl_RX4_39 rfl rfl (Nat.le_of_ble_eq_true rfl) ⟨Nat.le_of_ble_eq_true rfl, Nat.le_of_ble_eq_true rfl⟩ ⟨rfl, rfl⟩ (lc_z2 _ _) dX4_loan_16 rfl ?_
    refine lc_if_ne C (pc' := 22) (tgt := 26) dX4_loan_19 (by decide) rfl (fun c19 => ?_) (fun c19 => ?_)
    · have h := (lc_if2 h).2 c19
      refine lc_iconst C (pc' := 27) (v := (0 : Int32)) dX4_loan_26 (by decide) rfl ?_
      exact w_X4_loan_27 C   out   x1 x2 (0 : Int32) s h
    · have h := (lc_if2 h).1 c19
      refine lc_iconst C (pc' := 23) (v := (2 : Int32)) dX4_loan_22 (by decide) rfl ?_
      refine lc_goto C (tgt := 27) dX4_loan_23 (by decide) ?_
      exact w_X4_loan_27 C   out   x1 x2 (2 : Int32) s h
  · have h := (lc_if2 h).1 c6
    refine lc_iconst C (pc' := 10) (v := (1 : Int32)) dX4_loan_9 (by decide) rfl ?_
    refine lc_goto C (tgt := 27) dX4_loan_10 (by decide) ?_
    exact w_X4_loan_27 C   out   x1 x2 (1 : Int32) s h
abbrev rm_X4_order : Room := { frames := 2, cells := 0, slots := 0, locals := 43 }
def P_X4_order_126 (K24 : Int32 → Int32 → lc_St → Option (Int32 × lc_St)) (x1 : Int32) (x2 : Int32) (s : lc_St) : Option (Int32 × lc_St) :=
  lc_let (x2 + (1 : Int32)) (fun x2_126 => K24 x1 x2_126 s)
set_option maxRecDepth 100000 in
set_option maxHeartbeats 4000000 in
theorem w_X4_order_126 {S : lc_Se} {X : lc_X} (C : lc_C X cX4_order RX4 5 (some .int) rm_X4_order) {M : lc_MM}  (out : Int32 × lc_St) (K24 : Int32 → Int32 → lc_St → Option (Int32 × lc_St)) (hK24 : ∀ (x1 : Int32) (x2 : Int32) (s : lc_St), K24 x1 x2 s = some out → lc_J S X 5 0 0 (lc_QI S X 0 0 out.1 (va_up M 22 out.2)) 24 [(0, .ref (lc_ad S 197)), (1, .int x1), (2, .int x2)] [] (va_up M 22 s)) : ∀ (x1 : Int32) (x2 : Int32) (s : lc_St), P_X4_order_126 K24 x1 x2 s = some out → lc_J S X 5 0 0 (lc_QI S X 0 0 out.1 (va_up M 22 out.2)) 126 [(0, .ref (lc_ad S 197)), (1, .int x1), (2, .int x2)] [] (va_up M 22 s) := by
  intro x1 x2 s h
  rw [P_X4_order_126] at h
  obtain ⟨x2_126, e2_126, h⟩ := lc_let2 h
  refine lc_iinc C (pc' := 129) (lo' := [(2, .int x2_126), (0, .ref (lc_ad S 197)), (1, .int x1)]) (q := 2) dX4_order_126 rfl (by rw [← e2_126]; rfl) (Nat.le_of_ble_eq_true rfl) rfl rfl ?_
  refine lc_goto C (tgt := 24) dX4_order_129 (by decide) ?_
  refine lc_sub (lo' := [(0, .ref (lc_ad S 197)), (1, .int x1), (2, .int x2_126)]) [1, 2, 0] rfl ?_
  exact hK24 x1 x2_126 s h
def P_X4_order_103 (K39 : Int32 → Int32 → Int32 → Int32 → lc_St → Option (Int32 × lc_St)) (x1 : Int32) (x2 : Int32) (x4 : Int32) (t0 : Int32) (t1 : Int32) (s : lc_St) : Option (Int32 × lc_St) :=
  lc_let (t0 + t1) (fun x3_104 => lc_let (x4 + (1 : Int32)) (fun x4_105 => K39 x1 x2 x3_104 x4_105 s))
set_option maxRecDepth 100000 in
set_option maxHeartbeats 4000000 in
theorem w_X4_order_103 {S : lc_Se} {X : lc_X} (C : lc_C X cX4_order RX4 5 (some .int) rm_X4_order) {M : lc_MM}  (out : Int32 × lc_St) (K39 : Int32 → Int32 → Int32 → Int32 → lc_St → Option (Int32 × lc_St)) (hK39 : ∀ (x1 : Int32) (x2 : Int32) (x3 : Int32) (x4 : Int32) (s : lc_St), K39 x1 x2 x3 x4 s = some out → lc_J S X 5 0 0 (lc_QI S X 0 0 out.1 (va_up M 22 out.2)) 39 [(0, .ref (lc_ad S 197)), (1, .int x1), (2, .int x2), (3, .int x3), (4, .int x4)] [] (va_up M 22 s)) : ∀ (x1 : Int32) (x2 : Int32) (x4 : Int32) (t0 : Int32) (t1 : Int32) (s : lc_St), P_X4_order_103 K39 x1 x2 x4 t0 t1 s = some out → lc_J S X 5 0 0 (lc_QI S X 0 0 out.1 (va_up M 22 out.2)) 103 [(0, .ref (lc_ad S 197)), (1, .int x1), (2, .int x2), (4, .int x4)] [.int t1, .int t0] (va_up M 22 s) := by
  intro x1 x2 x4 t0 t1 s h
  rw [P_X4_order_103] at h
  refine lc_iadd C (pc' := 104) dX4_order_103 rfl ?_
  obtain ⟨x3_104, e3_104, h⟩ := lc_let2 h
  rw [e3_104]
  refine lc_istore_n C (pc' := 105) (lo' := [(3, .int x3_104), (0, .ref (lc_ad S 197)), (1, .int x1), (2, .int x2), (4, .int x4)]) dX4_order_104 (Nat.le_of_ble_eq_true rfl) rfl rfl ?_
  obtain ⟨x4_105, e4_105, h⟩ := lc_let2 h
  refine lc_iinc C (pc' := 108) (lo' := [(4, .int x4_105), (3, .int x3_104), (0, .ref (lc_ad S 197)), (1, .int x1), (2, .int x2)]) (q := 4) dX4_order_105 rfl (by rw [← e4_105]; rfl) (Nat.le_of_ble_eq_true rfl) rfl rfl ?_
  refine lc_goto C (tgt := 39) dX4_order_108 (by decide) ?_
  refine lc_sub (lo' := [(0, .ref (lc_ad S 197)), (1, .int x1), (2, .int x2), (3, .int x3_104), (4, .int x4_105)]) [2, 3, 4, 1, 0] rfl ?_
  exact hK39 x1 x2 x3_104 x4_105 s h
def P_X4_order_102 (K39 : Int32 → Int32 → Int32 → Int32 → lc_St → Option (Int32 × lc_St)) (x1 : Int32) (x2 : Int32) (x4 : Int32) (t0 : Int32) (s : lc_St) : Option (Int32 × lc_St) :=
  P_X4_order_103 K39  x1 x2 x4 t0 (0 : Int32) s
set_option maxRecDepth 100000 in
set_option maxHeartbeats 4000000 in
theorem w_X4_order_102 {S : lc_Se} {X : lc_X} (C : lc_C X cX4_order RX4 5 (some .int) rm_X4_order) {M : lc_MM}  (out : Int32 × lc_St) (K39 : Int32 → Int32 → Int32 → Int32 → lc_St → Option (Int32 × lc_St)) (hK39 : ∀ (x1 : Int32) (x2 : Int32) (x3 : Int32) (x4 : Int32) (s : lc_St), K39 x1 x2 x3 x4 s = some out → lc_J S X 5 0 0 (lc_QI S X 0 0 out.1 (va_up M 22 out.2)) 39 [(0, .ref (lc_ad S 197)), (1, .int x1), (2, .int x2), (3, .int x3), (4, .int x4)] [] (va_up M 22 s)) : ∀ (x1 : Int32) (x2 : Int32) (x4 : Int32) (t0 : Int32) (s : lc_St), P_X4_order_102 K39 x1 x2 x4 t0 s = some out → lc_J S X 5 0 0 (lc_QI S X 0 0 out.1 (va_up M 22 out.2)) 102 [(0, .ref (lc_ad S 197)), (1, .int x1), (2, .int x2), (4, .int x4)] [.int t0] (va_up M 22 s) := by
  intro x1 x2 x4 t0 s h
  rw [P_X4_order_102] at h
  refine lc_iconst C (pc' := 103) (v := (0 : Int32)) dX4_order_102 (by decide) rfl ?_
  exact w_X4_order_103 C   out K39 hK39  x1 x2 x4 t0 (0 : Int32) s h
def P_X4_order_98 (K39 : Int32 → Int32 → Int32 → Int32 → lc_St → Option (Int32 × lc_St)) (x1 : Int32) (x2 : Int32) (x4 : Int32) (t0 : Int32) (s : lc_St) : Option (Int32 × lc_St) :=
  P_X4_order_103 K39  x1 x2 x4 t0 (1 : Int32) s
set_option maxRecDepth 100000 in
set_option maxHeartbeats 4000000 in
theorem w_X4_order_98 {S : lc_Se} {X : lc_X} (C : lc_C X cX4_order RX4 5 (some .int) rm_X4_order) {M : lc_MM}  (out : Int32 × lc_St) (K39 : Int32 → Int32 → Int32 → Int32 → lc_St → Option (Int32 × lc_St)) (hK39 : ∀ (x1 : Int32) (x2 : Int32) (x3 : Int32) (x4 : Int32) (s : lc_St), K39 x1 x2 x3 x4 s = some out → lc_J S X 5 0 0 (lc_QI S X 0 0 out.1 (va_up M 22 out.2)) 39 [(0, .ref (lc_ad S 197)), (1, .int x1), (2, .int x2), (3, .int x3), (4, .int x4)] [] (va_up M 22 s)) : ∀ (x1 : Int32) (x2 : Int32) (x4 : Int32) (t0 : Int32) (s : lc_St), P_X4_order_98 K39 x1 x2 x4 t0 s = some out → lc_J S X 5 0 0 (lc_QI S X 0 0 out.1 (va_up M 22 out.2)) 98 [(0, .ref (lc_ad S 197)), (1, .int x1), (2, .int x2), (4, .int x4)] [.int t0] (va_up M 22 s) := by
  intro x1 x2 x4 t0 s h
  rw [P_X4_order_98] at h
  refine lc_iconst C (pc' := 99) (v := (1 : Int32)) dX4_order_98 (by decide) rfl ?_
  refine lc_goto C (tgt := 103) dX4_order_99 (by decide) ?_
  exact w_X4_order_103 C   out K39 hK39  x1 x2 x4 t0 (1 : Int32) s h
def P_X4_order_39 (K24 : Int32 → Int32 → lc_St → Option (Int32 × lc_St)) : Nat → Int32 → Int32 → Int32 → Int32 → lc_St → Option (Int32 × lc_St)
  | 0, _, _, _, _, _ => none
  | n + 1, x1, x2, x3, x4, s =>
    if (s 1 1) ≤ x4 then lc_bd (P_X4_isSound x2 s) (fun r113 => if r113 = 0 then P_X4_order_126 K24  x1 x2 s else if x3 = x1 then some (x2, s) else P_X4_order_126 K24  x1 x2 s) else lc_bd (P_X4_isSound x4 s) (fun r54 => if r54 = 0 then P_X4_order_102 (fun x1 x2 x3 x4 s => P_X4_order_39 K24 n x1 x2 x3 x4 s)  x1 x2 x4 x3 s else lc_bd (P_X4_of x4 (1 : Int32) s) (fun r64 => lc_bd (P_X4_of x2 (1 : Int32) s) (fun r70 => if r70 < r64 then P_X4_order_98 (fun x1 x2 x3 x4 s => P_X4_order_39 K24 n x1 x2 x3 x4 s)  x1 x2 x4 x3 s else lc_bd (P_X4_of x4 (1 : Int32) s) (fun r80 => lc_bd (P_X4_of x2 (1 : Int32) s) (fun r86 => if r80 = r86 then if x2 ≤ x4 then P_X4_order_102 (fun x1 x2 x3 x4 s => P_X4_order_39 K24 n x1 x2 x3 x4 s)  x1 x2 x4 x3 s else P_X4_order_98 (fun x1 x2 x3 x4 s => P_X4_order_39 K24 n x1 x2 x3 x4 s)  x1 x2 x4 x3 s else P_X4_order_102 (fun x1 x2 x3 x4 s => P_X4_order_39 K24 n x1 x2 x3 x4 s)  x1 x2 x4 x3 s)))))
set_option maxRecDepth 100000 in
set_option maxHeartbeats 4000000 in
theorem w_X4_order_39 {S : lc_Se} {X : lc_X} (C : lc_C X cX4_order RX4 5 (some .int) rm_X4_order) {M : lc_MM}  (out : Int32 × lc_St) (K24 : Int32 → Int32 → lc_St → Option (Int32 × lc_St)) (hK24 : ∀ (x1 : Int32) (x2 : Int32) (s : lc_St), K24 x1 x2 s = some out → lc_J S X 5 0 0 (lc_QI S X 0 0 out.1 (va_up M 22 out.2)) 24 [(0, .ref (lc_ad S 197)), (1, .int x1), (2, .int x2)] [] (va_up M 22 s)) : ∀ (n : Nat) (x1 : Int32) (x2 : Int32) (x3 : Int32) (x4 : Int32) (s : lc_St), P_X4_order_39 K24 n x1 x2 x3 x4 s = some out → lc_J S X 5 0 0 (lc_QI S X 0 0 out.1 (va_up M 22 out.2)) 39 [(0, .ref (lc_ad S 197)), (1, .int x1), (2, .int x2), (3, .int x3), (4, .int x4)] [] (va_up M 22 s) := by
  intro n
  induction n with
  | zero =>
    intro x1 x2 x3 x4 s h
    rw [P_X4_order_39] at h
    cases h
  | succ n ih =>
    intro x1 x2 x3 x4 s h
    rw [P_X4_order_39] at h
    refine lc_iload C (pc' := 41) 4 dX4_order_39 rfl rfl ?_
    refine lc_aload_n C (pc' := 42) 0 dX4_order_41 rfl rfl ?_
    refine lc_g197_now C (pc' := 45) (va_up_self _ _ _) dX4_order_42 kf_RX4_7 rfl ?_
    refine lc_iconst C (pc' := 46) (v := (1 : Int32)) dX4_order_45 (by decide) rfl ?_
    refine lc_ld198 C (pc' := 47) (jj := 1) (va_up_self _ _ _) (by decide) (by decide) dX4_order_46 rfl ?_
    refine lc_icmp_ge C (pc' := 50) (tgt := 111) dX4_order_47 (by decide) rfl (fun c47 => ?_) (fun c47 => ?_)
    · have h := (lc_if2 h).1 c47
      refine lc_aload_n C (pc' := 112) 0 dX4_order_111 rfl rfl ?_
      refine lc_iload_n C (pc' := 113) 2 dX4_order_112 rfl rfl ?_
      obtain ⟨r113, h113, h⟩ := lc_bde h
      refine lc_cvi C (pc' := 116) (r := r113) (M' := (va_up M 22 s)) (As := [.int x2]) (rest := []) (c_X4_isSound S X.2.1 M   x2 s r113 h113) kl_RX4_84 (lc_at197 S _) rfl rfl rfl rfl (Nat.le_of_ble_eq_true rfl) ⟨Nat.le_of_ble_eq_true rfl, Nat.le_of_ble_eq_true rfl⟩ ⟨rfl, rfl⟩ (lc_z2 _ _) dX4_order_113 rfl ?_
      refine lc_if_eq C (pc' := 119) (tgt := 126) dX4_order_116 (by decide) rfl (fun c116 => ?_) (fun c116 => ?_)
      · have h := (lc_if2 h).1 c116
        refine lc_sub (lo' := [(0, .ref (lc_ad S 197)), (1, .int x1), (2, .int x2)]) [0, 1, 2] rfl ?_
        exact w_X4_order_126 C   out K24 hK24  x1 x2 s h
      · have h := (lc_if2 h).2 c116
        refine lc_iload_n C (pc' := 120) 3 dX4_order_119 rfl rfl ?_
        refine lc_iload_n C (pc' := 121) 1 dX4_order_120 rfl rfl ?_
        refine lc_icmp_ne C (pc' := 124) (tgt := 126) dX4_order_121 (by decide) rfl (fun c121 => ?_) (fun c121 => ?_)
        · have h := (lc_if2 h).2 c121
          refine lc_sub (lo' := [(0, .ref (lc_ad S 197)), (1, .int x1), (2, .int x2)]) [0, 1, 2] rfl ?_
          exact w_X4_order_126 C   out K24 hK24  x1 x2 s h
        · have h := (lc_if2 h).1 c121
          refine lc_iload_n C (pc' := 125) 2 dX4_order_124 rfl rfl ?_
          obtain rfl := Option.some.inj h
          exact lc_iret C rfl dX4_order_125
    · have h := (lc_if2 h).2 c47
      refine lc_iload_n C (pc' := 51) 3 dX4_order_50 rfl rfl ?_
      refine lc_aload_n C (pc' := 52) 0 dX4_order_51 rfl rfl ?_
      refine lc_iload C (pc' := 54) 4 dX4_order_52 rfl rfl ?_
      obtain ⟨r54, h54, h⟩ := lc_bde h
      refine lc_cvi C (pc' := 57) (r := r54) (M' := (va_up M 22 s)) (As := [.int x4]) (rest := [.int x3]) (c_X4_isSound S X.2.1 M   x4 s r54 h54) kl_RX4_84 (lc_at197 S _) rfl rfl rfl rfl (Nat.le_of_ble_eq_true rfl) ⟨Nat.le_of_ble_eq_true rfl, Nat.le_of_ble_eq_true rfl⟩ ⟨rfl, rfl⟩ (lc_z2 _ _) dX4_order_54 rfl ?_
      refine lc_if_eq C (pc' := 60) (tgt := 102) dX4_order_57 (by decide) rfl (fun c57 => ?_) (fun c57 => ?_)
      · have h := (lc_if2 h).1 c57
        refine lc_sub (lo' := [(0, .ref (lc_ad S 197)), (1, .int x1), (2, .int x2), (4, .int x4)]) [0, 1, 2, 4] rfl ?_
        exact w_X4_order_102 C   out (fun x1 x2 x3 x4 s => P_X4_order_39 K24 n x1 x2 x3 x4 s) ih  x1 x2 x4 x3 s h
      · have h := (lc_if2 h).2 c57
        refine lc_aload_n C (pc' := 61) 0 dX4_order_60 rfl rfl ?_
        refine lc_iload C (pc' := 63) 4 dX4_order_61 rfl rfl ?_
        refine lc_iconst C (pc' := 64) (v := (1 : Int32)) dX4_order_63 (by decide) rfl ?_
        obtain ⟨r64, h64, h⟩ := lc_bde h
        refine lc_cvi C (pc' := 67) (r := r64) (M' := (va_up M 22 s)) (As := [.int x4, .int (1 : Int32)]) (rest := [.int x3]) (c_X4_of S X.2.1 M   x4 (1 : Int32) s r64 h64) kl_RX4_43 (lc_at197 S _) rfl rfl rfl rfl (Nat.le_of_ble_eq_true rfl) ⟨Nat.le_of_ble_eq_true rfl, Nat.le_of_ble_eq_true rfl⟩ ⟨rfl, rfl⟩ (lc_z2 _ _) dX4_order_64 rfl ?_
        refine lc_aload_n C (pc' := 68) 0 dX4_order_67 rfl rfl ?_
        refine lc_iload_n C (pc' := 69) 2 dX4_order_68 rfl rfl ?_
        refine lc_iconst C (pc' := 70) (v := (1 : Int32)) dX4_order_69 (by decide) rfl ?_
        obtain ⟨r70, h70, h⟩ := lc_bde h
        refine lc_cvi C (pc' := 73) (r := r70) (M' := (va_up M 22 s)) (As := [.int x2, .int (1 : Int32)]) (rest := [.int r64, .int x3]) (c_X4_of S X.2.1 M   x2 (1 : Int32) s r70 h70) kl_RX4_43 (lc_at197 S _) rfl rfl rfl rfl (Nat.le_of_ble_eq_true rfl) ⟨Nat.le_of_ble_eq_true rfl, Nat.le_of_ble_eq_true rfl⟩ ⟨rfl, rfl⟩ (lc_z2 _ _) dX4_order_70 rfl ?_
        refine lc_icmp_gt C (pc' := 76) (tgt := 98) dX4_order_73 (by decide) rfl (fun c73 => ?_) (fun c73 => ?_)
        · have h := (lc_if2 h).1 c73
          refine lc_sub (lo' := [(0, .ref (lc_ad S 197)), (1, .int x1), (2, .int x2), (4, .int x4)]) [0, 1, 2, 4] rfl ?_
          exact w_X4_order_98 C   out (fun x1 x2 x3 x4 s => P_X4_order_39 K24 n x1 x2 x3 x4 s) ih  x1 x2 x4 x3 s h
        · have h := (lc_if2 h).2 c73
          refine lc_aload_n C (pc' := 77) 0 dX4_order_76 rfl rfl ?_
          refine lc_iload C (pc' := 79) 4 dX4_order_77 rfl rfl ?_
          refine lc_iconst C (pc' := 80) (v := (1 : Int32)) dX4_order_79 (by decide) rfl ?_
          obtain ⟨r80, h80, h⟩ := lc_bde h
          refine lc_cvi C (pc' := 83) (r := r80) (M' := (va_up M 22 s)) (As := [.int x4, .int (1 : Int32)]) (rest := [.int x3]) (c_X4_of S X.2.1 M   x4 (1 : Int32) s r80 h80) kl_RX4_43 (lc_at197 S _) rfl rfl rfl rfl (Nat.le_of_ble_eq_true rfl) ⟨Nat.le_of_ble_eq_true rfl, Nat.le_of_ble_eq_true rfl⟩ ⟨rfl, rfl⟩ (lc_z2 _ _) dX4_order_80 rfl ?_
          refine lc_aload_n C (pc' := 84) 0 dX4_order_83 rfl rfl ?_
          refine lc_iload_n C (pc' := 85) 2 dX4_order_84 rfl rfl ?_
          refine lc_iconst C (pc' := 86) (v := (1 : Int32)) dX4_order_85 (by decide) rfl ?_
          obtain ⟨r86, h86, h⟩ := lc_bde h
          refine lc_cvi C (pc' := 89) (r := r86) (M' := (va_up M 22 s)) (As := [.int x2, .int (1 : Int32)]) (rest := [.int r80, .int x3]) (c_X4_of S X.2.1 M   x2 (1 : Int32) s r86 h86) kl_RX4_43 (lc_at197 S _) rfl rfl rfl rfl (Nat.le_of_ble_eq_true rfl) ⟨Nat.le_of_ble_eq_true rfl, Nat.le_of_ble_eq_true rfl⟩ ⟨rfl, rfl⟩ (lc_z2 _ _) dX4_order_86 rfl ?_
          refine lc_icmp_ne C (pc' := 92) (tgt := 102) dX4_order_89 (by decide) rfl (fun c89 => ?_) (fun c89 => ?_)
          · have h := (lc_if2 h).2 c89
            refine lc_sub (lo' := [(0, .ref (lc_ad S 197)), (1, .int x1), (2, .int x2), (4, .int x4)]) [0, 1, 2, 4] rfl ?_
            exact w_X4_order_102 C   out (fun x1 x2 x3 x4 s => P_X4_order_39 K24 n x1 x2 x3 x4 s) ih  x1 x2 x4 x3 s h
          · have h := (lc_if2 h).1 c89
            refine lc_iload C (pc' := 94) 4 dX4_order_92 rfl rfl ?_
            refine lc_iload_n C (pc' := 95) 2 dX4_order_94 rfl rfl ?_
            refine lc_icmp_ge C (pc' := 98) (tgt := 102) dX4_order_95 (by decide) rfl (fun c95 => ?_) (fun c95 => ?_)
            · have h := (lc_if2 h).1 c95
              refine lc_sub (lo' := [(0, .ref (lc_ad S 197)), (1, .int x1), (2, .int x2), (4, .int x4)]) [0, 1, 2, 4] rfl ?_
              exact w_X4_order_102 C   out (fun x1 x2 x3 x4 s => P_X4_order_39 K24 n x1 x2 x3 x4 s) ih  x1 x2 x4 x3 s h
            · have h := (lc_if2 h).2 c95
              refine lc_sub (lo' := [(0, .ref (lc_ad S 197)), (1, .int x1), (2, .int x2), (4, .int x4)]) [0, 1, 2, 4] rfl ?_
              exact w_X4_order_98 C   out (fun x1 x2 x3 x4 s => P_X4_order_39 K24 n x1 x2 x3 x4 s) ih  x1 x2 x4 x3 s h
def P_X4_order_24  : Nat → Int32 → Int32 → lc_St → Option (Int32 × lc_St)
  | 0, _, _, _ => none
  | n + 1, x1, x2, s =>
    if (s 1 1) ≤ x2 then some ((-9 : Int32), s) else P_X4_order_39 (fun x1 x2 s => P_X4_order_24  n x1 x2 s) lc_FU x1 x2 (0 : Int32) (0 : Int32) s
set_option maxRecDepth 100000 in
set_option maxHeartbeats 4000000 in
theorem w_X4_order_24 {S : lc_Se} {X : lc_X} (C : lc_C X cX4_order RX4 5 (some .int) rm_X4_order) {M : lc_MM}  (out : Int32 × lc_St)  : ∀ (n : Nat) (x1 : Int32) (x2 : Int32) (s : lc_St), P_X4_order_24  n x1 x2 s = some out → lc_J S X 5 0 0 (lc_QI S X 0 0 out.1 (va_up M 22 out.2)) 24 [(0, .ref (lc_ad S 197)), (1, .int x1), (2, .int x2)] [] (va_up M 22 s) := by
  intro n
  induction n with
  | zero =>
    intro x1 x2 s h
    rw [P_X4_order_24] at h
    cases h
  | succ n ih =>
    intro x1 x2 s h
    rw [P_X4_order_24] at h
    refine lc_iload_n C (pc' := 25) 2 dX4_order_24 rfl rfl ?_
    refine lc_aload_n C (pc' := 26) 0 dX4_order_25 rfl rfl ?_
    refine lc_g197_now C (pc' := 29) (va_up_self _ _ _) dX4_order_26 kf_RX4_7 rfl ?_
    refine lc_iconst C (pc' := 30) (v := (1 : Int32)) dX4_order_29 (by decide) rfl ?_
    refine lc_ld198 C (pc' := 31) (jj := 1) (va_up_self _ _ _) (by decide) (by decide) dX4_order_30 rfl ?_
    refine lc_icmp_ge C (pc' := 34) (tgt := 132) dX4_order_31 (by decide) rfl (fun c31 => ?_) (fun c31 => ?_)
    · have h := (lc_if2 h).1 c31
      refine lc_bipush C (pc' := 134) (v := (-9 : Int32)) dX4_order_132 (by decide) rfl ?_
      obtain rfl := Option.some.inj h
      exact lc_iret C rfl dX4_order_134
    · have h := (lc_if2 h).2 c31
      refine lc_iconst C (pc' := 35) (v := (0 : Int32)) dX4_order_34 (by decide) rfl ?_
      refine lc_istore_n C (pc' := 36) (lo' := [(3, .int (0 : Int32)), (0, .ref (lc_ad S 197)), (1, .int x1), (2, .int x2)]) dX4_order_35 (Nat.le_of_ble_eq_true rfl) rfl rfl ?_
      refine lc_iconst C (pc' := 37) (v := (0 : Int32)) dX4_order_36 (by decide) rfl ?_
      refine lc_istore C (pc' := 39) (lo' := [(4, .int (0 : Int32)), (3, .int (0 : Int32)), (0, .ref (lc_ad S 197)), (1, .int x1), (2, .int x2)]) dX4_order_37 (Nat.le_of_ble_eq_true rfl) rfl rfl ?_
      refine lc_sub (lo' := [(0, .ref (lc_ad S 197)), (1, .int x1), (2, .int x2), (3, .int (0 : Int32)), (4, .int (0 : Int32))]) [2, 3, 4, 1, 0] rfl ?_
      exact w_X4_order_39 C   out (fun x1 x2 s => P_X4_order_24  n x1 x2 s) ih lc_FU x1 x2 (0 : Int32) (0 : Int32) s h
def P_X4_order_10  (x1 : Int32) (t1 : Int32) (s : lc_St) : Option (Int32 × lc_St) :=
  lc_let (lc_ss s 0 0 t1) (fun s1 => if (s1 0 0) ≤ 0 then P_X4_order_24  lc_FU x1 (0 : Int32) s1 else some ((0 : Int32), s1))
set_option maxRecDepth 100000 in
set_option maxHeartbeats 4000000 in
theorem w_X4_order_10 {S : lc_Se} {X : lc_X} (C : lc_C X cX4_order RX4 5 (some .int) rm_X4_order) {M : lc_MM}  (out : Int32 × lc_St)  : ∀ (x1 : Int32) (t1 : Int32) (s : lc_St), P_X4_order_10  x1 t1 s = some out → lc_J S X 5 0 0 (lc_QI S X 0 0 out.1 (va_up M 22 out.2)) 10 [(0, .ref (lc_ad S 197)), (1, .int x1)] [.int t1, .ref (lc_ad S 197)] (va_up M 22 s) := by
  intro x1 t1 s h
  rw [P_X4_order_10] at h
  obtain ⟨s1, es1, h⟩ := lc_let2 h
  refine lc_p197_thrown C (pc' := 13) (M' := (va_up M 22 s1)) (va_up_self _ _ _) es1 (lc_up_up _ _ _ _) dX4_order_10 kf_RX4_35 rfl ?_
  refine lc_aload_n C (pc' := 14) 0 dX4_order_13 rfl rfl ?_
  refine lc_g197_thrown C (pc' := 17) (va_up_self _ _ _) dX4_order_14 kf_RX4_35 rfl ?_
  refine lc_if_le C (pc' := 20) (tgt := 22) dX4_order_17 (by decide) rfl (fun c17 => ?_) (fun c17 => ?_)
  · have h := (lc_if2 h).1 c17
    refine lc_iconst C (pc' := 23) (v := (0 : Int32)) dX4_order_22 (by decide) rfl ?_
    refine lc_istore_n C (pc' := 24) (lo' := [(2, .int (0 : Int32)), (0, .ref (lc_ad S 197)), (1, .int x1)]) dX4_order_23 (Nat.le_of_ble_eq_true rfl) rfl rfl ?_
    refine lc_sub (lo' := [(0, .ref (lc_ad S 197)), (1, .int x1), (2, .int (0 : Int32))]) [1, 2, 0] rfl ?_
    exact w_X4_order_24 C   out  lc_FU x1 (0 : Int32) s1 h
  · have h := (lc_if2 h).2 c17
    refine lc_iconst C (pc' := 21) (v := (0 : Int32)) dX4_order_20 (by decide) rfl ?_
    obtain rfl := Option.some.inj h
    exact lc_iret C rfl dX4_order_21
def P_X4_order  (x1 : Int32) (s : lc_St) : Option (Int32 × lc_St) :=
  if 0 ≤ x1 then P_X4_order_10   x1 (0 : Int32) s else P_X4_order_10   x1 (1 : Int32) s
set_option maxRecDepth 100000 in
set_option maxHeartbeats 4000000 in
theorem c_X4_order (S : lc_Se) (l : Launch) (M : lc_MM)  (x1 : Int32) (s : lc_St) (out : Int32 × lc_St) (h : P_X4_order x1 s = some out) : lc_MI S l yX4_order cX4_order 5 (some .int) rm_X4_order [.ref (lc_ad S 197), .int x1] (va_up M 22 s) out.1 (va_up M 22 out.2) := by
  refine lc_mkI (own := RX4) pn_RX4 rfl (Nat.le_of_ble_eq_true rfl) (lo := [(0, .ref (lc_ad S 197)), (1, .int x1)]) rfl (fun X hX C => ?_)
  rw [P_X4_order] at h
  refine lc_aload_n C (pc' := 1) 0 dX4_order_0 rfl rfl ?_
  refine lc_iload_n C (pc' := 2) 1 dX4_order_1 rfl rfl ?_
  refine lc_if_ge C (pc' := 5) (tgt := 9) dX4_order_2 (by decide) rfl (fun c2 => ?_) (fun c2 => ?_)
  · have h := (lc_if2 h).1 c2
    refine lc_iconst C (pc' := 10) (v := (0 : Int32)) dX4_order_9 (by decide) rfl ?_
    exact w_X4_order_10 C   out   x1 (0 : Int32) s h
  · have h := (lc_if2 h).2 c2
    refine lc_iconst C (pc' := 6) (v := (1 : Int32)) dX4_order_5 (by decide) rfl ?_
    refine lc_goto C (tgt := 10) dX4_order_6 (by decide) ?_
    exact w_X4_order_10 C   out   x1 (1 : Int32) s h
abbrev rm_X4_addCell : Room := { frames := 1, cells := 0, slots := 0, locals := 25 }
def P_X4_addCell_50  (x1 : Int32) (x2 : Int32) (x3 : Int32) (t1 : Int32) (s : lc_St) : Option (Int32 × lc_St) :=
  lc_let (lc_ss s 0 0 t1) (fun s1 => if (s1 0 0) ≤ 0 then lc_bd (P_X4_remember  s1) (fun s2 => lc_bd2 (P_X4_newCell x1 x2 x3 s2) (fun r70 s3 => some (r70, s3))) else some ((0 : Int32), s1))
set_option maxRecDepth 100000 in
set_option maxHeartbeats 4000000 in
theorem w_X4_addCell_50 {S : lc_Se} {X : lc_X} (C : lc_C X cX4_addCell RX4 4 (some .int) rm_X4_addCell) {M : lc_MM}  (out : Int32 × lc_St)  : ∀ (x1 : Int32) (x2 : Int32) (x3 : Int32) (t1 : Int32) (s : lc_St), P_X4_addCell_50  x1 x2 x3 t1 s = some out → lc_J S X 4 0 0 (lc_QI S X 0 0 out.1 (va_up M 22 out.2)) 50 [(0, .ref (lc_ad S 197)), (1, .int x1), (2, .int x2), (3, .int x3)] [.int t1, .ref (lc_ad S 197)] (va_up M 22 s) := by
  intro x1 x2 x3 t1 s h
  rw [P_X4_addCell_50] at h
  obtain ⟨s1, es1, h⟩ := lc_let2 h
  refine lc_p197_thrown C (pc' := 53) (M' := (va_up M 22 s1)) (va_up_self _ _ _) es1 (lc_up_up _ _ _ _) dX4_addCell_50 kf_RX4_35 rfl ?_
  refine lc_aload_n C (pc' := 54) 0 dX4_addCell_53 rfl rfl ?_
  refine lc_g197_thrown C (pc' := 57) (va_up_self _ _ _) dX4_addCell_54 kf_RX4_35 rfl ?_
  refine lc_if_le C (pc' := 60) (tgt := 62) dX4_addCell_57 (by decide) rfl (fun c57 => ?_) (fun c57 => ?_)
  · have h := (lc_if2 h).1 c57
    refine lc_aload_n C (pc' := 63) 0 dX4_addCell_62 rfl rfl ?_
    obtain ⟨s2, h63, h⟩ := lc_bde h
    refine lc_cvv C (pc' := 66) (M' := (va_up M 22 s2)) (As := []) (rest := []) (c_X4_remember S X.2.1 M    s1 s2 h63) kl_RX4_178 (lc_at197 S _) rfl rfl rfl rfl (Nat.le_of_ble_eq_true rfl) ⟨Nat.le_of_ble_eq_true rfl, Nat.le_of_ble_eq_true rfl⟩ ⟨rfl, rfl⟩ (lc_z2 _ _) dX4_addCell_63 rfl ?_
    refine lc_aload_n C (pc' := 67) 0 dX4_addCell_66 rfl rfl ?_
    refine lc_iload_n C (pc' := 68) 1 dX4_addCell_67 rfl rfl ?_
    refine lc_iload_n C (pc' := 69) 2 dX4_addCell_68 rfl rfl ?_
    refine lc_iload_n C (pc' := 70) 3 dX4_addCell_69 rfl rfl ?_
    obtain ⟨r70, s3, h70, h⟩ := lc_bd2e h
    refine lc_cvi C (pc' := 73) (r := r70) (M' := (va_up M 22 s3)) (As := [.int x1, .int x2, .int x3]) (rest := []) (c_X4_newCell S X.2.1 M   x1 x2 x3 s2 (r70, s3) h70) kl_RX4_132 (lc_at197 S _) rfl rfl rfl rfl (Nat.le_of_ble_eq_true rfl) ⟨Nat.le_of_ble_eq_true rfl, Nat.le_of_ble_eq_true rfl⟩ ⟨rfl, rfl⟩ (lc_z2 _ _) dX4_addCell_70 rfl ?_
    obtain rfl := Option.some.inj h
    exact lc_iret C rfl dX4_addCell_73
  · have h := (lc_if2 h).2 c57
    refine lc_iconst C (pc' := 61) (v := (0 : Int32)) dX4_addCell_60 (by decide) rfl ?_
    obtain rfl := Option.some.inj h
    exact lc_iret C rfl dX4_addCell_61
def P_X4_addCell_30  (x1 : Int32) (x2 : Int32) (x3 : Int32) (s : lc_St) : Option (Int32 × lc_St) :=
  P_X4_addCell_50   x1 x2 x3 (1 : Int32) s
set_option maxRecDepth 100000 in
set_option maxHeartbeats 4000000 in
theorem w_X4_addCell_30 {S : lc_Se} {X : lc_X} (C : lc_C X cX4_addCell RX4 4 (some .int) rm_X4_addCell) {M : lc_MM}  (out : Int32 × lc_St)  : ∀ (x1 : Int32) (x2 : Int32) (x3 : Int32) (s : lc_St), P_X4_addCell_30  x1 x2 x3 s = some out → lc_J S X 4 0 0 (lc_QI S X 0 0 out.1 (va_up M 22 out.2)) 30 [(0, .ref (lc_ad S 197)), (1, .int x1), (2, .int x2), (3, .int x3)] [.ref (lc_ad S 197)] (va_up M 22 s) := by
  intro x1 x2 x3 s h
  rw [P_X4_addCell_30] at h
  refine lc_iconst C (pc' := 31) (v := (1 : Int32)) dX4_addCell_30 (by decide) rfl ?_
  refine lc_goto C (tgt := 50) dX4_addCell_31 (by decide) ?_
  exact w_X4_addCell_50 C   out   x1 x2 x3 (1 : Int32) s h
def P_X4_addCell  (x1 : Int32) (x2 : Int32) (x3 : Int32) (s : lc_St) : Option (Int32 × lc_St) :=
  lc_bd (P_X4_in x1 (10 : Int32) (99 : Int32)) (fun r6 => if r6 = 0 then P_X4_addCell_30   x1 x2 x3 s else lc_bd (P_X4_in x2 (0 : Int32) x1) (fun r15 => if r15 = 0 then P_X4_addCell_30   x1 x2 x3 s else lc_bd (P_X4_in x3 (0 : Int32) (3 : Int32)) (fun r24 => if r24 = 0 then P_X4_addCell_30   x1 x2 x3 s else if (s 1 1) = (8 : Int32) then P_X4_addCell_50   x1 x2 x3 (2 : Int32) s else P_X4_addCell_50   x1 x2 x3 (0 : Int32) s)))
set_option maxRecDepth 100000 in
set_option maxHeartbeats 4000000 in
theorem c_X4_addCell (S : lc_Se) (l : Launch) (M : lc_MM)  (x1 : Int32) (x2 : Int32) (x3 : Int32) (s : lc_St) (out : Int32 × lc_St) (h : P_X4_addCell x1 x2 x3 s = some out) : lc_MI S l yX4_addCell cX4_addCell 4 (some .int) rm_X4_addCell [.ref (lc_ad S 197), .int x1, .int x2, .int x3] (va_up M 22 s) out.1 (va_up M 22 out.2) := by
  refine lc_mkI (own := RX4) pn_RX4 rfl (Nat.le_of_ble_eq_true rfl) (lo := [(0, .ref (lc_ad S 197)), (1, .int x1), (2, .int x2), (3, .int x3)]) rfl (fun X hX C => ?_)
  rw [P_X4_addCell] at h
  refine lc_aload_n C (pc' := 1) 0 dX4_addCell_0 rfl rfl ?_
  refine lc_iload_n C (pc' := 2) 1 dX4_addCell_1 rfl rfl ?_
  refine lc_bipush C (pc' := 4) (v := (10 : Int32)) dX4_addCell_2 (by decide) rfl ?_
  refine lc_bipush C (pc' := 6) (v := (99 : Int32)) dX4_addCell_4 (by decide) rfl ?_
  obtain ⟨r6, h6, h⟩ := lc_bde h
  refine lc_csi C (pc' := 9) (r := r6) (M' := (va_up M 22 s)) (As := [.int x1, .int (10 : Int32), .int (99 : Int32)]) (rest := [.ref (lc_ad S 197)]) (c_X4_in S X.2.1 (va_up M 22 s)   x1 (10 : Int32) (99 : Int32)  r6 h6) kl_RX4_39 rfl rfl (Nat.le_of_ble_eq_true rfl) ⟨Nat.le_of_ble_eq_true rfl, Nat.le_of_ble_eq_true rfl⟩ ⟨rfl, rfl⟩ (lc_z2 _ _) dX4_addCell_6 rfl ?_
  refine lc_if_eq C (pc' := 12) (tgt := 30) dX4_addCell_9 (by decide) rfl (fun c9 => ?_) (fun c9 => ?_)
  · have h := (lc_if2 h).1 c9
    exact w_X4_addCell_30 C   out   x1 x2 x3 s h
  · have h := (lc_if2 h).2 c9
    refine lc_iload_n C (pc' := 13) 2 dX4_addCell_12 rfl rfl ?_
    refine lc_iconst C (pc' := 14) (v := (0 : Int32)) dX4_addCell_13 (by decide) rfl ?_
    refine lc_iload_n C (pc' := 15) 1 dX4_addCell_14 rfl rfl ?_
    obtain ⟨r15, h15, h⟩ := lc_bde h
    refine lc_csi C (pc' := 18) (r := r15) (M' := (va_up M 22 s)) (As := [.int x2, .int (0 : Int32), .int x1]) (rest := [.ref (lc_ad S 197)]) (c_X4_in S X.2.1 (va_up M 22 s)   x2 (0 : Int32) x1  r15 h15) kl_RX4_39 rfl rfl (Nat.le_of_ble_eq_true rfl) ⟨Nat.le_of_ble_eq_true rfl, Nat.le_of_ble_eq_true rfl⟩ ⟨rfl, rfl⟩ (lc_z2 _ _) dX4_addCell_15 rfl ?_
    refine lc_if_eq C (pc' := 21) (tgt := 30) dX4_addCell_18 (by decide) rfl (fun c18 => ?_) (fun c18 => ?_)
    · have h := (lc_if2 h).1 c18
      exact w_X4_addCell_30 C   out   x1 x2 x3 s h
    · have h := (lc_if2 h).2 c18
      refine lc_iload_n C (pc' := 22) 3 dX4_addCell_21 rfl rfl ?_
      refine lc_iconst C (pc' := 23) (v := (0 : Int32)) dX4_addCell_22 (by decide) rfl ?_
      refine lc_iconst C (pc' := 24) (v := (3 : Int32)) dX4_addCell_23 (by decide) rfl ?_
      obtain ⟨r24, h24, h⟩ := lc_bde h
      refine lc_csi C (pc' := 27) (r := r24) (M' := (va_up M 22 s)) (As := [.int x3, .int (0 : Int32), .int (3 : Int32)]) (rest := [.ref (lc_ad S 197)]) (c_X4_in S X.2.1 (va_up M 22 s)   x3 (0 : Int32) (3 : Int32)  r24 h24) kl_RX4_39 rfl rfl (Nat.le_of_ble_eq_true rfl) ⟨Nat.le_of_ble_eq_true rfl, Nat.le_of_ble_eq_true rfl⟩ ⟨rfl, rfl⟩ (lc_z2 _ _) dX4_addCell_24 rfl ?_
      refine lc_if_ne C (pc' := 30) (tgt := 34) dX4_addCell_27 (by decide) rfl (fun c27 => ?_) (fun c27 => ?_)
      · have h := (lc_if2 h).2 c27
        refine lc_aload_n C (pc' := 35) 0 dX4_addCell_34 rfl rfl ?_
        refine lc_g197_now C (pc' := 38) (va_up_self _ _ _) dX4_addCell_35 kf_RX4_7 rfl ?_
        refine lc_iconst C (pc' := 39) (v := (1 : Int32)) dX4_addCell_38 (by decide) rfl ?_
        refine lc_ld198 C (pc' := 40) (jj := 1) (va_up_self _ _ _) (by decide) (by decide) dX4_addCell_39 rfl ?_
        refine lc_bipush C (pc' := 42) (v := (8 : Int32)) dX4_addCell_40 (by decide) rfl ?_
        refine lc_icmp_ne C (pc' := 45) (tgt := 49) dX4_addCell_42 (by decide) rfl (fun c42 => ?_) (fun c42 => ?_)
        · have h := (lc_if2 h).2 c42
          refine lc_iconst C (pc' := 50) (v := (0 : Int32)) dX4_addCell_49 (by decide) rfl ?_
          exact w_X4_addCell_50 C   out   x1 x2 x3 (0 : Int32) s h
        · have h := (lc_if2 h).1 c42
          refine lc_iconst C (pc' := 46) (v := (2 : Int32)) dX4_addCell_45 (by decide) rfl ?_
          refine lc_goto C (tgt := 50) dX4_addCell_46 (by decide) ?_
          exact w_X4_addCell_50 C   out   x1 x2 x3 (2 : Int32) s h
      · have h := (lc_if2 h).1 c27
        exact w_X4_addCell_30 C   out   x1 x2 x3 s h
abbrev rm_X4_whyNoLend : Room := { frames := 2, cells := 0, slots := 0, locals := 46 }
def P_X4_whyNoLend  (x1 : Int32) (x2 : Int32) (x3 : Int32) (x4 : Int32) (s : lc_St) : Option (Int32) :=
  lc_bd (P_X4_isCell x1 s) (fun r2 => if r2 = 0 then some (1 : Int32) else lc_bd (P_X4_isCell x2 s) (fun r10 => if r10 = 0 then some (1 : Int32) else if x1 = x2 then some (2 : Int32) else lc_bd (P_X4_in x3 (1 : Int32) (99 : Int32)) (fun r27 => if r27 = 0 then some (2 : Int32) else lc_bd (P_X4_in x4 (0 : Int32) (50 : Int32)) (fun r38 => if r38 = 0 then some (2 : Int32) else lc_bd (P_X4_isSound x1 s) (fun r48 => if r48 = 0 then some (3 : Int32) else lc_bd (P_X4_isSound x2 s) (fun r56 => if r56 = 0 then some (3 : Int32) else lc_bd (P_X4_of x1 (1 : Int32) s) (fun r65 => if r65 < x3 then some (3 : Int32) else lc_bd (P_X4_isTooMuch x3 x1 x2 s) (fun r76 => if r76 = 0 then if (s 1 2) = (12 : Int32) then some (3 : Int32) else some (0 : Int32) else some (3 : Int32)))))))))
set_option maxRecDepth 100000 in
set_option maxHeartbeats 4000000 in
theorem c_X4_whyNoLend (S : lc_Se) (l : Launch) (M : lc_MM)  (x1 : Int32) (x2 : Int32) (x3 : Int32) (x4 : Int32) (s : lc_St) (out : Int32) (h : P_X4_whyNoLend x1 x2 x3 x4 s = some out) : lc_MI S l yX4_whyNoLend cX4_whyNoLend 5 (some .int) rm_X4_whyNoLend [.ref (lc_ad S 197), .int x1, .int x2, .int x3, .int x4] (va_up M 22 s) out (va_up M 22 s) := by
  refine lc_mkI (own := RX4) pn_RX4 rfl (Nat.le_of_ble_eq_true rfl) (lo := [(0, .ref (lc_ad S 197)), (1, .int x1), (2, .int x2), (3, .int x3), (4, .int x4)]) rfl (fun X hX C => ?_)
  rw [P_X4_whyNoLend] at h
  refine lc_aload_n C (pc' := 1) 0 dX4_whyNoLend_0 rfl rfl ?_
  refine lc_iload_n C (pc' := 2) 1 dX4_whyNoLend_1 rfl rfl ?_
  obtain ⟨r2, h2, h⟩ := lc_bde h
  refine lc_cvi C (pc' := 5) (r := r2) (M' := (va_up M 22 s)) (As := [.int x1]) (rest := []) (c_X4_isCell S X.2.1 M   x1 s r2 h2) kl_RX4_135 (lc_at197 S _) rfl rfl rfl rfl (Nat.le_of_ble_eq_true rfl) ⟨Nat.le_of_ble_eq_true rfl, Nat.le_of_ble_eq_true rfl⟩ ⟨rfl, rfl⟩ (lc_z2 _ _) dX4_whyNoLend_2 rfl ?_
  refine lc_if_eq C (pc' := 8) (tgt := 16) dX4_whyNoLend_5 (by decide) rfl (fun c5 => ?_) (fun c5 => ?_)
  · have h := (lc_if2 h).1 c5
    refine lc_iconst C (pc' := 17) (v := (1 : Int32)) dX4_whyNoLend_16 (by decide) rfl ?_
    obtain rfl := Option.some.inj h
    exact lc_iret C rfl dX4_whyNoLend_17
  · have h := (lc_if2 h).2 c5
    refine lc_aload_n C (pc' := 9) 0 dX4_whyNoLend_8 rfl rfl ?_
    refine lc_iload_n C (pc' := 10) 2 dX4_whyNoLend_9 rfl rfl ?_
    obtain ⟨r10, h10, h⟩ := lc_bde h
    refine lc_cvi C (pc' := 13) (r := r10) (M' := (va_up M 22 s)) (As := [.int x2]) (rest := []) (c_X4_isCell S X.2.1 M   x2 s r10 h10) kl_RX4_135 (lc_at197 S _) rfl rfl rfl rfl (Nat.le_of_ble_eq_true rfl) ⟨Nat.le_of_ble_eq_true rfl, Nat.le_of_ble_eq_true rfl⟩ ⟨rfl, rfl⟩ (lc_z2 _ _) dX4_whyNoLend_10 rfl ?_
    refine lc_if_ne C (pc' := 16) (tgt := 18) dX4_whyNoLend_13 (by decide) rfl (fun c13 => ?_) (fun c13 => ?_)
    · have h := (lc_if2 h).2 c13
      refine lc_iload_n C (pc' := 19) 1 dX4_whyNoLend_18 rfl rfl ?_
      refine lc_iload_n C (pc' := 20) 2 dX4_whyNoLend_19 rfl rfl ?_
      refine lc_icmp_eq C (pc' := 23) (tgt := 44) dX4_whyNoLend_20 (by decide) rfl (fun c20 => ?_) (fun c20 => ?_)
      · have h := (lc_if2 h).1 c20
        refine lc_iconst C (pc' := 45) (v := (2 : Int32)) dX4_whyNoLend_44 (by decide) rfl ?_
        obtain rfl := Option.some.inj h
        exact lc_iret C rfl dX4_whyNoLend_45
      · have h := (lc_if2 h).2 c20
        refine lc_iload_n C (pc' := 24) 3 dX4_whyNoLend_23 rfl rfl ?_
        refine lc_iconst C (pc' := 25) (v := (1 : Int32)) dX4_whyNoLend_24 (by decide) rfl ?_
        refine lc_bipush C (pc' := 27) (v := (99 : Int32)) dX4_whyNoLend_25 (by decide) rfl ?_
        obtain ⟨r27, h27, h⟩ := lc_bde h
        refine lc_csi C (pc' := 30) (r := r27) (M' := (va_up M 22 s)) (As := [.int x3, .int (1 : Int32), .int (99 : Int32)]) (rest := []) (c_X4_in S X.2.1 (va_up M 22 s)   x3 (1 : Int32) (99 : Int32)  r27 h27) kl_RX4_39 rfl rfl (Nat.le_of_ble_eq_true rfl) ⟨Nat.le_of_ble_eq_true rfl, Nat.le_of_ble_eq_true rfl⟩ ⟨rfl, rfl⟩ (lc_z2 _ _) dX4_whyNoLend_27 rfl ?_
        refine lc_if_eq C (pc' := 33) (tgt := 44) dX4_whyNoLend_30 (by decide) rfl (fun c30 => ?_) (fun c30 => ?_)
        · have h := (lc_if2 h).1 c30
          refine lc_iconst C (pc' := 45) (v := (2 : Int32)) dX4_whyNoLend_44 (by decide) rfl ?_
          obtain rfl := Option.some.inj h
          exact lc_iret C rfl dX4_whyNoLend_45
        · have h := (lc_if2 h).2 c30
          refine lc_iload C (pc' := 35) 4 dX4_whyNoLend_33 rfl rfl ?_
          refine lc_iconst C (pc' := 36) (v := (0 : Int32)) dX4_whyNoLend_35 (by decide) rfl ?_
          refine lc_bipush C (pc' := 38) (v := (50 : Int32)) dX4_whyNoLend_36 (by decide) rfl ?_
          obtain ⟨r38, h38, h⟩ := lc_bde h
          refine lc_csi C (pc' := 41) (r := r38) (M' := (va_up M 22 s)) (As := [.int x4, .int (0 : Int32), .int (50 : Int32)]) (rest := []) (c_X4_in S X.2.1 (va_up M 22 s)   x4 (0 : Int32) (50 : Int32)  r38 h38) kl_RX4_39 rfl rfl (Nat.le_of_ble_eq_true rfl) ⟨Nat.le_of_ble_eq_true rfl, Nat.le_of_ble_eq_true rfl⟩ ⟨rfl, rfl⟩ (lc_z2 _ _) dX4_whyNoLend_38 rfl ?_
          refine lc_if_ne C (pc' := 44) (tgt := 46) dX4_whyNoLend_41 (by decide) rfl (fun c41 => ?_) (fun c41 => ?_)
          · have h := (lc_if2 h).2 c41
            refine lc_aload_n C (pc' := 47) 0 dX4_whyNoLend_46 rfl rfl ?_
            refine lc_iload_n C (pc' := 48) 1 dX4_whyNoLend_47 rfl rfl ?_
            obtain ⟨r48, h48, h⟩ := lc_bde h
            refine lc_cvi C (pc' := 51) (r := r48) (M' := (va_up M 22 s)) (As := [.int x1]) (rest := []) (c_X4_isSound S X.2.1 M   x1 s r48 h48) kl_RX4_84 (lc_at197 S _) rfl rfl rfl rfl (Nat.le_of_ble_eq_true rfl) ⟨Nat.le_of_ble_eq_true rfl, Nat.le_of_ble_eq_true rfl⟩ ⟨rfl, rfl⟩ (lc_z2 _ _) dX4_whyNoLend_48 rfl ?_
            refine lc_if_eq C (pc' := 54) (tgt := 93) dX4_whyNoLend_51 (by decide) rfl (fun c51 => ?_) (fun c51 => ?_)
            · have h := (lc_if2 h).1 c51
              refine lc_iconst C (pc' := 94) (v := (3 : Int32)) dX4_whyNoLend_93 (by decide) rfl ?_
              refine lc_goto C (tgt := 98) dX4_whyNoLend_94 (by decide) ?_
              obtain rfl := Option.some.inj h
              exact lc_iret C rfl dX4_whyNoLend_98
            · have h := (lc_if2 h).2 c51
              refine lc_aload_n C (pc' := 55) 0 dX4_whyNoLend_54 rfl rfl ?_
              refine lc_iload_n C (pc' := 56) 2 dX4_whyNoLend_55 rfl rfl ?_
              obtain ⟨r56, h56, h⟩ := lc_bde h
              refine lc_cvi C (pc' := 59) (r := r56) (M' := (va_up M 22 s)) (As := [.int x2]) (rest := []) (c_X4_isSound S X.2.1 M   x2 s r56 h56) kl_RX4_84 (lc_at197 S _) rfl rfl rfl rfl (Nat.le_of_ble_eq_true rfl) ⟨Nat.le_of_ble_eq_true rfl, Nat.le_of_ble_eq_true rfl⟩ ⟨rfl, rfl⟩ (lc_z2 _ _) dX4_whyNoLend_56 rfl ?_
              refine lc_if_eq C (pc' := 62) (tgt := 93) dX4_whyNoLend_59 (by decide) rfl (fun c59 => ?_) (fun c59 => ?_)
              · have h := (lc_if2 h).1 c59
                refine lc_iconst C (pc' := 94) (v := (3 : Int32)) dX4_whyNoLend_93 (by decide) rfl ?_
                refine lc_goto C (tgt := 98) dX4_whyNoLend_94 (by decide) ?_
                obtain rfl := Option.some.inj h
                exact lc_iret C rfl dX4_whyNoLend_98
              · have h := (lc_if2 h).2 c59
                refine lc_aload_n C (pc' := 63) 0 dX4_whyNoLend_62 rfl rfl ?_
                refine lc_iload_n C (pc' := 64) 1 dX4_whyNoLend_63 rfl rfl ?_
                refine lc_iconst C (pc' := 65) (v := (1 : Int32)) dX4_whyNoLend_64 (by decide) rfl ?_
                obtain ⟨r65, h65, h⟩ := lc_bde h
                refine lc_cvi C (pc' := 68) (r := r65) (M' := (va_up M 22 s)) (As := [.int x1, .int (1 : Int32)]) (rest := []) (c_X4_of S X.2.1 M   x1 (1 : Int32) s r65 h65) kl_RX4_43 (lc_at197 S _) rfl rfl rfl rfl (Nat.le_of_ble_eq_true rfl) ⟨Nat.le_of_ble_eq_true rfl, Nat.le_of_ble_eq_true rfl⟩ ⟨rfl, rfl⟩ (lc_z2 _ _) dX4_whyNoLend_65 rfl ?_
                refine lc_iload_n C (pc' := 69) 3 dX4_whyNoLend_68 rfl rfl ?_
                refine lc_icmp_lt C (pc' := 72) (tgt := 93) dX4_whyNoLend_69 (by decide) rfl (fun c69 => ?_) (fun c69 => ?_)
                · have h := (lc_if2 h).1 c69
                  refine lc_iconst C (pc' := 94) (v := (3 : Int32)) dX4_whyNoLend_93 (by decide) rfl ?_
                  refine lc_goto C (tgt := 98) dX4_whyNoLend_94 (by decide) ?_
                  obtain rfl := Option.some.inj h
                  exact lc_iret C rfl dX4_whyNoLend_98
                · have h := (lc_if2 h).2 c69
                  refine lc_aload_n C (pc' := 73) 0 dX4_whyNoLend_72 rfl rfl ?_
                  refine lc_iload_n C (pc' := 74) 3 dX4_whyNoLend_73 rfl rfl ?_
                  refine lc_iload_n C (pc' := 75) 1 dX4_whyNoLend_74 rfl rfl ?_
                  refine lc_iload_n C (pc' := 76) 2 dX4_whyNoLend_75 rfl rfl ?_
                  obtain ⟨r76, h76, h⟩ := lc_bde h
                  refine lc_cvi C (pc' := 79) (r := r76) (M' := (va_up M 22 s)) (As := [.int x3, .int x1, .int x2]) (rest := []) (c_X4_isTooMuch S X.2.1 M   x3 x1 x2 s r76 h76) kl_RX4_141 (lc_at197 S _) rfl rfl rfl rfl (Nat.le_of_ble_eq_true rfl) ⟨Nat.le_of_ble_eq_true rfl, Nat.le_of_ble_eq_true rfl⟩ ⟨rfl, rfl⟩ (lc_z2 _ _) dX4_whyNoLend_76 rfl ?_
                  refine lc_if_ne C (pc' := 82) (tgt := 93) dX4_whyNoLend_79 (by decide) rfl (fun c79 => ?_) (fun c79 => ?_)
                  · have h := (lc_if2 h).2 c79
                    refine lc_iconst C (pc' := 94) (v := (3 : Int32)) dX4_whyNoLend_93 (by decide) rfl ?_
                    refine lc_goto C (tgt := 98) dX4_whyNoLend_94 (by decide) ?_
                    obtain rfl := Option.some.inj h
                    exact lc_iret C rfl dX4_whyNoLend_98
                  · have h := (lc_if2 h).1 c79
                    refine lc_aload_n C (pc' := 83) 0 dX4_whyNoLend_82 rfl rfl ?_
                    refine lc_g197_now C (pc' := 86) (va_up_self _ _ _) dX4_whyNoLend_83 kf_RX4_7 rfl ?_
                    refine lc_iconst C (pc' := 87) (v := (2 : Int32)) dX4_whyNoLend_86 (by decide) rfl ?_
                    refine lc_ld198 C (pc' := 88) (jj := 2) (va_up_self _ _ _) (by decide) (by decide) dX4_whyNoLend_87 rfl ?_
                    refine lc_bipush C (pc' := 90) (v := (12 : Int32)) dX4_whyNoLend_88 (by decide) rfl ?_
                    refine lc_icmp_ne C (pc' := 93) (tgt := 97) dX4_whyNoLend_90 (by decide) rfl (fun c90 => ?_) (fun c90 => ?_)
                    · have h := (lc_if2 h).2 c90
                      refine lc_iconst C (pc' := 98) (v := (0 : Int32)) dX4_whyNoLend_97 (by decide) rfl ?_
                      obtain rfl := Option.some.inj h
                      exact lc_iret C rfl dX4_whyNoLend_98
                    · have h := (lc_if2 h).1 c90
                      refine lc_iconst C (pc' := 94) (v := (3 : Int32)) dX4_whyNoLend_93 (by decide) rfl ?_
                      refine lc_goto C (tgt := 98) dX4_whyNoLend_94 (by decide) ?_
                      obtain rfl := Option.some.inj h
                      exact lc_iret C rfl dX4_whyNoLend_98
          · have h := (lc_if2 h).1 c41
            refine lc_iconst C (pc' := 45) (v := (2 : Int32)) dX4_whyNoLend_44 (by decide) rfl ?_
            obtain rfl := Option.some.inj h
            exact lc_iret C rfl dX4_whyNoLend_45
    · have h := (lc_if2 h).1 c13
      refine lc_iconst C (pc' := 17) (v := (1 : Int32)) dX4_whyNoLend_16 (by decide) rfl ?_
      obtain rfl := Option.some.inj h
      exact lc_iret C rfl dX4_whyNoLend_17
abbrev rm_X4_lend : Room := { frames := 3, cells := 0, slots := 0, locals := 72 }
def P_X4_lend  (x1 : Int32) (x2 : Int32) (x3 : Int32) (x4 : Int32) (s : lc_St) : Option (Int32 × lc_St) :=
  lc_bd (P_X4_whyNoLend x1 x2 x3 x4 s) (fun r7 => lc_let (lc_ss s 0 0 r7) (fun s1 => if (s1 0 0) ≤ 0 then lc_bd (P_X4_remember  s1) (fun s2 => lc_bd2 (P_X4_makeLoan x1 x2 x3 x4 s2) (fun r32 s3 => some (r32, s3))) else some ((0 : Int32), s1)))
set_option maxRecDepth 100000 in
set_option maxHeartbeats 4000000 in
theorem c_X4_lend (S : lc_Se) (l : Launch) (M : lc_MM)  (x1 : Int32) (x2 : Int32) (x3 : Int32) (x4 : Int32) (s : lc_St) (out : Int32 × lc_St) (h : P_X4_lend x1 x2 x3 x4 s = some out) : lc_MI S l yX4_lend cX4_lend 5 (some .int) rm_X4_lend [.ref (lc_ad S 197), .int x1, .int x2, .int x3, .int x4] (va_up M 22 s) out.1 (va_up M 22 out.2) := by
  refine lc_mkI (own := RX4) pn_RX4 rfl (Nat.le_of_ble_eq_true rfl) (lo := [(0, .ref (lc_ad S 197)), (1, .int x1), (2, .int x2), (3, .int x3), (4, .int x4)]) rfl (fun X hX C => ?_)
  rw [P_X4_lend] at h
  refine lc_aload_n C (pc' := 1) 0 dX4_lend_0 rfl rfl ?_
  refine lc_aload_n C (pc' := 2) 0 dX4_lend_1 rfl rfl ?_
  refine lc_iload_n C (pc' := 3) 1 dX4_lend_2 rfl rfl ?_
  refine lc_iload_n C (pc' := 4) 2 dX4_lend_3 rfl rfl ?_
  refine lc_iload_n C (pc' := 5) 3 dX4_lend_4 rfl rfl ?_
  refine lc_iload C (pc' := 7) 4 dX4_lend_5 rfl rfl ?_
  obtain ⟨r7, h7, h⟩ := lc_bde h
  refine lc_cvi C (pc' := 10) (r := r7) (M' := (va_up M 22 s)) (As := [.int x1, .int x2, .int x3, .int x4]) (rest := [.ref (lc_ad S 197)]) (c_X4_whyNoLend S X.2.1 M   x1 x2 x3 x4 s r7 h7) kl_RX4_181 (lc_at197 S _) rfl rfl rfl rfl (Nat.le_of_ble_eq_true rfl) ⟨Nat.le_of_ble_eq_true rfl, Nat.le_of_ble_eq_true rfl⟩ ⟨rfl, rfl⟩ (lc_z2 _ _) dX4_lend_7 rfl ?_
  obtain ⟨s1, es1, h⟩ := lc_let2 h
  refine lc_p197_thrown C (pc' := 13) (M' := (va_up M 22 s1)) (va_up_self _ _ _) es1 (lc_up_up _ _ _ _) dX4_lend_10 kf_RX4_35 rfl ?_
  refine lc_aload_n C (pc' := 14) 0 dX4_lend_13 rfl rfl ?_
  refine lc_g197_thrown C (pc' := 17) (va_up_self _ _ _) dX4_lend_14 kf_RX4_35 rfl ?_
  refine lc_if_le C (pc' := 20) (tgt := 22) dX4_lend_17 (by decide) rfl (fun c17 => ?_) (fun c17 => ?_)
  · have h := (lc_if2 h).1 c17
    refine lc_aload_n C (pc' := 23) 0 dX4_lend_22 rfl rfl ?_
    obtain ⟨s2, h23, h⟩ := lc_bde h
    refine lc_cvv C (pc' := 26) (M' := (va_up M 22 s2)) (As := []) (rest := []) (c_X4_remember S X.2.1 M    s1 s2 h23) kl_RX4_178 (lc_at197 S _) rfl rfl rfl rfl (Nat.le_of_ble_eq_true rfl) ⟨Nat.le_of_ble_eq_true rfl, Nat.le_of_ble_eq_true rfl⟩ ⟨rfl, rfl⟩ (lc_z2 _ _) dX4_lend_23 rfl ?_
    refine lc_aload_n C (pc' := 27) 0 dX4_lend_26 rfl rfl ?_
    refine lc_iload_n C (pc' := 28) 1 dX4_lend_27 rfl rfl ?_
    refine lc_iload_n C (pc' := 29) 2 dX4_lend_28 rfl rfl ?_
    refine lc_iload_n C (pc' := 30) 3 dX4_lend_29 rfl rfl ?_
    refine lc_iload C (pc' := 32) 4 dX4_lend_30 rfl rfl ?_
    obtain ⟨r32, s3, h32, h⟩ := lc_bd2e h
    refine lc_cvi C (pc' := 35) (r := r32) (M' := (va_up M 22 s3)) (As := [.int x1, .int x2, .int x3, .int x4]) (rest := []) (c_X4_makeLoan S X.2.1 M   x1 x2 x3 x4 s2 (r32, s3) h32) kl_RX4_101 (lc_at197 S _) rfl rfl rfl rfl (Nat.le_of_ble_eq_true rfl) ⟨Nat.le_of_ble_eq_true rfl, Nat.le_of_ble_eq_true rfl⟩ ⟨rfl, rfl⟩ (lc_z2 _ _) dX4_lend_32 rfl ?_
    obtain rfl := Option.some.inj h
    exact lc_iret C rfl dX4_lend_35
  · have h := (lc_if2 h).2 c17
    refine lc_iconst C (pc' := 21) (v := (0 : Int32)) dX4_lend_20 (by decide) rfl ?_
    obtain rfl := Option.some.inj h
    exact lc_iret C rfl dX4_lend_21
abbrev rm_X4_whyNoRepay : Room := { frames := 2, cells := 0, slots := 0, locals := 46 }
def P_X4_whyNoRepay  (x1 : Int32) (x2 : Int32) (s : lc_St) : Option (Int32) :=
  lc_bd (P_X4_isLoan x1 s) (fun r2 => if r2 = 0 then some (1 : Int32) else lc_bd (P_X4_in x2 (1 : Int32) (99 : Int32)) (fun r14 => if r14 = 0 then some (2 : Int32) else lc_bd (P_X4_ofLoan x1 (1 : Int32) s) (fun r25 => lc_bd (P_X4_ofLoan x1 (2 : Int32) s) (fun r32 => if r32 < x2 then some (3 : Int32) else lc_bd (P_X4_of r25 (1 : Int32) s) (fun r42 => if r42 < x2 then some (3 : Int32) else lc_bd (P_X4_ofLoan x1 (0 : Int32) s) (fun r55 => lc_bd (P_X4_isTooMuch x2 r25 r55 s) (fun r58 => if r58 = 0 then some (0 : Int32) else some (3 : Int32))))))))
set_option maxRecDepth 100000 in
set_option maxHeartbeats 4000000 in
theorem c_X4_whyNoRepay (S : lc_Se) (l : Launch) (M : lc_MM)  (x1 : Int32) (x2 : Int32) (s : lc_St) (out : Int32) (h : P_X4_whyNoRepay x1 x2 s = some out) : lc_MI S l yX4_whyNoRepay cX4_whyNoRepay 4 (some .int) rm_X4_whyNoRepay [.ref (lc_ad S 197), .int x1, .int x2] (va_up M 22 s) out (va_up M 22 s) := by
  refine lc_mkI (own := RX4) pn_RX4 rfl (Nat.le_of_ble_eq_true rfl) (lo := [(0, .ref (lc_ad S 197)), (1, .int x1), (2, .int x2)]) rfl (fun X hX C => ?_)
  rw [P_X4_whyNoRepay] at h
  refine lc_aload_n C (pc' := 1) 0 dX4_whyNoRepay_0 rfl rfl ?_
  refine lc_iload_n C (pc' := 2) 1 dX4_whyNoRepay_1 rfl rfl ?_
  obtain ⟨r2, h2, h⟩ := lc_bde h
  refine lc_cvi C (pc' := 5) (r := r2) (M' := (va_up M 22 s)) (As := [.int x1]) (rest := []) (c_X4_isLoan S X.2.1 M   x1 s r2 h2) kl_RX4_175 (lc_at197 S _) rfl rfl rfl rfl (Nat.le_of_ble_eq_true rfl) ⟨Nat.le_of_ble_eq_true rfl, Nat.le_of_ble_eq_true rfl⟩ ⟨rfl, rfl⟩ (lc_z2 _ _) dX4_whyNoRepay_2 rfl ?_
  refine lc_if_ne C (pc' := 8) (tgt := 10) dX4_whyNoRepay_5 (by decide) rfl (fun c5 => ?_) (fun c5 => ?_)
  · have h := (lc_if2 h).2 c5
    refine lc_iload_n C (pc' := 11) 2 dX4_whyNoRepay_10 rfl rfl ?_
    refine lc_iconst C (pc' := 12) (v := (1 : Int32)) dX4_whyNoRepay_11 (by decide) rfl ?_
    refine lc_bipush C (pc' := 14) (v := (99 : Int32)) dX4_whyNoRepay_12 (by decide) rfl ?_
    obtain ⟨r14, h14, h⟩ := lc_bde h
    refine lc_csi C (pc' := 17) (r := r14) (M' := (va_up M 22 s)) (As := [.int x2, .int (1 : Int32), .int (99 : Int32)]) (rest := []) (c_X4_in S X.2.1 (va_up M 22 s)   x2 (1 : Int32) (99 : Int32)  r14 h14) kl_RX4_39 rfl rfl (Nat.le_of_ble_eq_true rfl) ⟨Nat.le_of_ble_eq_true rfl, Nat.le_of_ble_eq_true rfl⟩ ⟨rfl, rfl⟩ (lc_z2 _ _) dX4_whyNoRepay_14 rfl ?_
    refine lc_if_ne C (pc' := 20) (tgt := 22) dX4_whyNoRepay_17 (by decide) rfl (fun c17 => ?_) (fun c17 => ?_)
    · have h := (lc_if2 h).2 c17
      refine lc_aload_n C (pc' := 23) 0 dX4_whyNoRepay_22 rfl rfl ?_
      refine lc_iload_n C (pc' := 24) 1 dX4_whyNoRepay_23 rfl rfl ?_
      refine lc_iconst C (pc' := 25) (v := (1 : Int32)) dX4_whyNoRepay_24 (by decide) rfl ?_
      obtain ⟨r25, h25, h⟩ := lc_bde h
      refine lc_cvi C (pc' := 28) (r := r25) (M' := (va_up M 22 s)) (As := [.int x1, .int (1 : Int32)]) (rest := []) (c_X4_ofLoan S X.2.1 M   x1 (1 : Int32) s r25 h25) kl_RX4_64 (lc_at197 S _) rfl rfl rfl rfl (Nat.le_of_ble_eq_true rfl) ⟨Nat.le_of_ble_eq_true rfl, Nat.le_of_ble_eq_true rfl⟩ ⟨rfl, rfl⟩ (lc_z2 _ _) dX4_whyNoRepay_25 rfl ?_
      refine lc_istore_n C (pc' := 29) (lo' := [(3, .int r25), (0, .ref (lc_ad S 197)), (1, .int x1), (2, .int x2)]) dX4_whyNoRepay_28 (Nat.le_of_ble_eq_true rfl) rfl rfl ?_
      refine lc_aload_n C (pc' := 30) 1 dX4_whyNoRepay_29 rfl rfl ?_
      refine lc_iload_n C (pc' := 31) 2 dX4_whyNoRepay_30 rfl rfl ?_
      refine lc_iconst C (pc' := 32) (v := (2 : Int32)) dX4_whyNoRepay_31 (by decide) rfl ?_
      obtain ⟨r32, h32, h⟩ := lc_bde h
      refine lc_cvi C (pc' := 35) (r := r32) (M' := (va_up M 22 s)) (As := [.int x1, .int (2 : Int32)]) (rest := []) (c_X4_ofLoan S X.2.1 M   x1 (2 : Int32) s r32 h32) kl_RX4_64 (lc_at197 S _) rfl rfl rfl rfl (Nat.le_of_ble_eq_true rfl) ⟨Nat.le_of_ble_eq_true rfl, Nat.le_of_ble_eq_true rfl⟩ ⟨rfl, rfl⟩ (lc_z2 _ _) dX4_whyNoRepay_32 rfl ?_
      refine lc_iload_n C (pc' := 36) 3 dX4_whyNoRepay_35 rfl rfl ?_
      refine lc_icmp_lt C (pc' := 39) (tgt := 64) dX4_whyNoRepay_36 (by decide) rfl (fun c36 => ?_) (fun c36 => ?_)
      · have h := (lc_if2 h).1 c36
        refine lc_iconst C (pc' := 65) (v := (3 : Int32)) dX4_whyNoRepay_64 (by decide) rfl ?_
        refine lc_goto C (tgt := 69) dX4_whyNoRepay_65 (by decide) ?_
        obtain rfl := Option.some.inj h
        exact lc_iret C rfl dX4_whyNoRepay_69
      · have h := (lc_if2 h).2 c36
        refine lc_aload_n C (pc' := 40) 1 dX4_whyNoRepay_39 rfl rfl ?_
        refine lc_iload_n C (pc' := 41) 0 dX4_whyNoRepay_40 rfl rfl ?_
        refine lc_iconst C (pc' := 42) (v := (1 : Int32)) dX4_whyNoRepay_41 (by decide) rfl ?_
        obtain ⟨r42, h42, h⟩ := lc_bde h
        refine lc_cvi C (pc' := 45) (r := r42) (M' := (va_up M 22 s)) (As := [.int r25, .int (1 : Int32)]) (rest := []) (c_X4_of S X.2.1 M   r25 (1 : Int32) s r42 h42) kl_RX4_43 (lc_at197 S _) rfl rfl rfl rfl (Nat.le_of_ble_eq_true rfl) ⟨Nat.le_of_ble_eq_true rfl, Nat.le_of_ble_eq_true rfl⟩ ⟨rfl, rfl⟩ (lc_z2 _ _) dX4_whyNoRepay_42 rfl ?_
        refine lc_iload_n C (pc' := 46) 3 dX4_whyNoRepay_45 rfl rfl ?_
        refine lc_icmp_lt C (pc' := 49) (tgt := 64) dX4_whyNoRepay_46 (by decide) rfl (fun c46 => ?_) (fun c46 => ?_)
        · have h := (lc_if2 h).1 c46
          refine lc_iconst C (pc' := 65) (v := (3 : Int32)) dX4_whyNoRepay_64 (by decide) rfl ?_
          refine lc_goto C (tgt := 69) dX4_whyNoRepay_65 (by decide) ?_
          obtain rfl := Option.some.inj h
          exact lc_iret C rfl dX4_whyNoRepay_69
        · have h := (lc_if2 h).2 c46
          refine lc_aload_n C (pc' := 50) 1 dX4_whyNoRepay_49 rfl rfl ?_
          refine lc_iload_n C (pc' := 51) 3 dX4_whyNoRepay_50 rfl rfl ?_
          refine lc_iload_n C (pc' := 52) 0 dX4_whyNoRepay_51 rfl rfl ?_
          refine lc_aload_n C (pc' := 53) 1 dX4_whyNoRepay_52 rfl rfl ?_
          refine lc_iload_n C (pc' := 54) 2 dX4_whyNoRepay_53 rfl rfl ?_
          refine lc_iconst C (pc' := 55) (v := (0 : Int32)) dX4_whyNoRepay_54 (by decide) rfl ?_
          obtain ⟨r55, h55, h⟩ := lc_bde h
          refine lc_cvi C (pc' := 58) (r := r55) (M' := (va_up M 22 s)) (As := [.int x1, .int (0 : Int32)]) (rest := [.int r25, .int x2, .ref (lc_ad S 197)]) (c_X4_ofLoan S X.2.1 M   x1 (0 : Int32) s r55 h55) kl_RX4_64 (lc_at197 S _) rfl rfl rfl rfl (Nat.le_of_ble_eq_true rfl) ⟨Nat.le_of_ble_eq_true rfl, Nat.le_of_ble_eq_true rfl⟩ ⟨rfl, rfl⟩ (lc_z2 _ _) dX4_whyNoRepay_55 rfl ?_
          obtain ⟨r58, h58, h⟩ := lc_bde h
          refine lc_cvi C (pc' := 61) (r := r58) (M' := (va_up M 22 s)) (As := [.int x2, .int r25, .int r55]) (rest := []) (c_X4_isTooMuch S X.2.1 M   x2 r25 r55 s r58 h58) kl_RX4_141 (lc_at197 S _) rfl rfl rfl rfl (Nat.le_of_ble_eq_true rfl) ⟨Nat.le_of_ble_eq_true rfl, Nat.le_of_ble_eq_true rfl⟩ ⟨rfl, rfl⟩ (lc_z2 _ _) dX4_whyNoRepay_58 rfl ?_
          refine lc_if_eq C (pc' := 64) (tgt := 68) dX4_whyNoRepay_61 (by decide) rfl (fun c61 => ?_) (fun c61 => ?_)
          · have h := (lc_if2 h).1 c61
            refine lc_iconst C (pc' := 69) (v := (0 : Int32)) dX4_whyNoRepay_68 (by decide) rfl ?_
            obtain rfl := Option.some.inj h
            exact lc_iret C rfl dX4_whyNoRepay_69
          · have h := (lc_if2 h).2 c61
            refine lc_iconst C (pc' := 65) (v := (3 : Int32)) dX4_whyNoRepay_64 (by decide) rfl ?_
            refine lc_goto C (tgt := 69) dX4_whyNoRepay_65 (by decide) ?_
            obtain rfl := Option.some.inj h
            exact lc_iret C rfl dX4_whyNoRepay_69
    · have h := (lc_if2 h).1 c17
      refine lc_iconst C (pc' := 21) (v := (2 : Int32)) dX4_whyNoRepay_20 (by decide) rfl ?_
      obtain rfl := Option.some.inj h
      exact lc_iret C rfl dX4_whyNoRepay_21
  · have h := (lc_if2 h).1 c5
    refine lc_iconst C (pc' := 9) (v := (1 : Int32)) dX4_whyNoRepay_8 (by decide) rfl ?_
    obtain rfl := Option.some.inj h
    exact lc_iret C rfl dX4_whyNoRepay_9
abbrev rm_X4_repays : Room := { frames := 2, cells := 0, slots := 0, locals := 47 }
def P_X4_repays  (x1 : Int32) (x2 : Int32) (s : lc_St) : Option (Int32 × lc_St) :=
  lc_bd (P_X4_ofLoan x1 (1 : Int32) s) (fun r5 => lc_bd (P_X4_ofLoan x1 (0 : Int32) s) (fun r11 => lc_bd2 (P_X4_shuttle x2 r5 r11 s) (fun r14 s1 => lc_if (lc_ok (((47 : Int32) + ((5 : Int32) * x1)) + (2 : Int32)) 107) (lc_if (lc_ok (((47 : Int32) + ((5 : Int32) * x1)) + (2 : Int32)) 107) (lc_let (lc_ss s1 1 ((((47 : Int32) + ((5 : Int32) * x1)) + (2 : Int32)).toNatClampNeg) ((s1 1 (((47 : Int32) + ((5 : Int32) * x1)) + (2 : Int32)).toNatClampNeg) - x2)) (fun s2 => lc_bd (P_X4_ofLoan x1 (2 : Int32) s2) (fun r38 => if r38 = 0 then lc_bd (P_X4_removeLoan x1 s2) (fun s3 => some (r38, s3)) else some (r38, s2))))))))
set_option maxRecDepth 100000 in
set_option maxHeartbeats 4000000 in
theorem c_X4_repays (S : lc_Se) (l : Launch) (M : lc_MM)  (x1 : Int32) (x2 : Int32) (s : lc_St) (out : Int32 × lc_St) (h : P_X4_repays x1 x2 s = some out) : lc_MI S l yX4_repays cX4_repays 4 (some .int) rm_X4_repays [.ref (lc_ad S 197), .int x1, .int x2] (va_up M 22 s) out.1 (va_up M 22 out.2) := by
  refine lc_mkI (own := RX4) pn_RX4 rfl (Nat.le_of_ble_eq_true rfl) (lo := [(0, .ref (lc_ad S 197)), (1, .int x1), (2, .int x2)]) rfl (fun X hX C => ?_)
  rw [P_X4_repays] at h
  refine lc_aload_n C (pc' := 1) 0 dX4_repays_0 rfl rfl ?_
  refine lc_iload_n C (pc' := 2) 2 dX4_repays_1 rfl rfl ?_
  refine lc_aload_n C (pc' := 3) 0 dX4_repays_2 rfl rfl ?_
  refine lc_iload_n C (pc' := 4) 1 dX4_repays_3 rfl rfl ?_
  refine lc_iconst C (pc' := 5) (v := (1 : Int32)) dX4_repays_4 (by decide) rfl ?_
  obtain ⟨r5, h5, h⟩ := lc_bde h
  refine lc_cvi C (pc' := 8) (r := r5) (M' := (va_up M 22 s)) (As := [.int x1, .int (1 : Int32)]) (rest := [.int x2, .ref (lc_ad S 197)]) (c_X4_ofLoan S X.2.1 M   x1 (1 : Int32) s r5 h5) kl_RX4_64 (lc_at197 S _) rfl rfl rfl rfl (Nat.le_of_ble_eq_true rfl) ⟨Nat.le_of_ble_eq_true rfl, Nat.le_of_ble_eq_true rfl⟩ ⟨rfl, rfl⟩ (lc_z2 _ _) dX4_repays_5 rfl ?_
  refine lc_aload_n C (pc' := 9) 0 dX4_repays_8 rfl rfl ?_
  refine lc_iload_n C (pc' := 10) 1 dX4_repays_9 rfl rfl ?_
  refine lc_iconst C (pc' := 11) (v := (0 : Int32)) dX4_repays_10 (by decide) rfl ?_
  obtain ⟨r11, h11, h⟩ := lc_bde h
  refine lc_cvi C (pc' := 14) (r := r11) (M' := (va_up M 22 s)) (As := [.int x1, .int (0 : Int32)]) (rest := [.int r5, .int x2, .ref (lc_ad S 197)]) (c_X4_ofLoan S X.2.1 M   x1 (0 : Int32) s r11 h11) kl_RX4_64 (lc_at197 S _) rfl rfl rfl rfl (Nat.le_of_ble_eq_true rfl) ⟨Nat.le_of_ble_eq_true rfl, Nat.le_of_ble_eq_true rfl⟩ ⟨rfl, rfl⟩ (lc_z2 _ _) dX4_repays_11 rfl ?_
  obtain ⟨r14, s1, h14, h⟩ := lc_bd2e h
  refine lc_cvi C (pc' := 17) (r := r14) (M' := (va_up M 22 s1)) (As := [.int x2, .int r5, .int r11]) (rest := []) (c_X4_shuttle S X.2.1 M   x2 r5 r11 s (r14, s1) h14) kl_RX4_58 (lc_at197 S _) rfl rfl rfl rfl (Nat.le_of_ble_eq_true rfl) ⟨Nat.le_of_ble_eq_true rfl, Nat.le_of_ble_eq_true rfl⟩ ⟨rfl, rfl⟩ (lc_z2 _ _) dX4_repays_14 rfl ?_
  refine lc_pop C (pc' := 18) dX4_repays_17 rfl rfl ?_
  refine lc_aload_n C (pc' := 19) 0 dX4_repays_18 rfl rfl ?_
  refine lc_g197_now C (pc' := 22) (va_up_self _ _ _) dX4_repays_19 kf_RX4_7 rfl ?_
  refine lc_bipush C (pc' := 24) (v := (47 : Int32)) dX4_repays_22 (by decide) rfl ?_
  refine lc_iconst C (pc' := 25) (v := (5 : Int32)) dX4_repays_24 (by decide) rfl ?_
  refine lc_iload_n C (pc' := 26) 1 dX4_repays_25 rfl rfl ?_
  refine lc_imul C (pc' := 27) dX4_repays_26 rfl ?_
  refine lc_iadd C (pc' := 28) dX4_repays_27 rfl ?_
  refine lc_iconst C (pc' := 29) (v := (2 : Int32)) dX4_repays_28 (by decide) rfl ?_
  refine lc_iadd C (pc' := 30) dX4_repays_29 rfl ?_
  refine lc_dup2 C (pc' := 31) dX4_repays_30 rfl rfl rfl ?_
  obtain ⟨hi31, h⟩ := lc_ife h
  refine lc_ld198 C (pc' := 32) (jj := (((47 : Int32) + ((5 : Int32) * x1)) + (2 : Int32)).toNatClampNeg) (va_up_self _ _ _) hi31 rfl dX4_repays_31 rfl ?_
  refine lc_iload_n C (pc' := 33) 2 dX4_repays_32 rfl rfl ?_
  refine lc_isub C (pc' := 34) dX4_repays_33 rfl ?_
  obtain ⟨hi34, h⟩ := lc_ife h
  obtain ⟨s2, es2, h⟩ := lc_let2 h
  refine lc_sd198 C (pc' := 35) (jj := (((47 : Int32) + ((5 : Int32) * x1)) + (2 : Int32)).toNatClampNeg) (M' := (va_up M 22 s2)) (va_up_self _ _ _) hi34 rfl es2 (lc_up_up _ _ _ _) dX4_repays_34 rfl ?_
  refine lc_aload_n C (pc' := 36) 0 dX4_repays_35 rfl rfl ?_
  refine lc_iload_n C (pc' := 37) 1 dX4_repays_36 rfl rfl ?_
  refine lc_iconst C (pc' := 38) (v := (2 : Int32)) dX4_repays_37 (by decide) rfl ?_
  obtain ⟨r38, h38, h⟩ := lc_bde h
  refine lc_cvi C (pc' := 41) (r := r38) (M' := (va_up M 22 s2)) (As := [.int x1, .int (2 : Int32)]) (rest := []) (c_X4_ofLoan S X.2.1 M   x1 (2 : Int32) s2 r38 h38) kl_RX4_64 (lc_at197 S _) rfl rfl rfl rfl (Nat.le_of_ble_eq_true rfl) ⟨Nat.le_of_ble_eq_true rfl, Nat.le_of_ble_eq_true rfl⟩ ⟨rfl, rfl⟩ (lc_z2 _ _) dX4_repays_38 rfl ?_
  refine lc_istore_n C (pc' := 42) (lo' := [(3, .int r38), (0, .ref (lc_ad S 197)), (1, .int x1), (2, .int x2)]) dX4_repays_41 (Nat.le_of_ble_eq_true rfl) rfl rfl ?_
  refine lc_iload_n C (pc' := 43) 0 dX4_repays_42 rfl rfl ?_
  refine lc_if_ne C (pc' := 46) (tgt := 51) dX4_repays_43 (by decide) rfl (fun c43 => ?_) (fun c43 => ?_)
  · have h := (lc_if2 h).2 c43
    refine lc_iload_n C (pc' := 52) 0 dX4_repays_51 rfl rfl ?_
    obtain rfl := Option.some.inj h
    exact lc_iret C rfl dX4_repays_52
  · have h := (lc_if2 h).1 c43
    refine lc_aload_n C (pc' := 47) 1 dX4_repays_46 rfl rfl ?_
    refine lc_iload_n C (pc' := 48) 2 dX4_repays_47 rfl rfl ?_
    obtain ⟨s3, h48, h⟩ := lc_bde h
    refine lc_cvv C (pc' := 51) (M' := (va_up M 22 s3)) (As := [.int x1]) (rest := []) (c_X4_removeLoan S X.2.1 M   x1 s2 s3 h48) kl_RX4_77 (lc_at197 S _) rfl rfl rfl rfl (Nat.le_of_ble_eq_true rfl) ⟨Nat.le_of_ble_eq_true rfl, Nat.le_of_ble_eq_true rfl⟩ ⟨rfl, rfl⟩ (lc_z2 _ _) dX4_repays_48 rfl ?_
    refine lc_iload_n C (pc' := 52) 0 dX4_repays_51 rfl rfl ?_
    obtain rfl := Option.some.inj h
    exact lc_iret C rfl dX4_repays_52
abbrev rm_X4_repay : Room := { frames := 3, cells := 0, slots := 0, locals := 70 }
def P_X4_repay  (x1 : Int32) (x2 : Int32) (s : lc_St) : Option (Int32 × lc_St) :=
  lc_bd (P_X4_whyNoRepay x1 x2 s) (fun r4 => lc_let (lc_ss s 0 0 r4) (fun s1 => if (s1 0 0) ≤ 0 then lc_bd (P_X4_remember  s1) (fun s2 => lc_bd2 (P_X4_repays x1 x2 s2) (fun r26 s3 => some (r26, s3))) else some ((0 : Int32), s1)))
set_option maxRecDepth 100000 in
set_option maxHeartbeats 4000000 in
theorem c_X4_repay (S : lc_Se) (l : Launch) (M : lc_MM)  (x1 : Int32) (x2 : Int32) (s : lc_St) (out : Int32 × lc_St) (h : P_X4_repay x1 x2 s = some out) : lc_MI S l yX4_repay cX4_repay 3 (some .int) rm_X4_repay [.ref (lc_ad S 197), .int x1, .int x2] (va_up M 22 s) out.1 (va_up M 22 out.2) := by
  refine lc_mkI (own := RX4) pn_RX4 rfl (Nat.le_of_ble_eq_true rfl) (lo := [(0, .ref (lc_ad S 197)), (1, .int x1), (2, .int x2)]) rfl (fun X hX C => ?_)
  rw [P_X4_repay] at h
  refine lc_aload_n C (pc' := 1) 0 dX4_repay_0 rfl rfl ?_
  refine lc_aload_n C (pc' := 2) 0 dX4_repay_1 rfl rfl ?_
  refine lc_iload_n C (pc' := 3) 1 dX4_repay_2 rfl rfl ?_
  refine lc_iload_n C (pc' := 4) 2 dX4_repay_3 rfl rfl ?_
  obtain ⟨r4, h4, h⟩ := lc_bde h
  refine lc_cvi C (pc' := 7) (r := r4) (M' := (va_up M 22 s)) (As := [.int x1, .int x2]) (rest := [.ref (lc_ad S 197)]) (c_X4_whyNoRepay S X.2.1 M   x1 x2 s r4 h4) kl_RX4_184 (lc_at197 S _) rfl rfl rfl rfl (Nat.le_of_ble_eq_true rfl) ⟨Nat.le_of_ble_eq_true rfl, Nat.le_of_ble_eq_true rfl⟩ ⟨rfl, rfl⟩ (lc_z2 _ _) dX4_repay_4 rfl ?_
  obtain ⟨s1, es1, h⟩ := lc_let2 h
  refine lc_p197_thrown C (pc' := 10) (M' := (va_up M 22 s1)) (va_up_self _ _ _) es1 (lc_up_up _ _ _ _) dX4_repay_7 kf_RX4_35 rfl ?_
  refine lc_aload_n C (pc' := 11) 0 dX4_repay_10 rfl rfl ?_
  refine lc_g197_thrown C (pc' := 14) (va_up_self _ _ _) dX4_repay_11 kf_RX4_35 rfl ?_
  refine lc_if_le C (pc' := 17) (tgt := 19) dX4_repay_14 (by decide) rfl (fun c14 => ?_) (fun c14 => ?_)
  · have h := (lc_if2 h).1 c14
    refine lc_aload_n C (pc' := 20) 0 dX4_repay_19 rfl rfl ?_
    obtain ⟨s2, h20, h⟩ := lc_bde h
    refine lc_cvv C (pc' := 23) (M' := (va_up M 22 s2)) (As := []) (rest := []) (c_X4_remember S X.2.1 M    s1 s2 h20) kl_RX4_178 (lc_at197 S _) rfl rfl rfl rfl (Nat.le_of_ble_eq_true rfl) ⟨Nat.le_of_ble_eq_true rfl, Nat.le_of_ble_eq_true rfl⟩ ⟨rfl, rfl⟩ (lc_z2 _ _) dX4_repay_20 rfl ?_
    refine lc_aload_n C (pc' := 24) 0 dX4_repay_23 rfl rfl ?_
    refine lc_iload_n C (pc' := 25) 1 dX4_repay_24 rfl rfl ?_
    refine lc_iload_n C (pc' := 26) 2 dX4_repay_25 rfl rfl ?_
    obtain ⟨r26, s3, h26, h⟩ := lc_bd2e h
    refine lc_cvi C (pc' := 29) (r := r26) (M' := (va_up M 22 s3)) (As := [.int x1, .int x2]) (rest := []) (c_X4_repays S X.2.1 M   x1 x2 s2 (r26, s3) h26) kl_RX4_187 (lc_at197 S _) rfl rfl rfl rfl (Nat.le_of_ble_eq_true rfl) ⟨Nat.le_of_ble_eq_true rfl, Nat.le_of_ble_eq_true rfl⟩ ⟨rfl, rfl⟩ (lc_z2 _ _) dX4_repay_26 rfl ?_
    obtain rfl := Option.some.inj h
    exact lc_iret C rfl dX4_repay_29
  · have h := (lc_if2 h).2 c14
    refine lc_iconst C (pc' := 18) (v := (0 : Int32)) dX4_repay_17 (by decide) rfl ?_
    obtain rfl := Option.some.inj h
    exact lc_iret C rfl dX4_repay_18
abbrev rm_X4_setLeak : Room := { frames := 2, cells := 0, slots := 0, locals := 43 }
def P_X4_setLeak_27  (x1 : Int32) (x2 : Int32) (t1 : Int32) (s : lc_St) : Option (Int32 × lc_St) :=
  lc_let (lc_ss s 0 0 t1) (fun s1 => if (s1 0 0) ≤ 0 then lc_bd (P_X4_remember  s1) (fun s2 => lc_bd (P_X4_of x1 (2 : Int32) s2) (fun r46 => lc_bd (P_X4_more x1 (2 : Int32) (x2 - r46) s2) (fun s3 => some (r46, s3)))) else some ((0 : Int32), s1))
set_option maxRecDepth 100000 in
set_option maxHeartbeats 4000000 in
theorem w_X4_setLeak_27 {S : lc_Se} {X : lc_X} (C : lc_C X cX4_setLeak RX4 4 (some .int) rm_X4_setLeak) {M : lc_MM}  (out : Int32 × lc_St)  : ∀ (x1 : Int32) (x2 : Int32) (t1 : Int32) (s : lc_St), P_X4_setLeak_27  x1 x2 t1 s = some out → lc_J S X 4 0 0 (lc_QI S X 0 0 out.1 (va_up M 22 out.2)) 27 [(0, .ref (lc_ad S 197)), (1, .int x1), (2, .int x2)] [.int t1, .ref (lc_ad S 197)] (va_up M 22 s) := by
  intro x1 x2 t1 s h
  rw [P_X4_setLeak_27] at h
  obtain ⟨s1, es1, h⟩ := lc_let2 h
  refine lc_p197_thrown C (pc' := 30) (M' := (va_up M 22 s1)) (va_up_self _ _ _) es1 (lc_up_up _ _ _ _) dX4_setLeak_27 kf_RX4_35 rfl ?_
  refine lc_aload_n C (pc' := 31) 0 dX4_setLeak_30 rfl rfl ?_
  refine lc_g197_thrown C (pc' := 34) (va_up_self _ _ _) dX4_setLeak_31 kf_RX4_35 rfl ?_
  refine lc_if_le C (pc' := 37) (tgt := 39) dX4_setLeak_34 (by decide) rfl (fun c34 => ?_) (fun c34 => ?_)
  · have h := (lc_if2 h).1 c34
    refine lc_aload_n C (pc' := 40) 0 dX4_setLeak_39 rfl rfl ?_
    obtain ⟨s2, h40, h⟩ := lc_bde h
    refine lc_cvv C (pc' := 43) (M' := (va_up M 22 s2)) (As := []) (rest := []) (c_X4_remember S X.2.1 M    s1 s2 h40) kl_RX4_178 (lc_at197 S _) rfl rfl rfl rfl (Nat.le_of_ble_eq_true rfl) ⟨Nat.le_of_ble_eq_true rfl, Nat.le_of_ble_eq_true rfl⟩ ⟨rfl, rfl⟩ (lc_z2 _ _) dX4_setLeak_40 rfl ?_
    refine lc_aload_n C (pc' := 44) 0 dX4_setLeak_43 rfl rfl ?_
    refine lc_iload_n C (pc' := 45) 1 dX4_setLeak_44 rfl rfl ?_
    refine lc_iconst C (pc' := 46) (v := (2 : Int32)) dX4_setLeak_45 (by decide) rfl ?_
    obtain ⟨r46, h46, h⟩ := lc_bde h
    refine lc_cvi C (pc' := 49) (r := r46) (M' := (va_up M 22 s2)) (As := [.int x1, .int (2 : Int32)]) (rest := []) (c_X4_of S X.2.1 M   x1 (2 : Int32) s2 r46 h46) kl_RX4_43 (lc_at197 S _) rfl rfl rfl rfl (Nat.le_of_ble_eq_true rfl) ⟨Nat.le_of_ble_eq_true rfl, Nat.le_of_ble_eq_true rfl⟩ ⟨rfl, rfl⟩ (lc_z2 _ _) dX4_setLeak_46 rfl ?_
    refine lc_istore_n C (pc' := 50) (lo' := [(3, .int r46), (0, .ref (lc_ad S 197)), (1, .int x1), (2, .int x2)]) dX4_setLeak_49 (Nat.le_of_ble_eq_true rfl) rfl rfl ?_
    refine lc_aload_n C (pc' := 51) 1 dX4_setLeak_50 rfl rfl ?_
    refine lc_iload_n C (pc' := 52) 2 dX4_setLeak_51 rfl rfl ?_
    refine lc_iconst C (pc' := 53) (v := (2 : Int32)) dX4_setLeak_52 (by decide) rfl ?_
    refine lc_iload_n C (pc' := 54) 3 dX4_setLeak_53 rfl rfl ?_
    refine lc_iload_n C (pc' := 55) 0 dX4_setLeak_54 rfl rfl ?_
    refine lc_isub C (pc' := 56) dX4_setLeak_55 rfl ?_
    obtain ⟨s3, h56, h⟩ := lc_bde h
    refine lc_cvv C (pc' := 59) (M' := (va_up M 22 s3)) (As := [.int x1, .int (2 : Int32), .int (x2 - r46)]) (rest := []) (c_X4_more S X.2.1 M   x1 (2 : Int32) (x2 - r46) s2 s3 h56) kl_RX4_54 (lc_at197 S _) rfl rfl rfl rfl (Nat.le_of_ble_eq_true rfl) ⟨Nat.le_of_ble_eq_true rfl, Nat.le_of_ble_eq_true rfl⟩ ⟨rfl, rfl⟩ (lc_z2 _ _) dX4_setLeak_56 rfl ?_
    refine lc_iload_n C (pc' := 60) 0 dX4_setLeak_59 rfl rfl ?_
    obtain rfl := Option.some.inj h
    exact lc_iret C rfl dX4_setLeak_60
  · have h := (lc_if2 h).2 c34
    refine lc_iconst C (pc' := 38) (v := (0 : Int32)) dX4_setLeak_37 (by decide) rfl ?_
    obtain rfl := Option.some.inj h
    exact lc_iret C rfl dX4_setLeak_38
def P_X4_setLeak  (x1 : Int32) (x2 : Int32) (s : lc_St) : Option (Int32 × lc_St) :=
  lc_bd (P_X4_isCell x1 s) (fun r3 => if r3 = 0 then P_X4_setLeak_27   x1 x2 (1 : Int32) s else lc_bd (P_X4_in x2 (0 : Int32) (3 : Int32)) (fun r16 => if r16 = 0 then P_X4_setLeak_27   x1 x2 (2 : Int32) s else P_X4_setLeak_27   x1 x2 (0 : Int32) s))
set_option maxRecDepth 100000 in
set_option maxHeartbeats 4000000 in
theorem c_X4_setLeak (S : lc_Se) (l : Launch) (M : lc_MM)  (x1 : Int32) (x2 : Int32) (s : lc_St) (out : Int32 × lc_St) (h : P_X4_setLeak x1 x2 s = some out) : lc_MI S l yX4_setLeak cX4_setLeak 4 (some .int) rm_X4_setLeak [.ref (lc_ad S 197), .int x1, .int x2] (va_up M 22 s) out.1 (va_up M 22 out.2) := by
  refine lc_mkI (own := RX4) pn_RX4 rfl (Nat.le_of_ble_eq_true rfl) (lo := [(0, .ref (lc_ad S 197)), (1, .int x1), (2, .int x2)]) rfl (fun X hX C => ?_)
  rw [P_X4_setLeak] at h
  refine lc_aload_n C (pc' := 1) 0 dX4_setLeak_0 rfl rfl ?_
  refine lc_aload_n C (pc' := 2) 0 dX4_setLeak_1 rfl rfl ?_
  refine lc_iload_n C (pc' := 3) 1 dX4_setLeak_2 rfl rfl ?_
  obtain ⟨r3, h3, h⟩ := lc_bde h
  refine lc_cvi C (pc' := 6) (r := r3) (M' := (va_up M 22 s)) (As := [.int x1]) (rest := [.ref (lc_ad S 197)]) (c_X4_isCell S X.2.1 M   x1 s r3 h3) kl_RX4_135 (lc_at197 S _) rfl rfl rfl rfl (Nat.le_of_ble_eq_true rfl) ⟨Nat.le_of_ble_eq_true rfl, Nat.le_of_ble_eq_true rfl⟩ ⟨rfl, rfl⟩ (lc_z2 _ _) dX4_setLeak_3 rfl ?_
  refine lc_if_ne C (pc' := 9) (tgt := 13) dX4_setLeak_6 (by decide) rfl (fun c6 => ?_) (fun c6 => ?_)
  · have h := (lc_if2 h).2 c6
    refine lc_iload_n C (pc' := 14) 2 dX4_setLeak_13 rfl rfl ?_
    refine lc_iconst C (pc' := 15) (v := (0 : Int32)) dX4_setLeak_14 (by decide) rfl ?_
    refine lc_iconst C (pc' := 16) (v := (3 : Int32)) dX4_setLeak_15 (by decide) rfl ?_
    obtain ⟨r16, h16, h⟩ := lc_bde h
    refine lc_csi C (pc' := 19) (r := r16) (M' := (va_up M 22 s)) (As := [.int x2, .int (0 : Int32), .int (3 : Int32)]) (rest := [.ref (lc_ad S 197)]) (c_X4_in S X.2.1 (va_up M 22 s)   x2 (0 : Int32) (3 : Int32)  r16 h16) kl_RX4_39 rfl rfl (Nat.le_of_ble_eq_true rfl) ⟨Nat.le_of_ble_eq_true rfl, Nat.le_of_ble_eq_true rfl⟩ ⟨rfl, rfl⟩ (lc_z2 _ _) dX4_setLeak_16 rfl ?_
    refine lc_if_ne C (pc' := 22) (tgt := 26) dX4_setLeak_19 (by decide) rfl (fun c19 => ?_) (fun c19 => ?_)
    · have h := (lc_if2 h).2 c19
      refine lc_iconst C (pc' := 27) (v := (0 : Int32)) dX4_setLeak_26 (by decide) rfl ?_
      exact w_X4_setLeak_27 C   out   x1 x2 (0 : Int32) s h
    · have h := (lc_if2 h).1 c19
      refine lc_iconst C (pc' := 23) (v := (2 : Int32)) dX4_setLeak_22 (by decide) rfl ?_
      refine lc_goto C (tgt := 27) dX4_setLeak_23 (by decide) ?_
      exact w_X4_setLeak_27 C   out   x1 x2 (2 : Int32) s h
  · have h := (lc_if2 h).1 c6
    refine lc_iconst C (pc' := 10) (v := (1 : Int32)) dX4_setLeak_9 (by decide) rfl ?_
    refine lc_goto C (tgt := 27) dX4_setLeak_10 (by decide) ?_
    exact w_X4_setLeak_27 C   out   x1 x2 (1 : Int32) s h
abbrev rm_X4_charge : Room := { frames := 3, cells := 0, slots := 0, locals := 67 }
def P_X4_charge_16  (x1 : Int32) (t1 : Int32) (s : lc_St) : Option (Int32 × lc_St) :=
  lc_let (lc_ss s 0 0 t1) (fun s1 => if (s1 0 0) ≤ 0 then lc_bd (P_X4_remember  s1) (fun s2 => lc_bd2 (P_X4_charges x1 s2) (fun r34 s3 => some (r34, s3))) else some ((0 : Int32), s1))
set_option maxRecDepth 100000 in
set_option maxHeartbeats 4000000 in
theorem w_X4_charge_16 {S : lc_Se} {X : lc_X} (C : lc_C X cX4_charge RX4 2 (some .int) rm_X4_charge) {M : lc_MM}  (out : Int32 × lc_St)  : ∀ (x1 : Int32) (t1 : Int32) (s : lc_St), P_X4_charge_16  x1 t1 s = some out → lc_J S X 2 0 0 (lc_QI S X 0 0 out.1 (va_up M 22 out.2)) 16 [(0, .ref (lc_ad S 197)), (1, .int x1)] [.int t1, .ref (lc_ad S 197)] (va_up M 22 s) := by
  intro x1 t1 s h
  rw [P_X4_charge_16] at h
  obtain ⟨s1, es1, h⟩ := lc_let2 h
  refine lc_p197_thrown C (pc' := 19) (M' := (va_up M 22 s1)) (va_up_self _ _ _) es1 (lc_up_up _ _ _ _) dX4_charge_16 kf_RX4_35 rfl ?_
  refine lc_aload_n C (pc' := 20) 0 dX4_charge_19 rfl rfl ?_
  refine lc_g197_thrown C (pc' := 23) (va_up_self _ _ _) dX4_charge_20 kf_RX4_35 rfl ?_
  refine lc_if_le C (pc' := 26) (tgt := 28) dX4_charge_23 (by decide) rfl (fun c23 => ?_) (fun c23 => ?_)
  · have h := (lc_if2 h).1 c23
    refine lc_aload_n C (pc' := 29) 0 dX4_charge_28 rfl rfl ?_
    obtain ⟨s2, h29, h⟩ := lc_bde h
    refine lc_cvv C (pc' := 32) (M' := (va_up M 22 s2)) (As := []) (rest := []) (c_X4_remember S X.2.1 M    s1 s2 h29) kl_RX4_178 (lc_at197 S _) rfl rfl rfl rfl (Nat.le_of_ble_eq_true rfl) ⟨Nat.le_of_ble_eq_true rfl, Nat.le_of_ble_eq_true rfl⟩ ⟨rfl, rfl⟩ (lc_z2 _ _) dX4_charge_29 rfl ?_
    refine lc_aload_n C (pc' := 33) 0 dX4_charge_32 rfl rfl ?_
    refine lc_iload_n C (pc' := 34) 1 dX4_charge_33 rfl rfl ?_
    obtain ⟨r34, s3, h34, h⟩ := lc_bd2e h
    refine lc_cvi C (pc' := 37) (r := r34) (M' := (va_up M 22 s3)) (As := [.int x1]) (rest := []) (c_X4_charges S X.2.1 M   x1 s2 (r34, s3) h34) kl_RX4_190 (lc_at197 S _) rfl rfl rfl rfl (Nat.le_of_ble_eq_true rfl) ⟨Nat.le_of_ble_eq_true rfl, Nat.le_of_ble_eq_true rfl⟩ ⟨rfl, rfl⟩ (lc_z2 _ _) dX4_charge_34 rfl ?_
    obtain rfl := Option.some.inj h
    exact lc_iret C rfl dX4_charge_37
  · have h := (lc_if2 h).2 c23
    refine lc_iconst C (pc' := 27) (v := (0 : Int32)) dX4_charge_26 (by decide) rfl ?_
    obtain rfl := Option.some.inj h
    exact lc_iret C rfl dX4_charge_27
def P_X4_charge  (x1 : Int32) (s : lc_St) : Option (Int32 × lc_St) :=
  lc_bd (P_X4_in x1 (1 : Int32) (99 : Int32)) (fun r5 => if r5 = 0 then P_X4_charge_16   x1 (1 : Int32) s else P_X4_charge_16   x1 (0 : Int32) s)
set_option maxRecDepth 100000 in
set_option maxHeartbeats 4000000 in
theorem c_X4_charge (S : lc_Se) (l : Launch) (M : lc_MM)  (x1 : Int32) (s : lc_St) (out : Int32 × lc_St) (h : P_X4_charge x1 s = some out) : lc_MI S l yX4_charge cX4_charge 2 (some .int) rm_X4_charge [.ref (lc_ad S 197), .int x1] (va_up M 22 s) out.1 (va_up M 22 out.2) := by
  refine lc_mkI (own := RX4) pn_RX4 rfl (Nat.le_of_ble_eq_true rfl) (lo := [(0, .ref (lc_ad S 197)), (1, .int x1)]) rfl (fun X hX C => ?_)
  rw [P_X4_charge] at h
  refine lc_aload_n C (pc' := 1) 0 dX4_charge_0 rfl rfl ?_
  refine lc_iload_n C (pc' := 2) 1 dX4_charge_1 rfl rfl ?_
  refine lc_iconst C (pc' := 3) (v := (1 : Int32)) dX4_charge_2 (by decide) rfl ?_
  refine lc_bipush C (pc' := 5) (v := (99 : Int32)) dX4_charge_3 (by decide) rfl ?_
  obtain ⟨r5, h5, h⟩ := lc_bde h
  refine lc_csi C (pc' := 8) (r := r5) (M' := (va_up M 22 s)) (As := [.int x1, .int (1 : Int32), .int (99 : Int32)]) (rest := [.ref (lc_ad S 197)]) (c_X4_in S X.2.1 (va_up M 22 s)   x1 (1 : Int32) (99 : Int32)  r5 h5) kl_RX4_39 rfl rfl (Nat.le_of_ble_eq_true rfl) ⟨Nat.le_of_ble_eq_true rfl, Nat.le_of_ble_eq_true rfl⟩ ⟨rfl, rfl⟩ (lc_z2 _ _) dX4_charge_5 rfl ?_
  refine lc_if_eq C (pc' := 11) (tgt := 15) dX4_charge_8 (by decide) rfl (fun c8 => ?_) (fun c8 => ?_)
  · have h := (lc_if2 h).1 c8
    refine lc_iconst C (pc' := 16) (v := (1 : Int32)) dX4_charge_15 (by decide) rfl ?_
    exact w_X4_charge_16 C   out   x1 (1 : Int32) s h
  · have h := (lc_if2 h).2 c8
    refine lc_iconst C (pc' := 12) (v := (0 : Int32)) dX4_charge_11 (by decide) rfl ?_
    refine lc_goto C (tgt := 16) dX4_charge_12 (by decide) ?_
    exact w_X4_charge_16 C   out   x1 (0 : Int32) s h
abbrev rm_X4_draw : Room := { frames := 6, cells := 0, slots := 0, locals := 142 }
def P_X4_draw_96  : Nat → Int32 → Int32 → lc_St → Option (Int32 × lc_St)
  | 0, _, _, _ => none
  | n + 1, x2, x3, s =>
    if (107 : Int32) ≤ x3 then some (x2, s) else lc_if (lc_ok x3 107) (lc_if (lc_ok x3 107) (lc_let (lc_ss s 1 (x3.toNatClampNeg) (s 8 x3.toNatClampNeg)) (fun s7 => lc_let (x3 + (1 : Int32)) (fun x3_114 => P_X4_draw_96  n x2 x3_114 s7))))
set_option maxRecDepth 100000 in
set_option maxHeartbeats 4000000 in
theorem w_X4_draw_96 {S : lc_Se} {X : lc_X} (C : lc_C X cX4_draw RX4 4 (some .int) rm_X4_draw) {M : lc_MM}  (out : Int32 × lc_St)  : ∀ (n : Nat) (x2 : Int32) (x3 : Int32) (s : lc_St), P_X4_draw_96  n x2 x3 s = some out → lc_J S X 4 0 0 (lc_QI S X 0 0 out.1 (va_up M 22 out.2)) 96 [(0, .ref (lc_ad S 197)), (2, .int x2), (3, .int x3)] [] (va_up M 22 s) := by
  intro n
  induction n with
  | zero =>
    intro x2 x3 s h
    rw [P_X4_draw_96] at h
    cases h
  | succ n ih =>
    intro x2 x3 s h
    rw [P_X4_draw_96] at h
    refine lc_iload_n C (pc' := 97) 2 dX4_draw_96 rfl rfl ?_
    refine lc_bipush C (pc' := 99) (v := (107 : Int32)) dX4_draw_97 (by decide) rfl ?_
    refine lc_icmp_ge C (pc' := 102) (tgt := 120) dX4_draw_99 (by decide) rfl (fun c99 => ?_) (fun c99 => ?_)
    · have h := (lc_if2 h).1 c99
      refine lc_iload_n C (pc' := 121) 1 dX4_draw_120 rfl rfl ?_
      obtain rfl := Option.some.inj h
      exact lc_iret C rfl dX4_draw_121
    · have h := (lc_if2 h).2 c99
      refine lc_aload_n C (pc' := 103) 0 dX4_draw_102 rfl rfl ?_
      refine lc_g197_now C (pc' := 106) (va_up_self _ _ _) dX4_draw_103 kf_RX4_7 rfl ?_
      refine lc_iload_n C (pc' := 107) 2 dX4_draw_106 rfl rfl ?_
      refine lc_aload_n C (pc' := 108) 0 dX4_draw_107 rfl rfl ?_
      refine lc_g197_ahead C (pc' := 111) (va_up_self _ _ _) dX4_draw_108 kf_RX4_32 rfl ?_
      refine lc_iload_n C (pc' := 112) 2 dX4_draw_111 rfl rfl ?_
      obtain ⟨hi112, h⟩ := lc_ife h
      refine lc_ld205 C (pc' := 113) (jj := x3.toNatClampNeg) (va_up_self _ _ _) hi112 rfl dX4_draw_112 rfl ?_
      obtain ⟨hi113, h⟩ := lc_ife h
      obtain ⟨s7, es7, h⟩ := lc_let2 h
      refine lc_sd198 C (pc' := 114) (jj := x3.toNatClampNeg) (M' := (va_up M 22 s7)) (va_up_self _ _ _) hi113 rfl es7 (lc_up_up _ _ _ _) dX4_draw_113 rfl ?_
      obtain ⟨x3_114, e3_114, h⟩ := lc_let2 h
      refine lc_iinc C (pc' := 117) (lo' := [(3, .int x3_114), (0, .ref (lc_ad S 197)), (2, .int x2)]) (q := 2) dX4_draw_114 rfl (by rw [← e3_114]; rfl) (Nat.le_of_ble_eq_true rfl) rfl rfl ?_
      refine lc_goto C (tgt := 96) dX4_draw_117 (by decide) ?_
      refine lc_sub (lo' := [(0, .ref (lc_ad S 197)), (2, .int x2), (3, .int x3_114)]) [1, 2, 0] rfl ?_
      exact ih x2 x3_114 s7 h
def P_X4_draw_62  : Nat → Int32 → Int32 → lc_St → Option (Int32 × lc_St)
  | 0, _, _, _ => none
  | n + 1, x2, x3, s =>
    if (107 : Int32) ≤ x3 then lc_bd (P_X4_putBack  s) (fun s5 => lc_bd (P_X4_remember  s5) (fun s6 => P_X4_draw_96  lc_FU x2 (0 : Int32) s6)) else lc_if (lc_ok x3 107) (lc_if (lc_ok x3 107) (lc_let (lc_ss s 8 (x3.toNatClampNeg) (s 1 x3.toNatClampNeg)) (fun s8 => lc_let (x3 + (1 : Int32)) (fun x3_80 => P_X4_draw_62  n x2 x3_80 s8))))
set_option maxRecDepth 100000 in
set_option maxHeartbeats 4000000 in
theorem w_X4_draw_62 {S : lc_Se} {X : lc_X} (C : lc_C X cX4_draw RX4 4 (some .int) rm_X4_draw) {M : lc_MM}  (out : Int32 × lc_St)  : ∀ (n : Nat) (x2 : Int32) (x3 : Int32) (s : lc_St), P_X4_draw_62  n x2 x3 s = some out → lc_J S X 4 0 0 (lc_QI S X 0 0 out.1 (va_up M 22 out.2)) 62 [(0, .ref (lc_ad S 197)), (2, .int x2), (3, .int x3)] [] (va_up M 22 s) := by
  intro n
  induction n with
  | zero =>
    intro x2 x3 s h
    rw [P_X4_draw_62] at h
    cases h
  | succ n ih =>
    intro x2 x3 s h
    rw [P_X4_draw_62] at h
    refine lc_iload_n C (pc' := 63) 2 dX4_draw_62 rfl rfl ?_
    refine lc_bipush C (pc' := 65) (v := (107 : Int32)) dX4_draw_63 (by decide) rfl ?_
    refine lc_icmp_ge C (pc' := 68) (tgt := 86) dX4_draw_65 (by decide) rfl (fun c65 => ?_) (fun c65 => ?_)
    · have h := (lc_if2 h).1 c65
      refine lc_aload_n C (pc' := 87) 0 dX4_draw_86 rfl rfl ?_
      obtain ⟨s5, h87, h⟩ := lc_bde h
      refine lc_cvv C (pc' := 90) (M' := (va_up M 22 s5)) (As := []) (rest := []) (c_X4_putBack S X.2.1 M    s s5 h87) kl_RX4_157 (lc_at197 S _) rfl rfl rfl rfl (Nat.le_of_ble_eq_true rfl) ⟨Nat.le_of_ble_eq_true rfl, Nat.le_of_ble_eq_true rfl⟩ ⟨rfl, rfl⟩ (lc_z2 _ _) dX4_draw_87 rfl ?_
      refine lc_aload_n C (pc' := 91) 0 dX4_draw_90 rfl rfl ?_
      obtain ⟨s6, h91, h⟩ := lc_bde h
      refine lc_cvv C (pc' := 94) (M' := (va_up M 22 s6)) (As := []) (rest := []) (c_X4_remember S X.2.1 M    s5 s6 h91) kl_RX4_178 (lc_at197 S _) rfl rfl rfl rfl (Nat.le_of_ble_eq_true rfl) ⟨Nat.le_of_ble_eq_true rfl, Nat.le_of_ble_eq_true rfl⟩ ⟨rfl, rfl⟩ (lc_z2 _ _) dX4_draw_91 rfl ?_
      refine lc_iconst C (pc' := 95) (v := (0 : Int32)) dX4_draw_94 (by decide) rfl ?_
      refine lc_istore_n C (pc' := 96) (lo' := [(3, .int (0 : Int32)), (0, .ref (lc_ad S 197)), (2, .int x2)]) dX4_draw_95 (Nat.le_of_ble_eq_true rfl) rfl rfl ?_
      refine lc_sub (lo' := [(0, .ref (lc_ad S 197)), (2, .int x2), (3, .int (0 : Int32))]) [1, 2, 0] rfl ?_
      exact w_X4_draw_96 C   out  lc_FU x2 (0 : Int32) s6 h
    · have h := (lc_if2 h).2 c65
      refine lc_aload_n C (pc' := 69) 0 dX4_draw_68 rfl rfl ?_
      refine lc_g197_ahead C (pc' := 72) (va_up_self _ _ _) dX4_draw_69 kf_RX4_32 rfl ?_
      refine lc_iload_n C (pc' := 73) 2 dX4_draw_72 rfl rfl ?_
      refine lc_aload_n C (pc' := 74) 0 dX4_draw_73 rfl rfl ?_
      refine lc_g197_now C (pc' := 77) (va_up_self _ _ _) dX4_draw_74 kf_RX4_7 rfl ?_
      refine lc_iload_n C (pc' := 78) 2 dX4_draw_77 rfl rfl ?_
      obtain ⟨hi78, h⟩ := lc_ife h
      refine lc_ld198 C (pc' := 79) (jj := x3.toNatClampNeg) (va_up_self _ _ _) hi78 rfl dX4_draw_78 rfl ?_
      obtain ⟨hi79, h⟩ := lc_ife h
      obtain ⟨s8, es8, h⟩ := lc_let2 h
      refine lc_sd205 C (pc' := 80) (jj := x3.toNatClampNeg) (M' := (va_up M 22 s8)) (va_up_self _ _ _) hi79 rfl es8 (lc_up_up _ _ _ _) dX4_draw_79 rfl ?_
      obtain ⟨x3_80, e3_80, h⟩ := lc_let2 h
      refine lc_iinc C (pc' := 83) (lo' := [(3, .int x3_80), (0, .ref (lc_ad S 197)), (2, .int x2)]) (q := 2) dX4_draw_80 rfl (by rw [← e3_80]; rfl) (Nat.le_of_ble_eq_true rfl) rfl rfl ?_
      refine lc_goto C (tgt := 62) dX4_draw_83 (by decide) ?_
      refine lc_sub (lo' := [(0, .ref (lc_ad S 197)), (2, .int x2), (3, .int x3_80)]) [1, 2, 0] rfl ?_
      exact ih x2 x3_80 s8 h
def P_X4_draw_48  (x2 : Int32) (t1 : Int32) (s : lc_St) : Option (Int32 × lc_St) :=
  lc_let (lc_ss s 0 0 t1) (fun s4 => if (s4 0 0) ≤ 0 then P_X4_draw_62  lc_FU x2 (0 : Int32) s4 else some ((0 : Int32), s4))
set_option maxRecDepth 100000 in
set_option maxHeartbeats 4000000 in
theorem w_X4_draw_48 {S : lc_Se} {X : lc_X} (C : lc_C X cX4_draw RX4 4 (some .int) rm_X4_draw) {M : lc_MM}  (out : Int32 × lc_St)  : ∀ (x2 : Int32) (t1 : Int32) (s : lc_St), P_X4_draw_48  x2 t1 s = some out → lc_J S X 4 0 0 (lc_QI S X 0 0 out.1 (va_up M 22 out.2)) 48 [(0, .ref (lc_ad S 197)), (2, .int x2)] [.int t1, .ref (lc_ad S 197)] (va_up M 22 s) := by
  intro x2 t1 s h
  rw [P_X4_draw_48] at h
  obtain ⟨s4, es4, h⟩ := lc_let2 h
  refine lc_p197_thrown C (pc' := 51) (M' := (va_up M 22 s4)) (va_up_self _ _ _) es4 (lc_up_up _ _ _ _) dX4_draw_48 kf_RX4_35 rfl ?_
  refine lc_aload_n C (pc' := 52) 0 dX4_draw_51 rfl rfl ?_
  refine lc_g197_thrown C (pc' := 55) (va_up_self _ _ _) dX4_draw_52 kf_RX4_35 rfl ?_
  refine lc_if_le C (pc' := 58) (tgt := 60) dX4_draw_55 (by decide) rfl (fun c55 => ?_) (fun c55 => ?_)
  · have h := (lc_if2 h).1 c55
    refine lc_iconst C (pc' := 61) (v := (0 : Int32)) dX4_draw_60 (by decide) rfl ?_
    refine lc_istore_n C (pc' := 62) (lo' := [(3, .int (0 : Int32)), (0, .ref (lc_ad S 197)), (2, .int x2)]) dX4_draw_61 (Nat.le_of_ble_eq_true rfl) rfl rfl ?_
    refine lc_sub (lo' := [(0, .ref (lc_ad S 197)), (2, .int x2), (3, .int (0 : Int32))]) [1, 2, 0] rfl ?_
    exact w_X4_draw_62 C   out  lc_FU x2 (0 : Int32) s4 h
  · have h := (lc_if2 h).2 c55
    refine lc_iconst C (pc' := 59) (v := (0 : Int32)) dX4_draw_58 (by decide) rfl ?_
    obtain rfl := Option.some.inj h
    exact lc_iret C rfl dX4_draw_59
def P_X4_draw_16  (x1 : Int32) (t1 : Int32) (s : lc_St) : Option (Int32 × lc_St) :=
  lc_let (lc_ss s 0 0 t1) (fun s1 => if (s1 0 0) ≤ 0 then lc_bd (P_X4_layPut  s1) (fun s2 => lc_bd2 (P_X4_drawn x1 s2) (fun r34 s3 => if r34 = 0 then P_X4_draw_48   r34 (2 : Int32) s3 else P_X4_draw_48   r34 (0 : Int32) s3)) else some ((0 : Int32), s1))
set_option maxRecDepth 100000 in
set_option maxHeartbeats 4000000 in
theorem w_X4_draw_16 {S : lc_Se} {X : lc_X} (C : lc_C X cX4_draw RX4 4 (some .int) rm_X4_draw) {M : lc_MM}  (out : Int32 × lc_St)  : ∀ (x1 : Int32) (t1 : Int32) (s : lc_St), P_X4_draw_16  x1 t1 s = some out → lc_J S X 4 0 0 (lc_QI S X 0 0 out.1 (va_up M 22 out.2)) 16 [(0, .ref (lc_ad S 197)), (1, .int x1)] [.int t1, .ref (lc_ad S 197)] (va_up M 22 s) := by
  intro x1 t1 s h
  rw [P_X4_draw_16] at h
  obtain ⟨s1, es1, h⟩ := lc_let2 h
  refine lc_p197_thrown C (pc' := 19) (M' := (va_up M 22 s1)) (va_up_self _ _ _) es1 (lc_up_up _ _ _ _) dX4_draw_16 kf_RX4_35 rfl ?_
  refine lc_aload_n C (pc' := 20) 0 dX4_draw_19 rfl rfl ?_
  refine lc_g197_thrown C (pc' := 23) (va_up_self _ _ _) dX4_draw_20 kf_RX4_35 rfl ?_
  refine lc_if_le C (pc' := 26) (tgt := 28) dX4_draw_23 (by decide) rfl (fun c23 => ?_) (fun c23 => ?_)
  · have h := (lc_if2 h).1 c23
    refine lc_aload_n C (pc' := 29) 0 dX4_draw_28 rfl rfl ?_
    obtain ⟨s2, h29, h⟩ := lc_bde h
    refine lc_cvv C (pc' := 32) (M' := (va_up M 22 s2)) (As := []) (rest := []) (c_X4_layPut S X.2.1 M    s1 s2 h29) kl_RX4_150 (lc_at197 S _) rfl rfl rfl rfl (Nat.le_of_ble_eq_true rfl) ⟨Nat.le_of_ble_eq_true rfl, Nat.le_of_ble_eq_true rfl⟩ ⟨rfl, rfl⟩ (lc_z2 _ _) dX4_draw_29 rfl ?_
    refine lc_aload_n C (pc' := 33) 0 dX4_draw_32 rfl rfl ?_
    refine lc_iload_n C (pc' := 34) 1 dX4_draw_33 rfl rfl ?_
    obtain ⟨r34, s3, h34, h⟩ := lc_bd2e h
    refine lc_cvi C (pc' := 37) (r := r34) (M' := (va_up M 22 s3)) (As := [.int x1]) (rest := []) (c_X4_drawn S X.2.1 M   x1 s2 (r34, s3) h34) kl_RX4_193 (lc_at197 S _) rfl rfl rfl rfl (Nat.le_of_ble_eq_true rfl) ⟨Nat.le_of_ble_eq_true rfl, Nat.le_of_ble_eq_true rfl⟩ ⟨rfl, rfl⟩ (lc_z2 _ _) dX4_draw_34 rfl ?_
    refine lc_istore_n C (pc' := 38) (lo' := [(2, .int r34), (0, .ref (lc_ad S 197)), (1, .int x1)]) dX4_draw_37 (Nat.le_of_ble_eq_true rfl) rfl rfl ?_
    refine lc_aload_n C (pc' := 39) 1 dX4_draw_38 rfl rfl ?_
    refine lc_iload_n C (pc' := 40) 0 dX4_draw_39 rfl rfl ?_
    refine lc_if_ne C (pc' := 43) (tgt := 47) dX4_draw_40 (by decide) rfl (fun c40 => ?_) (fun c40 => ?_)
    · have h := (lc_if2 h).2 c40
      refine lc_iconst C (pc' := 48) (v := (0 : Int32)) dX4_draw_47 (by decide) rfl ?_
      refine lc_sub (lo' := [(0, .ref (lc_ad S 197)), (2, .int r34)]) [1, 0] rfl ?_
      exact w_X4_draw_48 C   out   r34 (0 : Int32) s3 h
    · have h := (lc_if2 h).1 c40
      refine lc_iconst C (pc' := 44) (v := (2 : Int32)) dX4_draw_43 (by decide) rfl ?_
      refine lc_goto C (tgt := 48) dX4_draw_44 (by decide) ?_
      refine lc_sub (lo' := [(0, .ref (lc_ad S 197)), (2, .int r34)]) [1, 0] rfl ?_
      exact w_X4_draw_48 C   out   r34 (2 : Int32) s3 h
  · have h := (lc_if2 h).2 c23
    refine lc_iconst C (pc' := 27) (v := (0 : Int32)) dX4_draw_26 (by decide) rfl ?_
    obtain rfl := Option.some.inj h
    exact lc_iret C rfl dX4_draw_27
def P_X4_draw  (x1 : Int32) (s : lc_St) : Option (Int32 × lc_St) :=
  lc_bd (P_X4_in x1 (1 : Int32) (99 : Int32)) (fun r5 => if r5 = 0 then P_X4_draw_16   x1 (1 : Int32) s else P_X4_draw_16   x1 (0 : Int32) s)
set_option maxRecDepth 100000 in
set_option maxHeartbeats 4000000 in
theorem c_X4_draw (S : lc_Se) (l : Launch) (M : lc_MM)  (x1 : Int32) (s : lc_St) (out : Int32 × lc_St) (h : P_X4_draw x1 s = some out) : lc_MI S l yX4_draw cX4_draw 4 (some .int) rm_X4_draw [.ref (lc_ad S 197), .int x1] (va_up M 22 s) out.1 (va_up M 22 out.2) := by
  refine lc_mkI (own := RX4) pn_RX4 rfl (Nat.le_of_ble_eq_true rfl) (lo := [(0, .ref (lc_ad S 197)), (1, .int x1)]) rfl (fun X hX C => ?_)
  rw [P_X4_draw] at h
  refine lc_aload_n C (pc' := 1) 0 dX4_draw_0 rfl rfl ?_
  refine lc_iload_n C (pc' := 2) 1 dX4_draw_1 rfl rfl ?_
  refine lc_iconst C (pc' := 3) (v := (1 : Int32)) dX4_draw_2 (by decide) rfl ?_
  refine lc_bipush C (pc' := 5) (v := (99 : Int32)) dX4_draw_3 (by decide) rfl ?_
  obtain ⟨r5, h5, h⟩ := lc_bde h
  refine lc_csi C (pc' := 8) (r := r5) (M' := (va_up M 22 s)) (As := [.int x1, .int (1 : Int32), .int (99 : Int32)]) (rest := [.ref (lc_ad S 197)]) (c_X4_in S X.2.1 (va_up M 22 s)   x1 (1 : Int32) (99 : Int32)  r5 h5) kl_RX4_39 rfl rfl (Nat.le_of_ble_eq_true rfl) ⟨Nat.le_of_ble_eq_true rfl, Nat.le_of_ble_eq_true rfl⟩ ⟨rfl, rfl⟩ (lc_z2 _ _) dX4_draw_5 rfl ?_
  refine lc_if_eq C (pc' := 11) (tgt := 15) dX4_draw_8 (by decide) rfl (fun c8 => ?_) (fun c8 => ?_)
  · have h := (lc_if2 h).1 c8
    refine lc_iconst C (pc' := 16) (v := (1 : Int32)) dX4_draw_15 (by decide) rfl ?_
    exact w_X4_draw_16 C   out   x1 (1 : Int32) s h
  · have h := (lc_if2 h).2 c8
    refine lc_iconst C (pc' := 12) (v := (0 : Int32)) dX4_draw_11 (by decide) rfl ?_
    refine lc_goto C (tgt := 16) dX4_draw_12 (by decide) ?_
    exact w_X4_draw_16 C   out   x1 (0 : Int32) s h
abbrev rm_X4_pass : Room := { frames := 5, cells := 0, slots := 0, locals := 119 }
def P_X4_pass_16  (x1 : Int32) (t1 : Int32) (s : lc_St) : Option (Int32 × lc_St) :=
  lc_let (lc_ss s 0 0 t1) (fun s1 => if (s1 0 0) ≤ 0 then lc_bd (P_X4_remember  s1) (fun s2 => lc_bd2 (P_X4_rounds x1 s2) (fun r34 s3 => some (r34, s3))) else some ((0 : Int32), s1))
set_option maxRecDepth 100000 in
set_option maxHeartbeats 4000000 in
theorem w_X4_pass_16 {S : lc_Se} {X : lc_X} (C : lc_C X cX4_pass RX4 2 (some .int) rm_X4_pass) {M : lc_MM}  (out : Int32 × lc_St)  : ∀ (x1 : Int32) (t1 : Int32) (s : lc_St), P_X4_pass_16  x1 t1 s = some out → lc_J S X 2 0 0 (lc_QI S X 0 0 out.1 (va_up M 22 out.2)) 16 [(0, .ref (lc_ad S 197)), (1, .int x1)] [.int t1, .ref (lc_ad S 197)] (va_up M 22 s) := by
  intro x1 t1 s h
  rw [P_X4_pass_16] at h
  obtain ⟨s1, es1, h⟩ := lc_let2 h
  refine lc_p197_thrown C (pc' := 19) (M' := (va_up M 22 s1)) (va_up_self _ _ _) es1 (lc_up_up _ _ _ _) dX4_pass_16 kf_RX4_35 rfl ?_
  refine lc_aload_n C (pc' := 20) 0 dX4_pass_19 rfl rfl ?_
  refine lc_g197_thrown C (pc' := 23) (va_up_self _ _ _) dX4_pass_20 kf_RX4_35 rfl ?_
  refine lc_if_le C (pc' := 26) (tgt := 28) dX4_pass_23 (by decide) rfl (fun c23 => ?_) (fun c23 => ?_)
  · have h := (lc_if2 h).1 c23
    refine lc_aload_n C (pc' := 29) 0 dX4_pass_28 rfl rfl ?_
    obtain ⟨s2, h29, h⟩ := lc_bde h
    refine lc_cvv C (pc' := 32) (M' := (va_up M 22 s2)) (As := []) (rest := []) (c_X4_remember S X.2.1 M    s1 s2 h29) kl_RX4_178 (lc_at197 S _) rfl rfl rfl rfl (Nat.le_of_ble_eq_true rfl) ⟨Nat.le_of_ble_eq_true rfl, Nat.le_of_ble_eq_true rfl⟩ ⟨rfl, rfl⟩ (lc_z2 _ _) dX4_pass_29 rfl ?_
    refine lc_aload_n C (pc' := 33) 0 dX4_pass_32 rfl rfl ?_
    refine lc_iload_n C (pc' := 34) 1 dX4_pass_33 rfl rfl ?_
    obtain ⟨r34, s3, h34, h⟩ := lc_bd2e h
    refine lc_cvi C (pc' := 37) (r := r34) (M' := (va_up M 22 s3)) (As := [.int x1]) (rest := []) (c_X4_rounds S X.2.1 M   x1 s2 (r34, s3) h34) kl_RX4_196 (lc_at197 S _) rfl rfl rfl rfl (Nat.le_of_ble_eq_true rfl) ⟨Nat.le_of_ble_eq_true rfl, Nat.le_of_ble_eq_true rfl⟩ ⟨rfl, rfl⟩ (lc_z2 _ _) dX4_pass_34 rfl ?_
    obtain rfl := Option.some.inj h
    exact lc_iret C rfl dX4_pass_37
  · have h := (lc_if2 h).2 c23
    refine lc_iconst C (pc' := 27) (v := (0 : Int32)) dX4_pass_26 (by decide) rfl ?_
    obtain rfl := Option.some.inj h
    exact lc_iret C rfl dX4_pass_27
def P_X4_pass  (x1 : Int32) (s : lc_St) : Option (Int32 × lc_St) :=
  lc_bd (P_X4_in x1 (1 : Int32) (50 : Int32)) (fun r5 => if r5 = 0 then P_X4_pass_16   x1 (1 : Int32) s else P_X4_pass_16   x1 (0 : Int32) s)
set_option maxRecDepth 100000 in
set_option maxHeartbeats 4000000 in
theorem c_X4_pass (S : lc_Se) (l : Launch) (M : lc_MM)  (x1 : Int32) (s : lc_St) (out : Int32 × lc_St) (h : P_X4_pass x1 s = some out) : lc_MI S l yX4_pass cX4_pass 2 (some .int) rm_X4_pass [.ref (lc_ad S 197), .int x1] (va_up M 22 s) out.1 (va_up M 22 out.2) := by
  refine lc_mkI (own := RX4) pn_RX4 rfl (Nat.le_of_ble_eq_true rfl) (lo := [(0, .ref (lc_ad S 197)), (1, .int x1)]) rfl (fun X hX C => ?_)
  rw [P_X4_pass] at h
  refine lc_aload_n C (pc' := 1) 0 dX4_pass_0 rfl rfl ?_
  refine lc_iload_n C (pc' := 2) 1 dX4_pass_1 rfl rfl ?_
  refine lc_iconst C (pc' := 3) (v := (1 : Int32)) dX4_pass_2 (by decide) rfl ?_
  refine lc_bipush C (pc' := 5) (v := (50 : Int32)) dX4_pass_3 (by decide) rfl ?_
  obtain ⟨r5, h5, h⟩ := lc_bde h
  refine lc_csi C (pc' := 8) (r := r5) (M' := (va_up M 22 s)) (As := [.int x1, .int (1 : Int32), .int (50 : Int32)]) (rest := [.ref (lc_ad S 197)]) (c_X4_in S X.2.1 (va_up M 22 s)   x1 (1 : Int32) (50 : Int32)  r5 h5) kl_RX4_39 rfl rfl (Nat.le_of_ble_eq_true rfl) ⟨Nat.le_of_ble_eq_true rfl, Nat.le_of_ble_eq_true rfl⟩ ⟨rfl, rfl⟩ (lc_z2 _ _) dX4_pass_5 rfl ?_
  refine lc_if_eq C (pc' := 11) (tgt := 15) dX4_pass_8 (by decide) rfl (fun c8 => ?_) (fun c8 => ?_)
  · have h := (lc_if2 h).1 c8
    refine lc_iconst C (pc' := 16) (v := (1 : Int32)) dX4_pass_15 (by decide) rfl ?_
    exact w_X4_pass_16 C   out   x1 (1 : Int32) s h
  · have h := (lc_if2 h).2 c8
    refine lc_iconst C (pc' := 12) (v := (0 : Int32)) dX4_pass_11 (by decide) rfl ?_
    refine lc_goto C (tgt := 16) dX4_pass_12 (by decide) ?_
    exact w_X4_pass_16 C   out   x1 (0 : Int32) s h
abbrev rm_X4_undo : Room := { frames := 0, cells := 0, slots := 0, locals := 0 }
def P_X4_undo_37  : Nat → Int32 → lc_St → Option (Int32 × lc_St)
  | 0, _, _ => none
  | n + 1, x1, s =>
    if (107 : Int32) ≤ x1 then some ((s 0 1), s) else lc_if (lc_ok (((107 : Int32) * (s 0 1)) + x1) 1498) (lc_if (lc_ok x1 107) (lc_let (lc_ss s 1 (x1.toNatClampNeg) (s 5 (((107 : Int32) * (s 0 1)) + x1).toNatClampNeg)) (fun s3 => lc_let (x1 + (1 : Int32)) (fun x1_63 => P_X4_undo_37  n x1_63 s3))))
set_option maxRecDepth 100000 in
set_option maxHeartbeats 4000000 in
theorem w_X4_undo_37 {S : lc_Se} {X : lc_X} (C : lc_C X cX4_undo RX4 2 (some .int) rm_X4_undo) {M : lc_MM}  (out : Int32 × lc_St)  : ∀ (n : Nat) (x1 : Int32) (s : lc_St), P_X4_undo_37  n x1 s = some out → lc_J S X 2 0 0 (lc_QI S X 0 0 out.1 (va_up M 22 out.2)) 37 [(0, .ref (lc_ad S 197)), (1, .int x1)] [] (va_up M 22 s) := by
  intro n
  induction n with
  | zero =>
    intro x1 s h
    rw [P_X4_undo_37] at h
    cases h
  | succ n ih =>
    intro x1 s h
    rw [P_X4_undo_37] at h
    refine lc_iload_n C (pc' := 38) 1 dX4_undo_37 rfl rfl ?_
    refine lc_bipush C (pc' := 40) (v := (107 : Int32)) dX4_undo_38 (by decide) rfl ?_
    refine lc_icmp_ge C (pc' := 43) (tgt := 69) dX4_undo_40 (by decide) rfl (fun c40 => ?_) (fun c40 => ?_)
    · have h := (lc_if2 h).1 c40
      refine lc_aload_n C (pc' := 70) 0 dX4_undo_69 rfl rfl ?_
      refine lc_g197_acts C (pc' := 73) (va_up_self _ _ _) dX4_undo_70 kf_RX4_47 rfl ?_
      obtain rfl := Option.some.inj h
      exact lc_iret C rfl dX4_undo_73
    · have h := (lc_if2 h).2 c40
      refine lc_aload_n C (pc' := 44) 0 dX4_undo_43 rfl rfl ?_
      refine lc_g197_now C (pc' := 47) (va_up_self _ _ _) dX4_undo_44 kf_RX4_7 rfl ?_
      refine lc_iload_n C (pc' := 48) 1 dX4_undo_47 rfl rfl ?_
      refine lc_aload_n C (pc' := 49) 0 dX4_undo_48 rfl rfl ?_
      refine lc_g197_was C (pc' := 52) (va_up_self _ _ _) dX4_undo_49 kf_RX4_23 rfl ?_
      refine lc_bipush C (pc' := 54) (v := (107 : Int32)) dX4_undo_52 (by decide) rfl ?_
      refine lc_aload_n C (pc' := 55) 0 dX4_undo_54 rfl rfl ?_
      refine lc_g197_acts C (pc' := 58) (va_up_self _ _ _) dX4_undo_55 kf_RX4_47 rfl ?_
      refine lc_imul C (pc' := 59) dX4_undo_58 rfl ?_
      refine lc_iload_n C (pc' := 60) 1 dX4_undo_59 rfl rfl ?_
      refine lc_iadd C (pc' := 61) dX4_undo_60 rfl ?_
      obtain ⟨hi61, h⟩ := lc_ife h
      refine lc_ld202 C (pc' := 62) (jj := (((107 : Int32) * (s 0 1)) + x1).toNatClampNeg) (va_up_self _ _ _) hi61 rfl dX4_undo_61 rfl ?_
      obtain ⟨hi62, h⟩ := lc_ife h
      obtain ⟨s3, es3, h⟩ := lc_let2 h
      refine lc_sd198 C (pc' := 63) (jj := x1.toNatClampNeg) (M' := (va_up M 22 s3)) (va_up_self _ _ _) hi62 rfl es3 (lc_up_up _ _ _ _) dX4_undo_62 rfl ?_
      obtain ⟨x1_63, e1_63, h⟩ := lc_let2 h
      refine lc_iinc C (pc' := 66) (lo' := [(1, .int x1_63), (0, .ref (lc_ad S 197))]) (q := 1) dX4_undo_63 rfl (by rw [← e1_63]; rfl) (Nat.le_of_ble_eq_true rfl) rfl rfl ?_
      refine lc_goto C (tgt := 37) dX4_undo_66 (by decide) ?_
      refine lc_sub (lo' := [(0, .ref (lc_ad S 197)), (1, .int x1_63)]) [1, 0] rfl ?_
      exact ih x1_63 s3 h
def P_X4_undo_13  (t1 : Int32) (s : lc_St) : Option (Int32 × lc_St) :=
  lc_let (lc_ss s 0 0 t1) (fun s1 => if (s1 0 0) ≤ 0 then lc_let (lc_ss s1 0 1 ((s1 0 1) - (1 : Int32))) (fun s2 => P_X4_undo_37  lc_FU (0 : Int32) s2) else some ((0 : Int32), s1))
set_option maxRecDepth 100000 in
set_option maxHeartbeats 4000000 in
theorem w_X4_undo_13 {S : lc_Se} {X : lc_X} (C : lc_C X cX4_undo RX4 2 (some .int) rm_X4_undo) {M : lc_MM}  (out : Int32 × lc_St)  : ∀ (t1 : Int32) (s : lc_St), P_X4_undo_13  t1 s = some out → lc_J S X 2 0 0 (lc_QI S X 0 0 out.1 (va_up M 22 out.2)) 13 [(0, .ref (lc_ad S 197))] [.int t1, .ref (lc_ad S 197)] (va_up M 22 s) := by
  intro t1 s h
  rw [P_X4_undo_13] at h
  obtain ⟨s1, es1, h⟩ := lc_let2 h
  refine lc_p197_thrown C (pc' := 16) (M' := (va_up M 22 s1)) (va_up_self _ _ _) es1 (lc_up_up _ _ _ _) dX4_undo_13 kf_RX4_35 rfl ?_
  refine lc_aload_n C (pc' := 17) 0 dX4_undo_16 rfl rfl ?_
  refine lc_g197_thrown C (pc' := 20) (va_up_self _ _ _) dX4_undo_17 kf_RX4_35 rfl ?_
  refine lc_if_le C (pc' := 23) (tgt := 25) dX4_undo_20 (by decide) rfl (fun c20 => ?_) (fun c20 => ?_)
  · have h := (lc_if2 h).1 c20
    refine lc_aload_n C (pc' := 26) 0 dX4_undo_25 rfl rfl ?_
    refine lc_dup C (pc' := 27) dX4_undo_26 rfl rfl ?_
    refine lc_g197_acts C (pc' := 30) (va_up_self _ _ _) dX4_undo_27 kf_RX4_47 rfl ?_
    refine lc_iconst C (pc' := 31) (v := (1 : Int32)) dX4_undo_30 (by decide) rfl ?_
    refine lc_isub C (pc' := 32) dX4_undo_31 rfl ?_
    obtain ⟨s2, es2, h⟩ := lc_let2 h
    refine lc_p197_acts C (pc' := 35) (M' := (va_up M 22 s2)) (va_up_self _ _ _) es2 (lc_up_up _ _ _ _) dX4_undo_32 kf_RX4_47 rfl ?_
    refine lc_iconst C (pc' := 36) (v := (0 : Int32)) dX4_undo_35 (by decide) rfl ?_
    refine lc_istore_n C (pc' := 37) (lo' := [(1, .int (0 : Int32)), (0, .ref (lc_ad S 197))]) dX4_undo_36 (Nat.le_of_ble_eq_true rfl) rfl rfl ?_
    refine lc_sub (lo' := [(0, .ref (lc_ad S 197)), (1, .int (0 : Int32))]) [1, 0] rfl ?_
    exact w_X4_undo_37 C   out  lc_FU (0 : Int32) s2 h
  · have h := (lc_if2 h).2 c20
    refine lc_iconst C (pc' := 24) (v := (0 : Int32)) dX4_undo_23 (by decide) rfl ?_
    obtain rfl := Option.some.inj h
    exact lc_iret C rfl dX4_undo_24
def P_X4_undo   (s : lc_St) : Option (Int32 × lc_St) :=
  if (s 0 1) = 0 then P_X4_undo_13   (1 : Int32) s else P_X4_undo_13   (0 : Int32) s
set_option maxRecDepth 100000 in
set_option maxHeartbeats 4000000 in
theorem c_X4_undo (S : lc_Se) (l : Launch) (M : lc_MM)   (s : lc_St) (out : Int32 × lc_St) (h : P_X4_undo  s = some out) : lc_MI S l yX4_undo cX4_undo 2 (some .int) rm_X4_undo [.ref (lc_ad S 197)] (va_up M 22 s) out.1 (va_up M 22 out.2) := by
  refine lc_mkI (own := RX4) pn_RX4 rfl (Nat.le_of_ble_eq_true rfl) (lo := [(0, .ref (lc_ad S 197))]) rfl (fun X hX C => ?_)
  rw [P_X4_undo] at h
  refine lc_aload_n C (pc' := 1) 0 dX4_undo_0 rfl rfl ?_
  refine lc_aload_n C (pc' := 2) 0 dX4_undo_1 rfl rfl ?_
  refine lc_g197_acts C (pc' := 5) (va_up_self _ _ _) dX4_undo_2 kf_RX4_47 rfl ?_
  refine lc_if_ne C (pc' := 8) (tgt := 12) dX4_undo_5 (by decide) rfl (fun c5 => ?_) (fun c5 => ?_)
  · have h := (lc_if2 h).2 c5
    refine lc_iconst C (pc' := 13) (v := (0 : Int32)) dX4_undo_12 (by decide) rfl ?_
    exact w_X4_undo_13 C   out   (0 : Int32) s h
  · have h := (lc_if2 h).1 c5
    refine lc_iconst C (pc' := 9) (v := (1 : Int32)) dX4_undo_8 (by decide) rfl ?_
    refine lc_goto C (tgt := 13) dX4_undo_9 (by decide) ?_
    exact w_X4_undo_13 C   out   (1 : Int32) s h
abbrev rm_X4_holds : Room := { frames := 4, cells := 0, slots := 0, locals := 96 }
def P_X4_holds_57  (x1 : Int32) (x2 : Int32) (s : lc_St) : Option (Int32 × lc_St) :=
  lc_bd (P_X4_isSound x1 s) (fun r59 => lc_bd (P_X4_putBack  s) (fun s3 => if r59 = 0 then some (x2, s3) else some ((-9 : Int32), s3)))
set_option maxRecDepth 100000 in
set_option maxHeartbeats 4000000 in
theorem w_X4_holds_57 {S : lc_Se} {X : lc_X} (C : lc_C X cX4_holds RX4 4 (some .int) rm_X4_holds) {M : lc_MM}  (out : Int32 × lc_St)  : ∀ (x1 : Int32) (x2 : Int32) (s : lc_St), P_X4_holds_57  x1 x2 s = some out → lc_J S X 4 0 0 (lc_QI S X 0 0 out.1 (va_up M 22 out.2)) 57 [(0, .ref (lc_ad S 197)), (1, .int x1), (2, .int x2)] [] (va_up M 22 s) := by
  intro x1 x2 s h
  rw [P_X4_holds_57] at h
  refine lc_aload_n C (pc' := 58) 0 dX4_holds_57 rfl rfl ?_
  refine lc_iload_n C (pc' := 59) 1 dX4_holds_58 rfl rfl ?_
  obtain ⟨r59, h59, h⟩ := lc_bde h
  refine lc_cvi C (pc' := 62) (r := r59) (M' := (va_up M 22 s)) (As := [.int x1]) (rest := []) (c_X4_isSound S X.2.1 M   x1 s r59 h59) kl_RX4_84 (lc_at197 S _) rfl rfl rfl rfl (Nat.le_of_ble_eq_true rfl) ⟨Nat.le_of_ble_eq_true rfl, Nat.le_of_ble_eq_true rfl⟩ ⟨rfl, rfl⟩ (lc_z2 _ _) dX4_holds_59 rfl ?_
  refine lc_istore_n C (pc' := 63) (lo' := [(3, .int r59), (0, .ref (lc_ad S 197)), (1, .int x1), (2, .int x2)]) dX4_holds_62 (Nat.le_of_ble_eq_true rfl) rfl rfl ?_
  refine lc_aload_n C (pc' := 64) 1 dX4_holds_63 rfl rfl ?_
  obtain ⟨s3, h64, h⟩ := lc_bde h
  refine lc_cvv C (pc' := 67) (M' := (va_up M 22 s3)) (As := []) (rest := []) (c_X4_putBack S X.2.1 M    s s3 h64) kl_RX4_157 (lc_at197 S _) rfl rfl rfl rfl (Nat.le_of_ble_eq_true rfl) ⟨Nat.le_of_ble_eq_true rfl, Nat.le_of_ble_eq_true rfl⟩ ⟨rfl, rfl⟩ (lc_z2 _ _) dX4_holds_64 rfl ?_
  refine lc_iload_n C (pc' := 68) 0 dX4_holds_67 rfl rfl ?_
  refine lc_if_eq C (pc' := 71) (tgt := 76) dX4_holds_68 (by decide) rfl (fun c68 => ?_) (fun c68 => ?_)
  · have h := (lc_if2 h).1 c68
    refine lc_iload_n C (pc' := 77) 3 dX4_holds_76 rfl rfl ?_
    obtain rfl := Option.some.inj h
    exact lc_iret C rfl dX4_holds_77
  · have h := (lc_if2 h).2 c68
    refine lc_bipush C (pc' := 73) (v := (-9 : Int32)) dX4_holds_71 (by decide) rfl ?_
    refine lc_goto C (tgt := 77) dX4_holds_73 (by decide) ?_
    obtain rfl := Option.some.inj h
    exact lc_iret C rfl dX4_holds_77
def P_X4_holds_32  : Nat → Int32 → Int32 → lc_St → Option (Int32 × lc_St)
  | 0, _, _, _ => none
  | n + 1, x1, x2, s =>
    if (100 : Int32) ≤ x2 then P_X4_holds_57   x1 x2 s else lc_bd (P_X4_isSound x1 s) (fun r40 => if r40 = 0 then P_X4_holds_57   x1 x2 s else lc_bd2 (P_X4_round  s) (fun r47 s4 => lc_let (x2 + (1 : Int32)) (fun x2_51 => P_X4_holds_32  n x1 x2_51 s4)))
set_option maxRecDepth 100000 in
set_option maxHeartbeats 4000000 in
theorem w_X4_holds_32 {S : lc_Se} {X : lc_X} (C : lc_C X cX4_holds RX4 4 (some .int) rm_X4_holds) {M : lc_MM}  (out : Int32 × lc_St)  : ∀ (n : Nat) (x1 : Int32) (x2 : Int32) (s : lc_St), P_X4_holds_32  n x1 x2 s = some out → lc_J S X 4 0 0 (lc_QI S X 0 0 out.1 (va_up M 22 out.2)) 32 [(0, .ref (lc_ad S 197)), (1, .int x1), (2, .int x2)] [] (va_up M 22 s) := by
  intro n
  induction n with
  | zero =>
    intro x1 x2 s h
    rw [P_X4_holds_32] at h
    cases h
  | succ n ih =>
    intro x1 x2 s h
    rw [P_X4_holds_32] at h
    refine lc_iload_n C (pc' := 33) 2 dX4_holds_32 rfl rfl ?_
    refine lc_bipush C (pc' := 35) (v := (100 : Int32)) dX4_holds_33 (by decide) rfl ?_
    refine lc_icmp_ge C (pc' := 38) (tgt := 57) dX4_holds_35 (by decide) rfl (fun c35 => ?_) (fun c35 => ?_)
    · have h := (lc_if2 h).1 c35
      exact w_X4_holds_57 C   out   x1 x2 s h
    · have h := (lc_if2 h).2 c35
      refine lc_aload_n C (pc' := 39) 0 dX4_holds_38 rfl rfl ?_
      refine lc_iload_n C (pc' := 40) 1 dX4_holds_39 rfl rfl ?_
      obtain ⟨r40, h40, h⟩ := lc_bde h
      refine lc_cvi C (pc' := 43) (r := r40) (M' := (va_up M 22 s)) (As := [.int x1]) (rest := []) (c_X4_isSound S X.2.1 M   x1 s r40 h40) kl_RX4_84 (lc_at197 S _) rfl rfl rfl rfl (Nat.le_of_ble_eq_true rfl) ⟨Nat.le_of_ble_eq_true rfl, Nat.le_of_ble_eq_true rfl⟩ ⟨rfl, rfl⟩ (lc_z2 _ _) dX4_holds_40 rfl ?_
      refine lc_if_eq C (pc' := 46) (tgt := 57) dX4_holds_43 (by decide) rfl (fun c43 => ?_) (fun c43 => ?_)
      · have h := (lc_if2 h).1 c43
        exact w_X4_holds_57 C   out   x1 x2 s h
      · have h := (lc_if2 h).2 c43
        refine lc_aload_n C (pc' := 47) 0 dX4_holds_46 rfl rfl ?_
        obtain ⟨r47, s4, h47, h⟩ := lc_bd2e h
        refine lc_cvi C (pc' := 50) (r := r47) (M' := (va_up M 22 s4)) (As := []) (rest := []) (c_X4_round S X.2.1 M    s (r47, s4) h47) kl_RX4_91 (lc_at197 S _) rfl rfl rfl rfl (Nat.le_of_ble_eq_true rfl) ⟨Nat.le_of_ble_eq_true rfl, Nat.le_of_ble_eq_true rfl⟩ ⟨rfl, rfl⟩ (lc_z2 _ _) dX4_holds_47 rfl ?_
        refine lc_pop C (pc' := 51) dX4_holds_50 rfl rfl ?_
        obtain ⟨x2_51, e2_51, h⟩ := lc_let2 h
        refine lc_iinc C (pc' := 54) (lo' := [(2, .int x2_51), (0, .ref (lc_ad S 197)), (1, .int x1)]) (q := 2) dX4_holds_51 rfl (by rw [← e2_51]; rfl) (Nat.le_of_ble_eq_true rfl) rfl rfl ?_
        refine lc_goto C (tgt := 32) dX4_holds_54 (by decide) ?_
        refine lc_sub (lo' := [(0, .ref (lc_ad S 197)), (1, .int x1), (2, .int x2_51)]) [1, 2, 0] rfl ?_
        exact ih x1 x2_51 s4 h
def P_X4_holds_14  (x1 : Int32) (t1 : Int32) (s : lc_St) : Option (Int32 × lc_St) :=
  lc_let (lc_ss s 0 0 t1) (fun s1 => if (s1 0 0) ≤ 0 then lc_bd (P_X4_layPut  s1) (fun s2 => P_X4_holds_32  lc_FU x1 (0 : Int32) s2) else some ((0 : Int32), s1))
set_option maxRecDepth 100000 in
set_option maxHeartbeats 4000000 in
theorem w_X4_holds_14 {S : lc_Se} {X : lc_X} (C : lc_C X cX4_holds RX4 4 (some .int) rm_X4_holds) {M : lc_MM}  (out : Int32 × lc_St)  : ∀ (x1 : Int32) (t1 : Int32) (s : lc_St), P_X4_holds_14  x1 t1 s = some out → lc_J S X 4 0 0 (lc_QI S X 0 0 out.1 (va_up M 22 out.2)) 14 [(0, .ref (lc_ad S 197)), (1, .int x1)] [.int t1, .ref (lc_ad S 197)] (va_up M 22 s) := by
  intro x1 t1 s h
  rw [P_X4_holds_14] at h
  obtain ⟨s1, es1, h⟩ := lc_let2 h
  refine lc_p197_thrown C (pc' := 17) (M' := (va_up M 22 s1)) (va_up_self _ _ _) es1 (lc_up_up _ _ _ _) dX4_holds_14 kf_RX4_35 rfl ?_
  refine lc_aload_n C (pc' := 18) 0 dX4_holds_17 rfl rfl ?_
  refine lc_g197_thrown C (pc' := 21) (va_up_self _ _ _) dX4_holds_18 kf_RX4_35 rfl ?_
  refine lc_if_le C (pc' := 24) (tgt := 26) dX4_holds_21 (by decide) rfl (fun c21 => ?_) (fun c21 => ?_)
  · have h := (lc_if2 h).1 c21
    refine lc_aload_n C (pc' := 27) 0 dX4_holds_26 rfl rfl ?_
    obtain ⟨s2, h27, h⟩ := lc_bde h
    refine lc_cvv C (pc' := 30) (M' := (va_up M 22 s2)) (As := []) (rest := []) (c_X4_layPut S X.2.1 M    s1 s2 h27) kl_RX4_150 (lc_at197 S _) rfl rfl rfl rfl (Nat.le_of_ble_eq_true rfl) ⟨Nat.le_of_ble_eq_true rfl, Nat.le_of_ble_eq_true rfl⟩ ⟨rfl, rfl⟩ (lc_z2 _ _) dX4_holds_27 rfl ?_
    refine lc_iconst C (pc' := 31) (v := (0 : Int32)) dX4_holds_30 (by decide) rfl ?_
    refine lc_istore_n C (pc' := 32) (lo' := [(2, .int (0 : Int32)), (0, .ref (lc_ad S 197)), (1, .int x1)]) dX4_holds_31 (Nat.le_of_ble_eq_true rfl) rfl rfl ?_
    refine lc_sub (lo' := [(0, .ref (lc_ad S 197)), (1, .int x1), (2, .int (0 : Int32))]) [1, 2, 0] rfl ?_
    exact w_X4_holds_32 C   out  lc_FU x1 (0 : Int32) s2 h
  · have h := (lc_if2 h).2 c21
    refine lc_iconst C (pc' := 25) (v := (0 : Int32)) dX4_holds_24 (by decide) rfl ?_
    obtain rfl := Option.some.inj h
    exact lc_iret C rfl dX4_holds_25
def P_X4_holds  (x1 : Int32) (s : lc_St) : Option (Int32 × lc_St) :=
  lc_bd (P_X4_isCell x1 s) (fun r3 => if r3 = 0 then P_X4_holds_14   x1 (1 : Int32) s else P_X4_holds_14   x1 (0 : Int32) s)
set_option maxRecDepth 100000 in
set_option maxHeartbeats 4000000 in
theorem c_X4_holds (S : lc_Se) (l : Launch) (M : lc_MM)  (x1 : Int32) (s : lc_St) (out : Int32 × lc_St) (h : P_X4_holds x1 s = some out) : lc_MI S l yX4_holds cX4_holds 4 (some .int) rm_X4_holds [.ref (lc_ad S 197), .int x1] (va_up M 22 s) out.1 (va_up M 22 out.2) := by
  refine lc_mkI (own := RX4) pn_RX4 rfl (Nat.le_of_ble_eq_true rfl) (lo := [(0, .ref (lc_ad S 197)), (1, .int x1)]) rfl (fun X hX C => ?_)
  rw [P_X4_holds] at h
  refine lc_aload_n C (pc' := 1) 0 dX4_holds_0 rfl rfl ?_
  refine lc_aload_n C (pc' := 2) 0 dX4_holds_1 rfl rfl ?_
  refine lc_iload_n C (pc' := 3) 1 dX4_holds_2 rfl rfl ?_
  obtain ⟨r3, h3, h⟩ := lc_bde h
  refine lc_cvi C (pc' := 6) (r := r3) (M' := (va_up M 22 s)) (As := [.int x1]) (rest := [.ref (lc_ad S 197)]) (c_X4_isCell S X.2.1 M   x1 s r3 h3) kl_RX4_135 (lc_at197 S _) rfl rfl rfl rfl (Nat.le_of_ble_eq_true rfl) ⟨Nat.le_of_ble_eq_true rfl, Nat.le_of_ble_eq_true rfl⟩ ⟨rfl, rfl⟩ (lc_z2 _ _) dX4_holds_3 rfl ?_
  refine lc_if_eq C (pc' := 9) (tgt := 13) dX4_holds_6 (by decide) rfl (fun c6 => ?_) (fun c6 => ?_)
  · have h := (lc_if2 h).1 c6
    refine lc_iconst C (pc' := 14) (v := (1 : Int32)) dX4_holds_13 (by decide) rfl ?_
    exact w_X4_holds_14 C   out   x1 (1 : Int32) s h
  · have h := (lc_if2 h).2 c6
    refine lc_iconst C (pc' := 10) (v := (0 : Int32)) dX4_holds_9 (by decide) rfl ?_
    refine lc_goto C (tgt := 14) dX4_holds_10 (by decide) ?_
    exact w_X4_holds_14 C   out   x1 (0 : Int32) s h
abbrev rm_X4_draws : Room := { frames := 6, cells := 0, slots := 0, locals := 142 }
def P_X4_draws_34  : Nat → Int32 → Int32 → lc_St → Option (Int32 × lc_St)
  | 0, _, _, _ => none
  | n + 1, x1, x2, s =>
    lc_bd2 (P_X4_drawn x1 s) (fun r36 s3 => if r36 ≤ 0 then lc_bd (P_X4_putBack  s3) (fun s4 => some (x2, s4)) else lc_let (x2 + (1 : Int32)) (fun x2_42 => P_X4_draws_34  n x1 x2_42 s3))
set_option maxRecDepth 100000 in
set_option maxHeartbeats 4000000 in
theorem w_X4_draws_34 {S : lc_Se} {X : lc_X} (C : lc_C X cX4_draws RX4 3 (some .int) rm_X4_draws) {M : lc_MM}  (out : Int32 × lc_St)  : ∀ (n : Nat) (x1 : Int32) (x2 : Int32) (s : lc_St), P_X4_draws_34  n x1 x2 s = some out → lc_J S X 3 0 0 (lc_QI S X 0 0 out.1 (va_up M 22 out.2)) 34 [(0, .ref (lc_ad S 197)), (1, .int x1), (2, .int x2)] [] (va_up M 22 s) := by
  intro n
  induction n with
  | zero =>
    intro x1 x2 s h
    rw [P_X4_draws_34] at h
    cases h
  | succ n ih =>
    intro x1 x2 s h
    rw [P_X4_draws_34] at h
    refine lc_aload_n C (pc' := 35) 0 dX4_draws_34 rfl rfl ?_
    refine lc_iload_n C (pc' := 36) 1 dX4_draws_35 rfl rfl ?_
    obtain ⟨r36, s3, h36, h⟩ := lc_bd2e h
    refine lc_cvi C (pc' := 39) (r := r36) (M' := (va_up M 22 s3)) (As := [.int x1]) (rest := []) (c_X4_drawn S X.2.1 M   x1 s (r36, s3) h36) kl_RX4_193 (lc_at197 S _) rfl rfl rfl rfl (Nat.le_of_ble_eq_true rfl) ⟨Nat.le_of_ble_eq_true rfl, Nat.le_of_ble_eq_true rfl⟩ ⟨rfl, rfl⟩ (lc_z2 _ _) dX4_draws_36 rfl ?_
    refine lc_if_le C (pc' := 42) (tgt := 48) dX4_draws_39 (by decide) rfl (fun c39 => ?_) (fun c39 => ?_)
    · have h := (lc_if2 h).1 c39
      refine lc_aload_n C (pc' := 49) 0 dX4_draws_48 rfl rfl ?_
      obtain ⟨s4, h49, h⟩ := lc_bde h
      refine lc_cvv C (pc' := 52) (M' := (va_up M 22 s4)) (As := []) (rest := []) (c_X4_putBack S X.2.1 M    s3 s4 h49) kl_RX4_157 (lc_at197 S _) rfl rfl rfl rfl (Nat.le_of_ble_eq_true rfl) ⟨Nat.le_of_ble_eq_true rfl, Nat.le_of_ble_eq_true rfl⟩ ⟨rfl, rfl⟩ (lc_z2 _ _) dX4_draws_49 rfl ?_
      refine lc_iload_n C (pc' := 53) 2 dX4_draws_52 rfl rfl ?_
      obtain rfl := Option.some.inj h
      exact lc_iret C rfl dX4_draws_53
    · have h := (lc_if2 h).2 c39
      obtain ⟨x2_42, e2_42, h⟩ := lc_let2 h
      refine lc_iinc C (pc' := 45) (lo' := [(2, .int x2_42), (0, .ref (lc_ad S 197)), (1, .int x1)]) (q := 2) dX4_draws_42 rfl (by rw [← e2_42]; rfl) (Nat.le_of_ble_eq_true rfl) rfl rfl ?_
      refine lc_goto C (tgt := 34) dX4_draws_45 (by decide) ?_
      refine lc_sub (lo' := [(0, .ref (lc_ad S 197)), (1, .int x1), (2, .int x2_42)]) [1, 2, 0] rfl ?_
      exact ih x1 x2_42 s3 h
def P_X4_draws_16  (x1 : Int32) (t1 : Int32) (s : lc_St) : Option (Int32 × lc_St) :=
  lc_let (lc_ss s 0 0 t1) (fun s1 => if (s1 0 0) ≤ 0 then lc_bd (P_X4_layPut  s1) (fun s2 => P_X4_draws_34  lc_FU x1 (0 : Int32) s2) else some ((0 : Int32), s1))
set_option maxRecDepth 100000 in
set_option maxHeartbeats 4000000 in
theorem w_X4_draws_16 {S : lc_Se} {X : lc_X} (C : lc_C X cX4_draws RX4 3 (some .int) rm_X4_draws) {M : lc_MM}  (out : Int32 × lc_St)  : ∀ (x1 : Int32) (t1 : Int32) (s : lc_St), P_X4_draws_16  x1 t1 s = some out → lc_J S X 3 0 0 (lc_QI S X 0 0 out.1 (va_up M 22 out.2)) 16 [(0, .ref (lc_ad S 197)), (1, .int x1)] [.int t1, .ref (lc_ad S 197)] (va_up M 22 s) := by
  intro x1 t1 s h
  rw [P_X4_draws_16] at h
  obtain ⟨s1, es1, h⟩ := lc_let2 h
  refine lc_p197_thrown C (pc' := 19) (M' := (va_up M 22 s1)) (va_up_self _ _ _) es1 (lc_up_up _ _ _ _) dX4_draws_16 kf_RX4_35 rfl ?_
  refine lc_aload_n C (pc' := 20) 0 dX4_draws_19 rfl rfl ?_
  refine lc_g197_thrown C (pc' := 23) (va_up_self _ _ _) dX4_draws_20 kf_RX4_35 rfl ?_
  refine lc_if_le C (pc' := 26) (tgt := 28) dX4_draws_23 (by decide) rfl (fun c23 => ?_) (fun c23 => ?_)
  · have h := (lc_if2 h).1 c23
    refine lc_aload_n C (pc' := 29) 0 dX4_draws_28 rfl rfl ?_
    obtain ⟨s2, h29, h⟩ := lc_bde h
    refine lc_cvv C (pc' := 32) (M' := (va_up M 22 s2)) (As := []) (rest := []) (c_X4_layPut S X.2.1 M    s1 s2 h29) kl_RX4_150 (lc_at197 S _) rfl rfl rfl rfl (Nat.le_of_ble_eq_true rfl) ⟨Nat.le_of_ble_eq_true rfl, Nat.le_of_ble_eq_true rfl⟩ ⟨rfl, rfl⟩ (lc_z2 _ _) dX4_draws_29 rfl ?_
    refine lc_iconst C (pc' := 33) (v := (0 : Int32)) dX4_draws_32 (by decide) rfl ?_
    refine lc_istore_n C (pc' := 34) (lo' := [(2, .int (0 : Int32)), (0, .ref (lc_ad S 197)), (1, .int x1)]) dX4_draws_33 (Nat.le_of_ble_eq_true rfl) rfl rfl ?_
    refine lc_sub (lo' := [(0, .ref (lc_ad S 197)), (1, .int x1), (2, .int (0 : Int32))]) [1, 2, 0] rfl ?_
    exact w_X4_draws_34 C   out  lc_FU x1 (0 : Int32) s2 h
  · have h := (lc_if2 h).2 c23
    refine lc_iconst C (pc' := 27) (v := (0 : Int32)) dX4_draws_26 (by decide) rfl ?_
    obtain rfl := Option.some.inj h
    exact lc_iret C rfl dX4_draws_27
def P_X4_draws  (x1 : Int32) (s : lc_St) : Option (Int32 × lc_St) :=
  lc_bd (P_X4_in x1 (1 : Int32) (99 : Int32)) (fun r5 => if r5 = 0 then P_X4_draws_16   x1 (1 : Int32) s else P_X4_draws_16   x1 (0 : Int32) s)
set_option maxRecDepth 100000 in
set_option maxHeartbeats 4000000 in
theorem c_X4_draws (S : lc_Se) (l : Launch) (M : lc_MM)  (x1 : Int32) (s : lc_St) (out : Int32 × lc_St) (h : P_X4_draws x1 s = some out) : lc_MI S l yX4_draws cX4_draws 3 (some .int) rm_X4_draws [.ref (lc_ad S 197), .int x1] (va_up M 22 s) out.1 (va_up M 22 out.2) := by
  refine lc_mkI (own := RX4) pn_RX4 rfl (Nat.le_of_ble_eq_true rfl) (lo := [(0, .ref (lc_ad S 197)), (1, .int x1)]) rfl (fun X hX C => ?_)
  rw [P_X4_draws] at h
  refine lc_aload_n C (pc' := 1) 0 dX4_draws_0 rfl rfl ?_
  refine lc_iload_n C (pc' := 2) 1 dX4_draws_1 rfl rfl ?_
  refine lc_iconst C (pc' := 3) (v := (1 : Int32)) dX4_draws_2 (by decide) rfl ?_
  refine lc_bipush C (pc' := 5) (v := (99 : Int32)) dX4_draws_3 (by decide) rfl ?_
  obtain ⟨r5, h5, h⟩ := lc_bde h
  refine lc_csi C (pc' := 8) (r := r5) (M' := (va_up M 22 s)) (As := [.int x1, .int (1 : Int32), .int (99 : Int32)]) (rest := [.ref (lc_ad S 197)]) (c_X4_in S X.2.1 (va_up M 22 s)   x1 (1 : Int32) (99 : Int32)  r5 h5) kl_RX4_39 rfl rfl (Nat.le_of_ble_eq_true rfl) ⟨Nat.le_of_ble_eq_true rfl, Nat.le_of_ble_eq_true rfl⟩ ⟨rfl, rfl⟩ (lc_z2 _ _) dX4_draws_5 rfl ?_
  refine lc_if_eq C (pc' := 11) (tgt := 15) dX4_draws_8 (by decide) rfl (fun c8 => ?_) (fun c8 => ?_)
  · have h := (lc_if2 h).1 c8
    refine lc_iconst C (pc' := 16) (v := (1 : Int32)) dX4_draws_15 (by decide) rfl ?_
    exact w_X4_draws_16 C   out   x1 (1 : Int32) s h
  · have h := (lc_if2 h).2 c8
    refine lc_iconst C (pc' := 12) (v := (0 : Int32)) dX4_draws_11 (by decide) rfl ?_
    refine lc_goto C (tgt := 16) dX4_draws_12 (by decide) ?_
    exact w_X4_draws_16 C   out   x1 (0 : Int32) s h
abbrev rm_X4_most : Room := { frames := 6, cells := 0, slots := 0, locals := 142 }
def P_X4_most_32 (K13 : Int32 → Int32 → lc_St → Option (Int32 × lc_St)) (x2 : Int32) (t0 : Int32) (s : lc_St) : Option (Int32 × lc_St) :=
  lc_bd (P_X4_putBack  s) (fun s4 => lc_let (x2 + (1 : Int32)) (fun x2_37 => K13 t0 x2_37 s4))
set_option maxRecDepth 100000 in
set_option maxHeartbeats 4000000 in
theorem w_X4_most_32 {S : lc_Se} {X : lc_X} (C : lc_C X cX4_most RX4 3 (some .int) rm_X4_most) {M : lc_MM}  (out : Int32 × lc_St) (K13 : Int32 → Int32 → lc_St → Option (Int32 × lc_St)) (hK13 : ∀ (x1 : Int32) (x2 : Int32) (s : lc_St), K13 x1 x2 s = some out → lc_J S X 3 0 0 (lc_QI S X 0 0 out.1 (va_up M 22 out.2)) 13 [(0, .ref (lc_ad S 197)), (1, .int x1), (2, .int x2)] [] (va_up M 22 s)) : ∀ (x2 : Int32) (t0 : Int32) (s : lc_St), P_X4_most_32 K13 x2 t0 s = some out → lc_J S X 3 0 0 (lc_QI S X 0 0 out.1 (va_up M 22 out.2)) 32 [(0, .ref (lc_ad S 197)), (2, .int x2)] [.int t0] (va_up M 22 s) := by
  intro x2 t0 s h
  rw [P_X4_most_32] at h
  refine lc_istore_n C (pc' := 33) (lo' := [(1, .int t0), (0, .ref (lc_ad S 197)), (2, .int x2)]) dX4_most_32 (Nat.le_of_ble_eq_true rfl) rfl rfl ?_
  refine lc_aload_n C (pc' := 34) 1 dX4_most_33 rfl rfl ?_
  obtain ⟨s4, h34, h⟩ := lc_bde h
  refine lc_cvv C (pc' := 37) (M' := (va_up M 22 s4)) (As := []) (rest := []) (c_X4_putBack S X.2.1 M    s s4 h34) kl_RX4_157 (lc_at197 S _) rfl rfl rfl rfl (Nat.le_of_ble_eq_true rfl) ⟨Nat.le_of_ble_eq_true rfl, Nat.le_of_ble_eq_true rfl⟩ ⟨rfl, rfl⟩ (lc_z2 _ _) dX4_most_34 rfl ?_
  obtain ⟨x2_37, e2_37, h⟩ := lc_let2 h
  refine lc_iinc C (pc' := 40) (lo' := [(2, .int x2_37), (1, .int t0), (0, .ref (lc_ad S 197))]) (q := 2) dX4_most_37 rfl (by rw [← e2_37]; rfl) (Nat.le_of_ble_eq_true rfl) rfl rfl ?_
  refine lc_goto C (tgt := 13) dX4_most_40 (by decide) ?_
  refine lc_sub (lo' := [(0, .ref (lc_ad S 197)), (1, .int t0), (2, .int x2_37)]) [2, 1, 0] rfl ?_
  exact hK13 t0 x2_37 s4 h
def P_X4_most_13  : Nat → Int32 → Int32 → lc_St → Option (Int32 × lc_St)
  | 0, _, _, _ => none
  | n + 1, x1, x2, s =>
    if (100 : Int32) ≤ x2 then some (x1, s) else lc_bd2 (P_X4_drawn x2 s) (fun r21 s3 => if r21 ≤ 0 then P_X4_most_32 (fun x1 x2 s => P_X4_most_13  n x1 x2 s)  x2 x1 s3 else P_X4_most_32 (fun x1 x2 s => P_X4_most_13  n x1 x2 s)  x2 x2 s3)
set_option maxRecDepth 100000 in
set_option maxHeartbeats 4000000 in
theorem w_X4_most_13 {S : lc_Se} {X : lc_X} (C : lc_C X cX4_most RX4 3 (some .int) rm_X4_most) {M : lc_MM}  (out : Int32 × lc_St)  : ∀ (n : Nat) (x1 : Int32) (x2 : Int32) (s : lc_St), P_X4_most_13  n x1 x2 s = some out → lc_J S X 3 0 0 (lc_QI S X 0 0 out.1 (va_up M 22 out.2)) 13 [(0, .ref (lc_ad S 197)), (1, .int x1), (2, .int x2)] [] (va_up M 22 s) := by
  intro n
  induction n with
  | zero =>
    intro x1 x2 s h
    rw [P_X4_most_13] at h
    cases h
  | succ n ih =>
    intro x1 x2 s h
    rw [P_X4_most_13] at h
    refine lc_iload_n C (pc' := 14) 2 dX4_most_13 rfl rfl ?_
    refine lc_bipush C (pc' := 16) (v := (100 : Int32)) dX4_most_14 (by decide) rfl ?_
    refine lc_icmp_ge C (pc' := 19) (tgt := 43) dX4_most_16 (by decide) rfl (fun c16 => ?_) (fun c16 => ?_)
    · have h := (lc_if2 h).1 c16
      refine lc_iload_n C (pc' := 44) 1 dX4_most_43 rfl rfl ?_
      obtain rfl := Option.some.inj h
      exact lc_iret C rfl dX4_most_44
    · have h := (lc_if2 h).2 c16
      refine lc_aload_n C (pc' := 20) 0 dX4_most_19 rfl rfl ?_
      refine lc_iload_n C (pc' := 21) 2 dX4_most_20 rfl rfl ?_
      obtain ⟨r21, s3, h21, h⟩ := lc_bd2e h
      refine lc_cvi C (pc' := 24) (r := r21) (M' := (va_up M 22 s3)) (As := [.int x2]) (rest := []) (c_X4_drawn S X.2.1 M   x2 s (r21, s3) h21) kl_RX4_193 (lc_at197 S _) rfl rfl rfl rfl (Nat.le_of_ble_eq_true rfl) ⟨Nat.le_of_ble_eq_true rfl, Nat.le_of_ble_eq_true rfl⟩ ⟨rfl, rfl⟩ (lc_z2 _ _) dX4_most_21 rfl ?_
      refine lc_if_le C (pc' := 27) (tgt := 31) dX4_most_24 (by decide) rfl (fun c24 => ?_) (fun c24 => ?_)
      · have h := (lc_if2 h).1 c24
        refine lc_iload_n C (pc' := 32) 1 dX4_most_31 rfl rfl ?_
        refine lc_sub (lo' := [(0, .ref (lc_ad S 197)), (2, .int x2)]) [0, 2] rfl ?_
        exact w_X4_most_32 C   out (fun x1 x2 s => P_X4_most_13  n x1 x2 s) ih  x2 x1 s3 h
      · have h := (lc_if2 h).2 c24
        refine lc_iload_n C (pc' := 28) 2 dX4_most_27 rfl rfl ?_
        refine lc_goto C (tgt := 32) dX4_most_28 (by decide) ?_
        refine lc_sub (lo' := [(0, .ref (lc_ad S 197)), (2, .int x2)]) [0, 2] rfl ?_
        exact w_X4_most_32 C   out (fun x1 x2 s => P_X4_most_13  n x1 x2 s) ih  x2 x2 s3 h
def P_X4_most   (s : lc_St) : Option (Int32 × lc_St) :=
  lc_let (lc_ss s 0 0 (0 : Int32)) (fun s1 => lc_bd (P_X4_layPut  s1) (fun s2 => P_X4_most_13  lc_FU (0 : Int32) (1 : Int32) s2))
set_option maxRecDepth 100000 in
set_option maxHeartbeats 4000000 in
theorem c_X4_most (S : lc_Se) (l : Launch) (M : lc_MM)   (s : lc_St) (out : Int32 × lc_St) (h : P_X4_most  s = some out) : lc_MI S l yX4_most cX4_most 3 (some .int) rm_X4_most [.ref (lc_ad S 197)] (va_up M 22 s) out.1 (va_up M 22 out.2) := by
  refine lc_mkI (own := RX4) pn_RX4 rfl (Nat.le_of_ble_eq_true rfl) (lo := [(0, .ref (lc_ad S 197))]) rfl (fun X hX C => ?_)
  rw [P_X4_most] at h
  refine lc_aload_n C (pc' := 1) 0 dX4_most_0 rfl rfl ?_
  refine lc_iconst C (pc' := 2) (v := (0 : Int32)) dX4_most_1 (by decide) rfl ?_
  obtain ⟨s1, es1, h⟩ := lc_let2 h
  refine lc_p197_thrown C (pc' := 5) (M' := (va_up M 22 s1)) (va_up_self _ _ _) es1 (lc_up_up _ _ _ _) dX4_most_2 kf_RX4_35 rfl ?_
  refine lc_iconst C (pc' := 6) (v := (0 : Int32)) dX4_most_5 (by decide) rfl ?_
  refine lc_istore_n C (pc' := 7) (lo' := [(1, .int (0 : Int32)), (0, .ref (lc_ad S 197))]) dX4_most_6 (Nat.le_of_ble_eq_true rfl) rfl rfl ?_
  refine lc_aload_n C (pc' := 8) 1 dX4_most_7 rfl rfl ?_
  obtain ⟨s2, h8, h⟩ := lc_bde h
  refine lc_cvv C (pc' := 11) (M' := (va_up M 22 s2)) (As := []) (rest := []) (c_X4_layPut S X.2.1 M    s1 s2 h8) kl_RX4_150 (lc_at197 S _) rfl rfl rfl rfl (Nat.le_of_ble_eq_true rfl) ⟨Nat.le_of_ble_eq_true rfl, Nat.le_of_ble_eq_true rfl⟩ ⟨rfl, rfl⟩ (lc_z2 _ _) dX4_most_8 rfl ?_
  refine lc_iconst C (pc' := 12) (v := (1 : Int32)) dX4_most_11 (by decide) rfl ?_
  refine lc_istore_n C (pc' := 13) (lo' := [(2, .int (1 : Int32)), (1, .int (0 : Int32)), (0, .ref (lc_ad S 197))]) dX4_most_12 (Nat.le_of_ble_eq_true rfl) rfl rfl ?_
  refine lc_sub (lo' := [(0, .ref (lc_ad S 197)), (1, .int (0 : Int32)), (2, .int (1 : Int32))]) [2, 1, 0] rfl ?_
  exact w_X4_most_13 C   out  lc_FU (0 : Int32) (1 : Int32) s2 h
abbrev rm_X4_bestLender : Room := { frames := 2, cells := 0, slots := 0, locals := 46 }
def P_X4_bestLender_176 (K49 : Int32 → Int32 → Int32 → Int32 → Int32 → lc_St → Option (Int32 × lc_St)) (x1 : Int32) (x2 : Int32) (x3 : Int32) (x4 : Int32) (x5 : Int32) (s : lc_St) : Option (Int32 × lc_St) :=
  lc_let (x5 + (1 : Int32)) (fun x5_176 => K49 x1 x2 x3 x4 x5_176 s)
set_option maxRecDepth 100000 in
set_option maxHeartbeats 4000000 in
theorem w_X4_bestLender_176 {S : lc_Se} {X : lc_X} (C : lc_C X cX4_bestLender RX4 8 (some .int) rm_X4_bestLender) {M : lc_MM}  (out : Int32 × lc_St) (K49 : Int32 → Int32 → Int32 → Int32 → Int32 → lc_St → Option (Int32 × lc_St)) (hK49 : ∀ (x1 : Int32) (x2 : Int32) (x3 : Int32) (x4 : Int32) (x5 : Int32) (s : lc_St), K49 x1 x2 x3 x4 x5 s = some out → lc_J S X 8 0 0 (lc_QI S X 0 0 out.1 (va_up M 22 out.2)) 49 [(0, .ref (lc_ad S 197)), (1, .int x1), (2, .int x2), (3, .int x3), (4, .int x4), (5, .int x5)] [] (va_up M 22 s)) : ∀ (x1 : Int32) (x2 : Int32) (x3 : Int32) (x4 : Int32) (x5 : Int32) (s : lc_St), P_X4_bestLender_176 K49 x1 x2 x3 x4 x5 s = some out → lc_J S X 8 0 0 (lc_QI S X 0 0 out.1 (va_up M 22 out.2)) 176 [(0, .ref (lc_ad S 197)), (1, .int x1), (2, .int x2), (3, .int x3), (4, .int x4), (5, .int x5)] [] (va_up M 22 s) := by
  intro x1 x2 x3 x4 x5 s h
  rw [P_X4_bestLender_176] at h
  obtain ⟨x5_176, e5_176, h⟩ := lc_let2 h
  refine lc_iinc C (pc' := 179) (lo' := [(5, .int x5_176), (0, .ref (lc_ad S 197)), (1, .int x1), (2, .int x2), (3, .int x3), (4, .int x4)]) (q := 5) dX4_bestLender_176 rfl (by rw [← e5_176]; rfl) (Nat.le_of_ble_eq_true rfl) rfl rfl ?_
  refine lc_goto C (tgt := 49) dX4_bestLender_179 (by decide) ?_
  refine lc_sub (lo' := [(0, .ref (lc_ad S 197)), (1, .int x1), (2, .int x2), (3, .int x3), (4, .int x4), (5, .int x5_176)]) [1, 2, 3, 4, 5, 0] rfl ?_
  exact hK49 x1 x2 x3 x4 x5_176 s h
def P_X4_bestLender_169 (K49 : Int32 → Int32 → Int32 → Int32 → Int32 → lc_St → Option (Int32 × lc_St)) (x1 : Int32) (x2 : Int32) (x5 : Int32) (x6 : Int32) (s : lc_St) : Option (Int32 × lc_St) :=
  P_X4_bestLender_176 K49  x1 x2 x5 x6 x5 s
set_option maxRecDepth 100000 in
set_option maxHeartbeats 4000000 in
theorem w_X4_bestLender_169 {S : lc_Se} {X : lc_X} (C : lc_C X cX4_bestLender RX4 8 (some .int) rm_X4_bestLender) {M : lc_MM}  (out : Int32 × lc_St) (K49 : Int32 → Int32 → Int32 → Int32 → Int32 → lc_St → Option (Int32 × lc_St)) (hK49 : ∀ (x1 : Int32) (x2 : Int32) (x3 : Int32) (x4 : Int32) (x5 : Int32) (s : lc_St), K49 x1 x2 x3 x4 x5 s = some out → lc_J S X 8 0 0 (lc_QI S X 0 0 out.1 (va_up M 22 out.2)) 49 [(0, .ref (lc_ad S 197)), (1, .int x1), (2, .int x2), (3, .int x3), (4, .int x4), (5, .int x5)] [] (va_up M 22 s)) : ∀ (x1 : Int32) (x2 : Int32) (x5 : Int32) (x6 : Int32) (s : lc_St), P_X4_bestLender_169 K49 x1 x2 x5 x6 s = some out → lc_J S X 8 0 0 (lc_QI S X 0 0 out.1 (va_up M 22 out.2)) 169 [(0, .ref (lc_ad S 197)), (1, .int x1), (2, .int x2), (5, .int x5), (6, .int x6)] [] (va_up M 22 s) := by
  intro x1 x2 x5 x6 s h
  rw [P_X4_bestLender_169] at h
  refine lc_iload C (pc' := 171) 3 dX4_bestLender_169 rfl rfl ?_
  refine lc_istore_n C (pc' := 172) (lo' := [(3, .int x5), (0, .ref (lc_ad S 197)), (1, .int x1), (2, .int x2), (5, .int x5), (6, .int x6)]) dX4_bestLender_171 (Nat.le_of_ble_eq_true rfl) rfl rfl ?_
  refine lc_iload C (pc' := 174) 5 dX4_bestLender_172 rfl rfl ?_
  refine lc_istore C (pc' := 176) (lo' := [(4, .int x6), (3, .int x5), (0, .ref (lc_ad S 197)), (1, .int x1), (2, .int x2), (5, .int x5), (6, .int x6)]) dX4_bestLender_174 (Nat.le_of_ble_eq_true rfl) rfl rfl ?_
  refine lc_sub (lo' := [(0, .ref (lc_ad S 197)), (1, .int x1), (2, .int x2), (3, .int x5), (4, .int x6), (5, .int x5)]) [2, 3, 4, 1, 0, 5] rfl ?_
  exact w_X4_bestLender_176 C   out K49 hK49  x1 x2 x5 x6 x5 s h
def P_X4_bestLender_126 (K49 : Int32 → Int32 → Int32 → Int32 → Int32 → lc_St → Option (Int32 × lc_St)) (x1 : Int32) (x2 : Int32) (x3 : Int32) (x4 : Int32) (x5 : Int32) (x6 : Int32) (t0 : Int32) (s : lc_St) : Option (Int32 × lc_St) :=
  if t0 = 0 then P_X4_bestLender_176 K49  x1 x2 x3 x4 x5 s else if x3 = (-9 : Int32) then P_X4_bestLender_169 K49  x1 x2 x5 x6 s else if x6 < x4 then P_X4_bestLender_169 K49  x1 x2 x5 x6 s else if x6 = x4 then lc_bd (P_X4_of x5 (1 : Int32) s) (fun r157 => lc_bd (P_X4_of x3 (1 : Int32) s) (fun r163 => if r157 ≤ r163 then P_X4_bestLender_176 K49  x1 x2 x3 x4 x5 s else P_X4_bestLender_169 K49  x1 x2 x5 x6 s)) else P_X4_bestLender_176 K49  x1 x2 x3 x4 x5 s
set_option maxRecDepth 100000 in
set_option maxHeartbeats 4000000 in
theorem w_X4_bestLender_126 {S : lc_Se} {X : lc_X} (C : lc_C X cX4_bestLender RX4 8 (some .int) rm_X4_bestLender) {M : lc_MM}  (out : Int32 × lc_St) (K49 : Int32 → Int32 → Int32 → Int32 → Int32 → lc_St → Option (Int32 × lc_St)) (hK49 : ∀ (x1 : Int32) (x2 : Int32) (x3 : Int32) (x4 : Int32) (x5 : Int32) (s : lc_St), K49 x1 x2 x3 x4 x5 s = some out → lc_J S X 8 0 0 (lc_QI S X 0 0 out.1 (va_up M 22 out.2)) 49 [(0, .ref (lc_ad S 197)), (1, .int x1), (2, .int x2), (3, .int x3), (4, .int x4), (5, .int x5)] [] (va_up M 22 s)) : ∀ (x1 : Int32) (x2 : Int32) (x3 : Int32) (x4 : Int32) (x5 : Int32) (x6 : Int32) (t0 : Int32) (s : lc_St), P_X4_bestLender_126 K49 x1 x2 x3 x4 x5 x6 t0 s = some out → lc_J S X 8 0 0 (lc_QI S X 0 0 out.1 (va_up M 22 out.2)) 126 [(0, .ref (lc_ad S 197)), (1, .int x1), (2, .int x2), (3, .int x3), (4, .int x4), (5, .int x5), (6, .int x6)] [.int t0] (va_up M 22 s) := by
  intro x1 x2 x3 x4 x5 x6 t0 s h
  rw [P_X4_bestLender_126] at h
  refine lc_istore C (pc' := 128) (lo' := [(7, .int t0), (0, .ref (lc_ad S 197)), (1, .int x1), (2, .int x2), (3, .int x3), (4, .int x4), (5, .int x5), (6, .int x6)]) dX4_bestLender_126 (Nat.le_of_ble_eq_true rfl) rfl rfl ?_
  refine lc_iload C (pc' := 130) 0 dX4_bestLender_128 rfl rfl ?_
  refine lc_if_eq C (pc' := 133) (tgt := 176) dX4_bestLender_130 (by decide) rfl (fun c130 => ?_) (fun c130 => ?_)
  · have h := (lc_if2 h).1 c130
    refine lc_sub (lo' := [(0, .ref (lc_ad S 197)), (1, .int x1), (2, .int x2), (3, .int x3), (4, .int x4), (5, .int x5)]) [1, 2, 3, 4, 5, 6] rfl ?_
    exact w_X4_bestLender_176 C   out K49 hK49  x1 x2 x3 x4 x5 s h
  · have h := (lc_if2 h).2 c130
    refine lc_iload_n C (pc' := 134) 4 dX4_bestLender_133 rfl rfl ?_
    refine lc_bipush C (pc' := 136) (v := (-9 : Int32)) dX4_bestLender_134 (by decide) rfl ?_
    refine lc_icmp_eq C (pc' := 139) (tgt := 169) dX4_bestLender_136 (by decide) rfl (fun c136 => ?_) (fun c136 => ?_)
    · have h := (lc_if2 h).1 c136
      refine lc_sub (lo' := [(0, .ref (lc_ad S 197)), (1, .int x1), (2, .int x2), (5, .int x5), (6, .int x6)]) [1, 2, 3, 6, 7] rfl ?_
      exact w_X4_bestLender_169 C   out K49 hK49  x1 x2 x5 x6 s h
    · have h := (lc_if2 h).2 c136
      refine lc_iload C (pc' := 141) 7 dX4_bestLender_139 rfl rfl ?_
      refine lc_iload C (pc' := 143) 5 dX4_bestLender_141 rfl rfl ?_
      refine lc_icmp_lt C (pc' := 146) (tgt := 169) dX4_bestLender_143 (by decide) rfl (fun c143 => ?_) (fun c143 => ?_)
      · have h := (lc_if2 h).1 c143
        refine lc_sub (lo' := [(0, .ref (lc_ad S 197)), (1, .int x1), (2, .int x2), (5, .int x5), (6, .int x6)]) [1, 2, 3, 6, 7] rfl ?_
        exact w_X4_bestLender_169 C   out K49 hK49  x1 x2 x5 x6 s h
      · have h := (lc_if2 h).2 c143
        refine lc_iload C (pc' := 148) 7 dX4_bestLender_146 rfl rfl ?_
        refine lc_iload C (pc' := 150) 5 dX4_bestLender_148 rfl rfl ?_
        refine lc_icmp_ne C (pc' := 153) (tgt := 176) dX4_bestLender_150 (by decide) rfl (fun c150 => ?_) (fun c150 => ?_)
        · have h := (lc_if2 h).2 c150
          refine lc_sub (lo' := [(0, .ref (lc_ad S 197)), (1, .int x1), (2, .int x2), (3, .int x3), (4, .int x4), (5, .int x5)]) [1, 2, 3, 4, 5, 6] rfl ?_
          exact w_X4_bestLender_176 C   out K49 hK49  x1 x2 x3 x4 x5 s h
        · have h := (lc_if2 h).1 c150
          refine lc_aload_n C (pc' := 154) 1 dX4_bestLender_153 rfl rfl ?_
          refine lc_iload C (pc' := 156) 6 dX4_bestLender_154 rfl rfl ?_
          refine lc_iconst C (pc' := 157) (v := (1 : Int32)) dX4_bestLender_156 (by decide) rfl ?_
          obtain ⟨r157, h157, h⟩ := lc_bde h
          refine lc_cvi C (pc' := 160) (r := r157) (M' := (va_up M 22 s)) (As := [.int x5, .int (1 : Int32)]) (rest := []) (c_X4_of S X.2.1 M   x5 (1 : Int32) s r157 h157) kl_RX4_43 (lc_at197 S _) rfl rfl rfl rfl (Nat.le_of_ble_eq_true rfl) ⟨Nat.le_of_ble_eq_true rfl, Nat.le_of_ble_eq_true rfl⟩ ⟨rfl, rfl⟩ (lc_z2 _ _) dX4_bestLender_157 rfl ?_
          refine lc_aload_n C (pc' := 161) 1 dX4_bestLender_160 rfl rfl ?_
          refine lc_iload_n C (pc' := 162) 4 dX4_bestLender_161 rfl rfl ?_
          refine lc_iconst C (pc' := 163) (v := (1 : Int32)) dX4_bestLender_162 (by decide) rfl ?_
          obtain ⟨r163, h163, h⟩ := lc_bde h
          refine lc_cvi C (pc' := 166) (r := r163) (M' := (va_up M 22 s)) (As := [.int x3, .int (1 : Int32)]) (rest := [.int r157]) (c_X4_of S X.2.1 M   x3 (1 : Int32) s r163 h163) kl_RX4_43 (lc_at197 S _) rfl rfl rfl rfl (Nat.le_of_ble_eq_true rfl) ⟨Nat.le_of_ble_eq_true rfl, Nat.le_of_ble_eq_true rfl⟩ ⟨rfl, rfl⟩ (lc_z2 _ _) dX4_bestLender_163 rfl ?_
          refine lc_icmp_le C (pc' := 169) (tgt := 176) dX4_bestLender_166 (by decide) rfl (fun c166 => ?_) (fun c166 => ?_)
          · have h := (lc_if2 h).1 c166
            refine lc_sub (lo' := [(0, .ref (lc_ad S 197)), (1, .int x1), (2, .int x2), (3, .int x3), (4, .int x4), (5, .int x5)]) [1, 2, 3, 4, 5, 6] rfl ?_
            exact w_X4_bestLender_176 C   out K49 hK49  x1 x2 x3 x4 x5 s h
          · have h := (lc_if2 h).2 c166
            refine lc_sub (lo' := [(0, .ref (lc_ad S 197)), (1, .int x1), (2, .int x2), (5, .int x5), (6, .int x6)]) [1, 2, 3, 6, 7] rfl ?_
            exact w_X4_bestLender_169 C   out K49 hK49  x1 x2 x5 x6 s h
def P_X4_bestLender_125 (K49 : Int32 → Int32 → Int32 → Int32 → Int32 → lc_St → Option (Int32 × lc_St)) (x1 : Int32) (x2 : Int32) (x3 : Int32) (x4 : Int32) (x5 : Int32) (x6 : Int32) (s : lc_St) : Option (Int32 × lc_St) :=
  P_X4_bestLender_126 K49  x1 x2 x3 x4 x5 x6 (0 : Int32) s
set_option maxRecDepth 100000 in
set_option maxHeartbeats 4000000 in
theorem w_X4_bestLender_125 {S : lc_Se} {X : lc_X} (C : lc_C X cX4_bestLender RX4 8 (some .int) rm_X4_bestLender) {M : lc_MM}  (out : Int32 × lc_St) (K49 : Int32 → Int32 → Int32 → Int32 → Int32 → lc_St → Option (Int32 × lc_St)) (hK49 : ∀ (x1 : Int32) (x2 : Int32) (x3 : Int32) (x4 : Int32) (x5 : Int32) (s : lc_St), K49 x1 x2 x3 x4 x5 s = some out → lc_J S X 8 0 0 (lc_QI S X 0 0 out.1 (va_up M 22 out.2)) 49 [(0, .ref (lc_ad S 197)), (1, .int x1), (2, .int x2), (3, .int x3), (4, .int x4), (5, .int x5)] [] (va_up M 22 s)) : ∀ (x1 : Int32) (x2 : Int32) (x3 : Int32) (x4 : Int32) (x5 : Int32) (x6 : Int32) (s : lc_St), P_X4_bestLender_125 K49 x1 x2 x3 x4 x5 x6 s = some out → lc_J S X 8 0 0 (lc_QI S X 0 0 out.1 (va_up M 22 out.2)) 125 [(0, .ref (lc_ad S 197)), (1, .int x1), (2, .int x2), (3, .int x3), (4, .int x4), (5, .int x5), (6, .int x6)] [] (va_up M 22 s) := by
  intro x1 x2 x3 x4 x5 x6 s h
  rw [P_X4_bestLender_125] at h
  refine lc_iconst C (pc' := 126) (v := (0 : Int32)) dX4_bestLender_125 (by decide) rfl ?_
  exact w_X4_bestLender_126 C   out K49 hK49  x1 x2 x3 x4 x5 x6 (0 : Int32) s h
def P_X4_bestLender_49  : Nat → Int32 → Int32 → Int32 → Int32 → Int32 → lc_St → Option (Int32 × lc_St)
  | 0, _, _, _, _, _, _ => none
  | n + 1, x1, x2, x3, x4, x5, s =>
    if (s 1 1) ≤ x5 then some (x3, s) else lc_bd (P_X4_isSound x1 s) (fun r62 => if r62 = 0 then some (x3, s) else lc_bd (P_X4_of x1 (1 : Int32) s) (fun r71 => lc_bd (P_X4_of x1 (0 : Int32) s) (fun r79 => if r79 < (r71 + x2) then some (x3, s) else lc_bd (P_X4_size x2 x5 x1) (fun r89 => if x5 = x1 then P_X4_bestLender_125 (fun x1 x2 x3 x4 x5 s => P_X4_bestLender_49  n x1 x2 x3 x4 x5 s)  x1 x2 x3 x4 x5 r89 s else lc_bd (P_X4_isSound x5 s) (fun r103 => if r103 = 0 then P_X4_bestLender_125 (fun x1 x2 x3 x4 x5 s => P_X4_bestLender_49  n x1 x2 x3 x4 x5 s)  x1 x2 x3 x4 x5 r89 s else lc_bd (P_X4_of x5 (1 : Int32) s) (fun r113 => if r113 < r89 then P_X4_bestLender_125 (fun x1 x2 x3 x4 x5 s => P_X4_bestLender_49  n x1 x2 x3 x4 x5 s)  x1 x2 x3 x4 x5 r89 s else P_X4_bestLender_126 (fun x1 x2 x3 x4 x5 s => P_X4_bestLender_49  n x1 x2 x3 x4 x5 s)  x1 x2 x3 x4 x5 r89 (1 : Int32) s))))))
set_option maxRecDepth 100000 in
set_option maxHeartbeats 4000000 in
theorem w_X4_bestLender_49 {S : lc_Se} {X : lc_X} (C : lc_C X cX4_bestLender RX4 8 (some .int) rm_X4_bestLender) {M : lc_MM}  (out : Int32 × lc_St)  : ∀ (n : Nat) (x1 : Int32) (x2 : Int32) (x3 : Int32) (x4 : Int32) (x5 : Int32) (s : lc_St), P_X4_bestLender_49  n x1 x2 x3 x4 x5 s = some out → lc_J S X 8 0 0 (lc_QI S X 0 0 out.1 (va_up M 22 out.2)) 49 [(0, .ref (lc_ad S 197)), (1, .int x1), (2, .int x2), (3, .int x3), (4, .int x4), (5, .int x5)] [] (va_up M 22 s) := by
  intro n
  induction n with
  | zero =>
    intro x1 x2 x3 x4 x5 s h
    rw [P_X4_bestLender_49] at h
    cases h
  | succ n ih =>
    intro x1 x2 x3 x4 x5 s h
    rw [P_X4_bestLender_49] at h
    refine lc_iload C (pc' := 51) 5 dX4_bestLender_49 rfl rfl ?_
    refine lc_aload_n C (pc' := 52) 0 dX4_bestLender_51 rfl rfl ?_
    refine lc_g197_now C (pc' := 55) (va_up_self _ _ _) dX4_bestLender_52 kf_RX4_7 rfl ?_
    refine lc_iconst C (pc' := 56) (v := (1 : Int32)) dX4_bestLender_55 (by decide) rfl ?_
    refine lc_ld198 C (pc' := 57) (jj := 1) (va_up_self _ _ _) (by decide) (by decide) dX4_bestLender_56 rfl ?_
    refine lc_icmp_ge C (pc' := 60) (tgt := 182) dX4_bestLender_57 (by decide) rfl (fun c57 => ?_) (fun c57 => ?_)
    · have h := (lc_if2 h).1 c57
      refine lc_iload_n C (pc' := 183) 3 dX4_bestLender_182 rfl rfl ?_
      obtain rfl := Option.some.inj h
      exact lc_iret C rfl dX4_bestLender_183
    · have h := (lc_if2 h).2 c57
      refine lc_aload_n C (pc' := 61) 0 dX4_bestLender_60 rfl rfl ?_
      refine lc_iload_n C (pc' := 62) 1 dX4_bestLender_61 rfl rfl ?_
      obtain ⟨r62, h62, h⟩ := lc_bde h
      refine lc_cvi C (pc' := 65) (r := r62) (M' := (va_up M 22 s)) (As := [.int x1]) (rest := []) (c_X4_isSound S X.2.1 M   x1 s r62 h62) kl_RX4_84 (lc_at197 S _) rfl rfl rfl rfl (Nat.le_of_ble_eq_true rfl) ⟨Nat.le_of_ble_eq_true rfl, Nat.le_of_ble_eq_true rfl⟩ ⟨rfl, rfl⟩ (lc_z2 _ _) dX4_bestLender_62 rfl ?_
      refine lc_if_eq C (pc' := 68) (tgt := 182) dX4_bestLender_65 (by decide) rfl (fun c65 => ?_) (fun c65 => ?_)
      · have h := (lc_if2 h).1 c65
        refine lc_iload_n C (pc' := 183) 3 dX4_bestLender_182 rfl rfl ?_
        obtain rfl := Option.some.inj h
        exact lc_iret C rfl dX4_bestLender_183
      · have h := (lc_if2 h).2 c65
        refine lc_aload_n C (pc' := 69) 0 dX4_bestLender_68 rfl rfl ?_
        refine lc_iload_n C (pc' := 70) 1 dX4_bestLender_69 rfl rfl ?_
        refine lc_iconst C (pc' := 71) (v := (1 : Int32)) dX4_bestLender_70 (by decide) rfl ?_
        obtain ⟨r71, h71, h⟩ := lc_bde h
        refine lc_cvi C (pc' := 74) (r := r71) (M' := (va_up M 22 s)) (As := [.int x1, .int (1 : Int32)]) (rest := []) (c_X4_of S X.2.1 M   x1 (1 : Int32) s r71 h71) kl_RX4_43 (lc_at197 S _) rfl rfl rfl rfl (Nat.le_of_ble_eq_true rfl) ⟨Nat.le_of_ble_eq_true rfl, Nat.le_of_ble_eq_true rfl⟩ ⟨rfl, rfl⟩ (lc_z2 _ _) dX4_bestLender_71 rfl ?_
        refine lc_iload_n C (pc' := 75) 2 dX4_bestLender_74 rfl rfl ?_
        refine lc_iadd C (pc' := 76) dX4_bestLender_75 rfl ?_
        refine lc_aload_n C (pc' := 77) 0 dX4_bestLender_76 rfl rfl ?_
        refine lc_iload_n C (pc' := 78) 1 dX4_bestLender_77 rfl rfl ?_
        refine lc_iconst C (pc' := 79) (v := (0 : Int32)) dX4_bestLender_78 (by decide) rfl ?_
        obtain ⟨r79, h79, h⟩ := lc_bde h
        refine lc_cvi C (pc' := 82) (r := r79) (M' := (va_up M 22 s)) (As := [.int x1, .int (0 : Int32)]) (rest := [.int (r71 + x2)]) (c_X4_of S X.2.1 M   x1 (0 : Int32) s r79 h79) kl_RX4_43 (lc_at197 S _) rfl rfl rfl rfl (Nat.le_of_ble_eq_true rfl) ⟨Nat.le_of_ble_eq_true rfl, Nat.le_of_ble_eq_true rfl⟩ ⟨rfl, rfl⟩ (lc_z2 _ _) dX4_bestLender_79 rfl ?_
        refine lc_icmp_gt C (pc' := 85) (tgt := 182) dX4_bestLender_82 (by decide) rfl (fun c82 => ?_) (fun c82 => ?_)
        · have h := (lc_if2 h).1 c82
          refine lc_iload_n C (pc' := 183) 3 dX4_bestLender_182 rfl rfl ?_
          obtain rfl := Option.some.inj h
          exact lc_iret C rfl dX4_bestLender_183
        · have h := (lc_if2 h).2 c82
          refine lc_iload_n C (pc' := 86) 2 dX4_bestLender_85 rfl rfl ?_
          refine lc_iload C (pc' := 88) 5 dX4_bestLender_86 rfl rfl ?_
          refine lc_iload_n C (pc' := 89) 1 dX4_bestLender_88 rfl rfl ?_
          obtain ⟨r89, h89, h⟩ := lc_bde h
          refine lc_csi C (pc' := 92) (r := r89) (M' := (va_up M 22 s)) (As := [.int x2, .int x5, .int x1]) (rest := []) (c_X4_size S X.2.1 (va_up M 22 s)   x2 x5 x1  r89 h89) kl_RX4_98 rfl rfl (Nat.le_of_ble_eq_true rfl) ⟨Nat.le_of_ble_eq_true rfl, Nat.le_of_ble_eq_true rfl⟩ ⟨rfl, rfl⟩ (lc_z2 _ _) dX4_bestLender_89 rfl ?_
          refine lc_istore C (pc' := 94) (lo' := [(6, .int r89), (0, .ref (lc_ad S 197)), (1, .int x1), (2, .int x2), (3, .int x3), (4, .int x4), (5, .int x5)]) dX4_bestLender_92 (Nat.le_of_ble_eq_true rfl) rfl rfl ?_
          refine lc_iload C (pc' := 96) 6 dX4_bestLender_94 rfl rfl ?_
          refine lc_iload_n C (pc' := 97) 2 dX4_bestLender_96 rfl rfl ?_
          refine lc_icmp_eq C (pc' := 100) (tgt := 125) dX4_bestLender_97 (by decide) rfl (fun c97 => ?_) (fun c97 => ?_)
          · have h := (lc_if2 h).1 c97
            refine lc_sub (lo' := [(0, .ref (lc_ad S 197)), (1, .int x1), (2, .int x2), (3, .int x3), (4, .int x4), (5, .int x5), (6, .int r89)]) [1, 2, 3, 4, 5, 6, 0] rfl ?_
            exact w_X4_bestLender_125 C   out (fun x1 x2 x3 x4 x5 s => P_X4_bestLender_49  n x1 x2 x3 x4 x5 s) ih  x1 x2 x3 x4 x5 r89 s h
          · have h := (lc_if2 h).2 c97
            refine lc_aload_n C (pc' := 101) 1 dX4_bestLender_100 rfl rfl ?_
            refine lc_iload C (pc' := 103) 6 dX4_bestLender_101 rfl rfl ?_
            obtain ⟨r103, h103, h⟩ := lc_bde h
            refine lc_cvi C (pc' := 106) (r := r103) (M' := (va_up M 22 s)) (As := [.int x5]) (rest := []) (c_X4_isSound S X.2.1 M   x5 s r103 h103) kl_RX4_84 (lc_at197 S _) rfl rfl rfl rfl (Nat.le_of_ble_eq_true rfl) ⟨Nat.le_of_ble_eq_true rfl, Nat.le_of_ble_eq_true rfl⟩ ⟨rfl, rfl⟩ (lc_z2 _ _) dX4_bestLender_103 rfl ?_
            refine lc_if_eq C (pc' := 109) (tgt := 125) dX4_bestLender_106 (by decide) rfl (fun c106 => ?_) (fun c106 => ?_)
            · have h := (lc_if2 h).1 c106
              refine lc_sub (lo' := [(0, .ref (lc_ad S 197)), (1, .int x1), (2, .int x2), (3, .int x3), (4, .int x4), (5, .int x5), (6, .int r89)]) [1, 2, 3, 4, 5, 6, 0] rfl ?_
              exact w_X4_bestLender_125 C   out (fun x1 x2 x3 x4 x5 s => P_X4_bestLender_49  n x1 x2 x3 x4 x5 s) ih  x1 x2 x3 x4 x5 r89 s h
            · have h := (lc_if2 h).2 c106
              refine lc_aload_n C (pc' := 110) 1 dX4_bestLender_109 rfl rfl ?_
              refine lc_iload C (pc' := 112) 6 dX4_bestLender_110 rfl rfl ?_
              refine lc_iconst C (pc' := 113) (v := (1 : Int32)) dX4_bestLender_112 (by decide) rfl ?_
              obtain ⟨r113, h113, h⟩ := lc_bde h
              refine lc_cvi C (pc' := 116) (r := r113) (M' := (va_up M 22 s)) (As := [.int x5, .int (1 : Int32)]) (rest := []) (c_X4_of S X.2.1 M   x5 (1 : Int32) s r113 h113) kl_RX4_43 (lc_at197 S _) rfl rfl rfl rfl (Nat.le_of_ble_eq_true rfl) ⟨Nat.le_of_ble_eq_true rfl, Nat.le_of_ble_eq_true rfl⟩ ⟨rfl, rfl⟩ (lc_z2 _ _) dX4_bestLender_113 rfl ?_
              refine lc_iload C (pc' := 118) 0 dX4_bestLender_116 rfl rfl ?_
              refine lc_icmp_lt C (pc' := 121) (tgt := 125) dX4_bestLender_118 (by decide) rfl (fun c118 => ?_) (fun c118 => ?_)
              · have h := (lc_if2 h).1 c118
                refine lc_sub (lo' := [(0, .ref (lc_ad S 197)), (1, .int x1), (2, .int x2), (3, .int x3), (4, .int x4), (5, .int x5), (6, .int r89)]) [1, 2, 3, 4, 5, 6, 0] rfl ?_
                exact w_X4_bestLender_125 C   out (fun x1 x2 x3 x4 x5 s => P_X4_bestLender_49  n x1 x2 x3 x4 x5 s) ih  x1 x2 x3 x4 x5 r89 s h
              · have h := (lc_if2 h).2 c118
                refine lc_iconst C (pc' := 122) (v := (1 : Int32)) dX4_bestLender_121 (by decide) rfl ?_
                refine lc_goto C (tgt := 126) dX4_bestLender_122 (by decide) ?_
                refine lc_sub (lo' := [(0, .ref (lc_ad S 197)), (1, .int x1), (2, .int x2), (3, .int x3), (4, .int x4), (5, .int x5), (6, .int r89)]) [1, 2, 3, 4, 5, 6, 0] rfl ?_
                exact w_X4_bestLender_126 C   out (fun x1 x2 x3 x4 x5 s => P_X4_bestLender_49  n x1 x2 x3 x4 x5 s) ih  x1 x2 x3 x4 x5 r89 (1 : Int32) s h
def P_X4_bestLender_28  (x1 : Int32) (x2 : Int32) (t1 : Int32) (s : lc_St) : Option (Int32 × lc_St) :=
  lc_let (lc_ss s 0 0 t1) (fun s1 => if (s1 0 0) ≤ 0 then P_X4_bestLender_49  lc_FU x1 x2 (-9 : Int32) (0 : Int32) (0 : Int32) s1 else some ((0 : Int32), s1))
set_option maxRecDepth 100000 in
set_option maxHeartbeats 4000000 in
theorem w_X4_bestLender_28 {S : lc_Se} {X : lc_X} (C : lc_C X cX4_bestLender RX4 8 (some .int) rm_X4_bestLender) {M : lc_MM}  (out : Int32 × lc_St)  : ∀ (x1 : Int32) (x2 : Int32) (t1 : Int32) (s : lc_St), P_X4_bestLender_28  x1 x2 t1 s = some out → lc_J S X 8 0 0 (lc_QI S X 0 0 out.1 (va_up M 22 out.2)) 28 [(0, .ref (lc_ad S 197)), (1, .int x1), (2, .int x2)] [.int t1, .ref (lc_ad S 197)] (va_up M 22 s) := by
  intro x1 x2 t1 s h
  rw [P_X4_bestLender_28] at h
  obtain ⟨s1, es1, h⟩ := lc_let2 h
  refine lc_p197_thrown C (pc' := 31) (M' := (va_up M 22 s1)) (va_up_self _ _ _) es1 (lc_up_up _ _ _ _) dX4_bestLender_28 kf_RX4_35 rfl ?_
  refine lc_aload_n C (pc' := 32) 0 dX4_bestLender_31 rfl rfl ?_
  refine lc_g197_thrown C (pc' := 35) (va_up_self _ _ _) dX4_bestLender_32 kf_RX4_35 rfl ?_
  refine lc_if_le C (pc' := 38) (tgt := 40) dX4_bestLender_35 (by decide) rfl (fun c35 => ?_) (fun c35 => ?_)
  · have h := (lc_if2 h).1 c35
    refine lc_bipush C (pc' := 42) (v := (-9 : Int32)) dX4_bestLender_40 (by decide) rfl ?_
    refine lc_istore_n C (pc' := 43) (lo' := [(3, .int (-9 : Int32)), (0, .ref (lc_ad S 197)), (1, .int x1), (2, .int x2)]) dX4_bestLender_42 (Nat.le_of_ble_eq_true rfl) rfl rfl ?_
    refine lc_iconst C (pc' := 44) (v := (0 : Int32)) dX4_bestLender_43 (by decide) rfl ?_
    refine lc_istore C (pc' := 46) (lo' := [(4, .int (0 : Int32)), (3, .int (-9 : Int32)), (0, .ref (lc_ad S 197)), (1, .int x1), (2, .int x2)]) dX4_bestLender_44 (Nat.le_of_ble_eq_true rfl) rfl rfl ?_
    refine lc_iconst C (pc' := 47) (v := (0 : Int32)) dX4_bestLender_46 (by decide) rfl ?_
    refine lc_istore C (pc' := 49) (lo' := [(5, .int (0 : Int32)), (4, .int (0 : Int32)), (3, .int (-9 : Int32)), (0, .ref (lc_ad S 197)), (1, .int x1), (2, .int x2)]) dX4_bestLender_47 (Nat.le_of_ble_eq_true rfl) rfl rfl ?_
    refine lc_sub (lo' := [(0, .ref (lc_ad S 197)), (1, .int x1), (2, .int x2), (3, .int (-9 : Int32)), (4, .int (0 : Int32)), (5, .int (0 : Int32))]) [3, 4, 5, 2, 1, 0] rfl ?_
    exact w_X4_bestLender_49 C   out  lc_FU x1 x2 (-9 : Int32) (0 : Int32) (0 : Int32) s1 h
  · have h := (lc_if2 h).2 c35
    refine lc_iconst C (pc' := 39) (v := (0 : Int32)) dX4_bestLender_38 (by decide) rfl ?_
    obtain rfl := Option.some.inj h
    exact lc_iret C rfl dX4_bestLender_39
def P_X4_bestLender  (x1 : Int32) (x2 : Int32) (s : lc_St) : Option (Int32 × lc_St) :=
  lc_bd (P_X4_isCell x1 s) (fun r3 => if r3 = 0 then P_X4_bestLender_28   x1 x2 (1 : Int32) s else lc_bd (P_X4_in x2 (1 : Int32) (99 : Int32)) (fun r17 => if r17 = 0 then P_X4_bestLender_28   x1 x2 (2 : Int32) s else P_X4_bestLender_28   x1 x2 (0 : Int32) s))
set_option maxRecDepth 100000 in
set_option maxHeartbeats 4000000 in
theorem c_X4_bestLender (S : lc_Se) (l : Launch) (M : lc_MM)  (x1 : Int32) (x2 : Int32) (s : lc_St) (out : Int32 × lc_St) (h : P_X4_bestLender x1 x2 s = some out) : lc_MI S l yX4_bestLender cX4_bestLender 8 (some .int) rm_X4_bestLender [.ref (lc_ad S 197), .int x1, .int x2] (va_up M 22 s) out.1 (va_up M 22 out.2) := by
  refine lc_mkI (own := RX4) pn_RX4 rfl (Nat.le_of_ble_eq_true rfl) (lo := [(0, .ref (lc_ad S 197)), (1, .int x1), (2, .int x2)]) rfl (fun X hX C => ?_)
  rw [P_X4_bestLender] at h
  refine lc_aload_n C (pc' := 1) 0 dX4_bestLender_0 rfl rfl ?_
  refine lc_aload_n C (pc' := 2) 0 dX4_bestLender_1 rfl rfl ?_
  refine lc_iload_n C (pc' := 3) 1 dX4_bestLender_2 rfl rfl ?_
  obtain ⟨r3, h3, h⟩ := lc_bde h
  refine lc_cvi C (pc' := 6) (r := r3) (M' := (va_up M 22 s)) (As := [.int x1]) (rest := [.ref (lc_ad S 197)]) (c_X4_isCell S X.2.1 M   x1 s r3 h3) kl_RX4_135 (lc_at197 S _) rfl rfl rfl rfl (Nat.le_of_ble_eq_true rfl) ⟨Nat.le_of_ble_eq_true rfl, Nat.le_of_ble_eq_true rfl⟩ ⟨rfl, rfl⟩ (lc_z2 _ _) dX4_bestLender_3 rfl ?_
  refine lc_if_ne C (pc' := 9) (tgt := 13) dX4_bestLender_6 (by decide) rfl (fun c6 => ?_) (fun c6 => ?_)
  · have h := (lc_if2 h).2 c6
    refine lc_iload_n C (pc' := 14) 2 dX4_bestLender_13 rfl rfl ?_
    refine lc_iconst C (pc' := 15) (v := (1 : Int32)) dX4_bestLender_14 (by decide) rfl ?_
    refine lc_bipush C (pc' := 17) (v := (99 : Int32)) dX4_bestLender_15 (by decide) rfl ?_
    obtain ⟨r17, h17, h⟩ := lc_bde h
    refine lc_csi C (pc' := 20) (r := r17) (M' := (va_up M 22 s)) (As := [.int x2, .int (1 : Int32), .int (99 : Int32)]) (rest := [.ref (lc_ad S 197)]) (c_X4_in S X.2.1 (va_up M 22 s)   x2 (1 : Int32) (99 : Int32)  r17 h17) kl_RX4_39 rfl rfl (Nat.le_of_ble_eq_true rfl) ⟨Nat.le_of_ble_eq_true rfl, Nat.le_of_ble_eq_true rfl⟩ ⟨rfl, rfl⟩ (lc_z2 _ _) dX4_bestLender_17 rfl ?_
    refine lc_if_ne C (pc' := 23) (tgt := 27) dX4_bestLender_20 (by decide) rfl (fun c20 => ?_) (fun c20 => ?_)
    · have h := (lc_if2 h).2 c20
      refine lc_iconst C (pc' := 28) (v := (0 : Int32)) dX4_bestLender_27 (by decide) rfl ?_
      exact w_X4_bestLender_28 C   out   x1 x2 (0 : Int32) s h
    · have h := (lc_if2 h).1 c20
      refine lc_iconst C (pc' := 24) (v := (2 : Int32)) dX4_bestLender_23 (by decide) rfl ?_
      refine lc_goto C (tgt := 28) dX4_bestLender_24 (by decide) ?_
      exact w_X4_bestLender_28 C   out   x1 x2 (2 : Int32) s h
  · have h := (lc_if2 h).1 c6
    refine lc_iconst C (pc' := 10) (v := (1 : Int32)) dX4_bestLender_9 (by decide) rfl ?_
    refine lc_goto C (tgt := 28) dX4_bestLender_10 (by decide) ?_
    exact w_X4_bestLender_28 C   out   x1 x2 (1 : Int32) s h
abbrev rm_X4_costs : Room := { frames := 5, cells := 0, slots := 0, locals := 119 }
def P_X4_costs_28  (x1 : Int32) (x2 : Int32) (t1 : Int32) (s : lc_St) : Option (Int32 × lc_St) :=
  lc_let (lc_ss s 0 0 t1) (fun s1 => if (s1 0 0) ≤ 0 then lc_bd (P_X4_layPut  s1) (fun s2 => lc_let (lc_ss s2 0 3 x1) (fun s3 => lc_let (lc_ss s3 0 4 (0 : Int32)) (fun s4 => lc_bd2 (P_X4_rounds x2 s4) (fun r56 s5 => lc_let (lc_ss s5 0 3 (-9 : Int32)) (fun s6 => lc_bd (P_X4_putBack  s6) (fun s7 => some ((s7 0 4), s7))))))) else some ((0 : Int32), s1))
set_option maxRecDepth 100000 in
set_option maxHeartbeats 4000000 in
theorem w_X4_costs_28 {S : lc_Se} {X : lc_X} (C : lc_C X cX4_costs RX4 3 (some .int) rm_X4_costs) {M : lc_MM}  (out : Int32 × lc_St)  : ∀ (x1 : Int32) (x2 : Int32) (t1 : Int32) (s : lc_St), P_X4_costs_28  x1 x2 t1 s = some out → lc_J S X 3 0 0 (lc_QI S X 0 0 out.1 (va_up M 22 out.2)) 28 [(0, .ref (lc_ad S 197)), (1, .int x1), (2, .int x2)] [.int t1, .ref (lc_ad S 197)] (va_up M 22 s) := by
  intro x1 x2 t1 s h
  rw [P_X4_costs_28] at h
  obtain ⟨s1, es1, h⟩ := lc_let2 h
  refine lc_p197_thrown C (pc' := 31) (M' := (va_up M 22 s1)) (va_up_self _ _ _) es1 (lc_up_up _ _ _ _) dX4_costs_28 kf_RX4_35 rfl ?_
  refine lc_aload_n C (pc' := 32) 0 dX4_costs_31 rfl rfl ?_
  refine lc_g197_thrown C (pc' := 35) (va_up_self _ _ _) dX4_costs_32 kf_RX4_35 rfl ?_
  refine lc_if_le C (pc' := 38) (tgt := 40) dX4_costs_35 (by decide) rfl (fun c35 => ?_) (fun c35 => ?_)
  · have h := (lc_if2 h).1 c35
    refine lc_aload_n C (pc' := 41) 0 dX4_costs_40 rfl rfl ?_
    obtain ⟨s2, h41, h⟩ := lc_bde h
    refine lc_cvv C (pc' := 44) (M' := (va_up M 22 s2)) (As := []) (rest := []) (c_X4_layPut S X.2.1 M    s1 s2 h41) kl_RX4_150 (lc_at197 S _) rfl rfl rfl rfl (Nat.le_of_ble_eq_true rfl) ⟨Nat.le_of_ble_eq_true rfl, Nat.le_of_ble_eq_true rfl⟩ ⟨rfl, rfl⟩ (lc_z2 _ _) dX4_costs_41 rfl ?_
    refine lc_aload_n C (pc' := 45) 0 dX4_costs_44 rfl rfl ?_
    refine lc_iload_n C (pc' := 46) 1 dX4_costs_45 rfl rfl ?_
    obtain ⟨s3, es3, h⟩ := lc_let2 h
    refine lc_p197_watched C (pc' := 49) (M' := (va_up M 22 s3)) (va_up_self _ _ _) es3 (lc_up_up _ _ _ _) dX4_costs_46 kf_RX4_61 rfl ?_
    refine lc_aload_n C (pc' := 50) 0 dX4_costs_49 rfl rfl ?_
    refine lc_iconst C (pc' := 51) (v := (0 : Int32)) dX4_costs_50 (by decide) rfl ?_
    obtain ⟨s4, es4, h⟩ := lc_let2 h
    refine lc_p197_burned C (pc' := 54) (M' := (va_up M 22 s4)) (va_up_self _ _ _) es4 (lc_up_up _ _ _ _) dX4_costs_51 kf_RX4_71 rfl ?_
    refine lc_aload_n C (pc' := 55) 0 dX4_costs_54 rfl rfl ?_
    refine lc_iload_n C (pc' := 56) 2 dX4_costs_55 rfl rfl ?_
    obtain ⟨r56, s5, h56, h⟩ := lc_bd2e h
    refine lc_cvi C (pc' := 59) (r := r56) (M' := (va_up M 22 s5)) (As := [.int x2]) (rest := []) (c_X4_rounds S X.2.1 M   x2 s4 (r56, s5) h56) kl_RX4_196 (lc_at197 S _) rfl rfl rfl rfl (Nat.le_of_ble_eq_true rfl) ⟨Nat.le_of_ble_eq_true rfl, Nat.le_of_ble_eq_true rfl⟩ ⟨rfl, rfl⟩ (lc_z2 _ _) dX4_costs_56 rfl ?_
    refine lc_pop C (pc' := 60) dX4_costs_59 rfl rfl ?_
    refine lc_aload_n C (pc' := 61) 0 dX4_costs_60 rfl rfl ?_
    refine lc_bipush C (pc' := 63) (v := (-9 : Int32)) dX4_costs_61 (by decide) rfl ?_
    obtain ⟨s6, es6, h⟩ := lc_let2 h
    refine lc_p197_watched C (pc' := 66) (M' := (va_up M 22 s6)) (va_up_self _ _ _) es6 (lc_up_up _ _ _ _) dX4_costs_63 kf_RX4_61 rfl ?_
    refine lc_aload_n C (pc' := 67) 0 dX4_costs_66 rfl rfl ?_
    obtain ⟨s7, h67, h⟩ := lc_bde h
    refine lc_cvv C (pc' := 70) (M' := (va_up M 22 s7)) (As := []) (rest := []) (c_X4_putBack S X.2.1 M    s6 s7 h67) kl_RX4_157 (lc_at197 S _) rfl rfl rfl rfl (Nat.le_of_ble_eq_true rfl) ⟨Nat.le_of_ble_eq_true rfl, Nat.le_of_ble_eq_true rfl⟩ ⟨rfl, rfl⟩ (lc_z2 _ _) dX4_costs_67 rfl ?_
    refine lc_aload_n C (pc' := 71) 0 dX4_costs_70 rfl rfl ?_
    refine lc_g197_burned C (pc' := 74) (va_up_self _ _ _) dX4_costs_71 kf_RX4_71 rfl ?_
    obtain rfl := Option.some.inj h
    exact lc_iret C rfl dX4_costs_74
  · have h := (lc_if2 h).2 c35
    refine lc_iconst C (pc' := 39) (v := (0 : Int32)) dX4_costs_38 (by decide) rfl ?_
    obtain rfl := Option.some.inj h
    exact lc_iret C rfl dX4_costs_39
def P_X4_costs  (x1 : Int32) (x2 : Int32) (s : lc_St) : Option (Int32 × lc_St) :=
  lc_bd (P_X4_isLoan x1 s) (fun r3 => if r3 = 0 then P_X4_costs_28   x1 x2 (1 : Int32) s else lc_bd (P_X4_in x2 (1 : Int32) (50 : Int32)) (fun r17 => if r17 = 0 then P_X4_costs_28   x1 x2 (2 : Int32) s else P_X4_costs_28   x1 x2 (0 : Int32) s))
set_option maxRecDepth 100000 in
set_option maxHeartbeats 4000000 in
theorem c_X4_costs (S : lc_Se) (l : Launch) (M : lc_MM)  (x1 : Int32) (x2 : Int32) (s : lc_St) (out : Int32 × lc_St) (h : P_X4_costs x1 x2 s = some out) : lc_MI S l yX4_costs cX4_costs 3 (some .int) rm_X4_costs [.ref (lc_ad S 197), .int x1, .int x2] (va_up M 22 s) out.1 (va_up M 22 out.2) := by
  refine lc_mkI (own := RX4) pn_RX4 rfl (Nat.le_of_ble_eq_true rfl) (lo := [(0, .ref (lc_ad S 197)), (1, .int x1), (2, .int x2)]) rfl (fun X hX C => ?_)
  rw [P_X4_costs] at h
  refine lc_aload_n C (pc' := 1) 0 dX4_costs_0 rfl rfl ?_
  refine lc_aload_n C (pc' := 2) 0 dX4_costs_1 rfl rfl ?_
  refine lc_iload_n C (pc' := 3) 1 dX4_costs_2 rfl rfl ?_
  obtain ⟨r3, h3, h⟩ := lc_bde h
  refine lc_cvi C (pc' := 6) (r := r3) (M' := (va_up M 22 s)) (As := [.int x1]) (rest := [.ref (lc_ad S 197)]) (c_X4_isLoan S X.2.1 M   x1 s r3 h3) kl_RX4_175 (lc_at197 S _) rfl rfl rfl rfl (Nat.le_of_ble_eq_true rfl) ⟨Nat.le_of_ble_eq_true rfl, Nat.le_of_ble_eq_true rfl⟩ ⟨rfl, rfl⟩ (lc_z2 _ _) dX4_costs_3 rfl ?_
  refine lc_if_ne C (pc' := 9) (tgt := 13) dX4_costs_6 (by decide) rfl (fun c6 => ?_) (fun c6 => ?_)
  · have h := (lc_if2 h).2 c6
    refine lc_iload_n C (pc' := 14) 2 dX4_costs_13 rfl rfl ?_
    refine lc_iconst C (pc' := 15) (v := (1 : Int32)) dX4_costs_14 (by decide) rfl ?_
    refine lc_bipush C (pc' := 17) (v := (50 : Int32)) dX4_costs_15 (by decide) rfl ?_
    obtain ⟨r17, h17, h⟩ := lc_bde h
    refine lc_csi C (pc' := 20) (r := r17) (M' := (va_up M 22 s)) (As := [.int x2, .int (1 : Int32), .int (50 : Int32)]) (rest := [.ref (lc_ad S 197)]) (c_X4_in S X.2.1 (va_up M 22 s)   x2 (1 : Int32) (50 : Int32)  r17 h17) kl_RX4_39 rfl rfl (Nat.le_of_ble_eq_true rfl) ⟨Nat.le_of_ble_eq_true rfl, Nat.le_of_ble_eq_true rfl⟩ ⟨rfl, rfl⟩ (lc_z2 _ _) dX4_costs_17 rfl ?_
    refine lc_if_ne C (pc' := 23) (tgt := 27) dX4_costs_20 (by decide) rfl (fun c20 => ?_) (fun c20 => ?_)
    · have h := (lc_if2 h).2 c20
      refine lc_iconst C (pc' := 28) (v := (0 : Int32)) dX4_costs_27 (by decide) rfl ?_
      exact w_X4_costs_28 C   out   x1 x2 (0 : Int32) s h
    · have h := (lc_if2 h).1 c20
      refine lc_iconst C (pc' := 24) (v := (2 : Int32)) dX4_costs_23 (by decide) rfl ?_
      refine lc_goto C (tgt := 28) dX4_costs_24 (by decide) ?_
      exact w_X4_costs_28 C   out   x1 x2 (2 : Int32) s h
  · have h := (lc_if2 h).1 c6
    refine lc_iconst C (pc' := 10) (v := (1 : Int32)) dX4_costs_9 (by decide) rfl ?_
    refine lc_goto C (tgt := 28) dX4_costs_10 (by decide) ?_
    exact w_X4_costs_28 C   out   x1 x2 (1 : Int32) s h
abbrev rm_X4_isLent : Room := { frames := 3, cells := 0, slots := 0, locals := 72 }
def P_X4_isLent_17  (x1 : Int32) (x2 : Int32) (x3 : Int32) (t0 : Int32) (s : lc_St) : Option (Int32 × lc_St) :=
  if t0 = 0 then lc_if (t0 = 0 ∨ t0 = 1) (some (t0, s)) else lc_bd2 (P_X4_makeLoan x1 x2 x3 (10 : Int32) s) (fun r30 s1 => lc_if (t0 = 0 ∨ t0 = 1) (some (t0, s1)))
set_option maxRecDepth 100000 in
set_option maxHeartbeats 4000000 in
theorem w_X4_isLent_17 {S : lc_Se} {X : lc_X} (C : lc_C X cX4_isLent RX4 5 (some .boolean) rm_X4_isLent) {M : lc_MM}  (out : Int32 × lc_St)  : ∀ (x1 : Int32) (x2 : Int32) (x3 : Int32) (t0 : Int32) (s : lc_St), P_X4_isLent_17  x1 x2 x3 t0 s = some out → lc_J S X 5 0 0 (lc_QI S X 0 0 out.1 (va_up M 22 out.2)) 17 [(0, .ref (lc_ad S 197)), (1, .int x1), (2, .int x2), (3, .int x3)] [.int t0] (va_up M 22 s) := by
  intro x1 x2 x3 t0 s h
  rw [P_X4_isLent_17] at h
  refine lc_istore C (pc' := 19) (lo' := [(4, .int t0), (0, .ref (lc_ad S 197)), (1, .int x1), (2, .int x2), (3, .int x3)]) dX4_isLent_17 (Nat.le_of_ble_eq_true rfl) rfl rfl ?_
  refine lc_iload C (pc' := 21) 0 dX4_isLent_19 rfl rfl ?_
  refine lc_if_eq C (pc' := 24) (tgt := 34) dX4_isLent_21 (by decide) rfl (fun c21 => ?_) (fun c21 => ?_)
  · have h := (lc_if2 h).1 c21
    refine lc_iload C (pc' := 36) 0 dX4_isLent_34 rfl rfl ?_
    obtain ⟨hb36, h⟩ := lc_ife h
    obtain rfl := Option.some.inj h
    exact lc_zret C rfl hb36 dX4_isLent_36
  · have h := (lc_if2 h).2 c21
    refine lc_aload_n C (pc' := 25) 1 dX4_isLent_24 rfl rfl ?_
    refine lc_iload_n C (pc' := 26) 2 dX4_isLent_25 rfl rfl ?_
    refine lc_iload_n C (pc' := 27) 3 dX4_isLent_26 rfl rfl ?_
    refine lc_iload_n C (pc' := 28) 4 dX4_isLent_27 rfl rfl ?_
    refine lc_bipush C (pc' := 30) (v := (10 : Int32)) dX4_isLent_28 (by decide) rfl ?_
    obtain ⟨r30, s1, h30, h⟩ := lc_bd2e h
    refine lc_cvi C (pc' := 33) (r := r30) (M' := (va_up M 22 s1)) (As := [.int x1, .int x2, .int x3, .int (10 : Int32)]) (rest := []) (c_X4_makeLoan S X.2.1 M   x1 x2 x3 (10 : Int32) s (r30, s1) h30) kl_RX4_101 (lc_at197 S _) rfl rfl rfl rfl (Nat.le_of_ble_eq_true rfl) ⟨Nat.le_of_ble_eq_true rfl, Nat.le_of_ble_eq_true rfl⟩ ⟨rfl, rfl⟩ (lc_z2 _ _) dX4_isLent_30 rfl ?_
    refine lc_pop C (pc' := 34) dX4_isLent_33 rfl rfl ?_
    refine lc_iload C (pc' := 36) 0 dX4_isLent_34 rfl rfl ?_
    obtain ⟨hb36, h⟩ := lc_ife h
    obtain rfl := Option.some.inj h
    exact lc_zret C rfl hb36 dX4_isLent_36
def P_X4_isLent  (x1 : Int32) (x2 : Int32) (x3 : Int32) (s : lc_St) : Option (Int32 × lc_St) :=
  lc_bd (P_X4_whyNoLend x1 x2 x3 (10 : Int32) s) (fun r6 => if r6 = 0 then P_X4_isLent_17   x1 x2 x3 (1 : Int32) s else P_X4_isLent_17   x1 x2 x3 (0 : Int32) s)
set_option maxRecDepth 100000 in
set_option maxHeartbeats 4000000 in
theorem c_X4_isLent (S : lc_Se) (l : Launch) (M : lc_MM)  (x1 : Int32) (x2 : Int32) (x3 : Int32) (s : lc_St) (out : Int32 × lc_St) (h : P_X4_isLent x1 x2 x3 s = some out) : lc_MI S l yX4_isLent cX4_isLent 5 (some .boolean) rm_X4_isLent [.ref (lc_ad S 197), .int x1, .int x2, .int x3] (va_up M 22 s) out.1 (va_up M 22 out.2) := by
  refine lc_mkI (own := RX4) pn_RX4 rfl (Nat.le_of_ble_eq_true rfl) (lo := [(0, .ref (lc_ad S 197)), (1, .int x1), (2, .int x2), (3, .int x3)]) rfl (fun X hX C => ?_)
  rw [P_X4_isLent] at h
  refine lc_aload_n C (pc' := 1) 0 dX4_isLent_0 rfl rfl ?_
  refine lc_iload_n C (pc' := 2) 1 dX4_isLent_1 rfl rfl ?_
  refine lc_iload_n C (pc' := 3) 2 dX4_isLent_2 rfl rfl ?_
  refine lc_iload_n C (pc' := 4) 3 dX4_isLent_3 rfl rfl ?_
  refine lc_bipush C (pc' := 6) (v := (10 : Int32)) dX4_isLent_4 (by decide) rfl ?_
  obtain ⟨r6, h6, h⟩ := lc_bde h
  refine lc_cvi C (pc' := 9) (r := r6) (M' := (va_up M 22 s)) (As := [.int x1, .int x2, .int x3, .int (10 : Int32)]) (rest := []) (c_X4_whyNoLend S X.2.1 M   x1 x2 x3 (10 : Int32) s r6 h6) kl_RX4_181 (lc_at197 S _) rfl rfl rfl rfl (Nat.le_of_ble_eq_true rfl) ⟨Nat.le_of_ble_eq_true rfl, Nat.le_of_ble_eq_true rfl⟩ ⟨rfl, rfl⟩ (lc_z2 _ _) dX4_isLent_6 rfl ?_
  refine lc_if_ne C (pc' := 12) (tgt := 16) dX4_isLent_9 (by decide) rfl (fun c9 => ?_) (fun c9 => ?_)
  · have h := (lc_if2 h).2 c9
    refine lc_iconst C (pc' := 17) (v := (0 : Int32)) dX4_isLent_16 (by decide) rfl ?_
    exact w_X4_isLent_17 C   out   x1 x2 x3 (0 : Int32) s h
  · have h := (lc_if2 h).1 c9
    refine lc_iconst C (pc' := 13) (v := (1 : Int32)) dX4_isLent_12 (by decide) rfl ?_
    refine lc_goto C (tgt := 17) dX4_isLent_13 (by decide) ?_
    exact w_X4_isLent_17 C   out   x1 x2 x3 (1 : Int32) s h
abbrev rm_X4_isRepaid : Room := { frames := 3, cells := 0, slots := 0, locals := 70 }
def P_X4_isRepaid_14  (x1 : Int32) (x2 : Int32) (t0 : Int32) (s : lc_St) : Option (Int32 × lc_St) :=
  if t0 = 0 then lc_if (t0 = 0 ∨ t0 = 1) (some (t0, s)) else lc_bd2 (P_X4_repays x1 x2 s) (fun r22 s1 => lc_if (t0 = 0 ∨ t0 = 1) (some (t0, s1)))
set_option maxRecDepth 100000 in
set_option maxHeartbeats 4000000 in
theorem w_X4_isRepaid_14 {S : lc_Se} {X : lc_X} (C : lc_C X cX4_isRepaid RX4 4 (some .boolean) rm_X4_isRepaid) {M : lc_MM}  (out : Int32 × lc_St)  : ∀ (x1 : Int32) (x2 : Int32) (t0 : Int32) (s : lc_St), P_X4_isRepaid_14  x1 x2 t0 s = some out → lc_J S X 4 0 0 (lc_QI S X 0 0 out.1 (va_up M 22 out.2)) 14 [(0, .ref (lc_ad S 197)), (1, .int x1), (2, .int x2)] [.int t0] (va_up M 22 s) := by
  intro x1 x2 t0 s h
  rw [P_X4_isRepaid_14] at h
  refine lc_istore_n C (pc' := 15) (lo' := [(3, .int t0), (0, .ref (lc_ad S 197)), (1, .int x1), (2, .int x2)]) dX4_isRepaid_14 (Nat.le_of_ble_eq_true rfl) rfl rfl ?_
  refine lc_iload_n C (pc' := 16) 0 dX4_isRepaid_15 rfl rfl ?_
  refine lc_if_eq C (pc' := 19) (tgt := 26) dX4_isRepaid_16 (by decide) rfl (fun c16 => ?_) (fun c16 => ?_)
  · have h := (lc_if2 h).1 c16
    refine lc_iload_n C (pc' := 27) 0 dX4_isRepaid_26 rfl rfl ?_
    obtain ⟨hb27, h⟩ := lc_ife h
    obtain rfl := Option.some.inj h
    exact lc_zret C rfl hb27 dX4_isRepaid_27
  · have h := (lc_if2 h).2 c16
    refine lc_aload_n C (pc' := 20) 1 dX4_isRepaid_19 rfl rfl ?_
    refine lc_iload_n C (pc' := 21) 2 dX4_isRepaid_20 rfl rfl ?_
    refine lc_iload_n C (pc' := 22) 3 dX4_isRepaid_21 rfl rfl ?_
    obtain ⟨r22, s1, h22, h⟩ := lc_bd2e h
    refine lc_cvi C (pc' := 25) (r := r22) (M' := (va_up M 22 s1)) (As := [.int x1, .int x2]) (rest := []) (c_X4_repays S X.2.1 M   x1 x2 s (r22, s1) h22) kl_RX4_187 (lc_at197 S _) rfl rfl rfl rfl (Nat.le_of_ble_eq_true rfl) ⟨Nat.le_of_ble_eq_true rfl, Nat.le_of_ble_eq_true rfl⟩ ⟨rfl, rfl⟩ (lc_z2 _ _) dX4_isRepaid_22 rfl ?_
    refine lc_pop C (pc' := 26) dX4_isRepaid_25 rfl rfl ?_
    refine lc_iload_n C (pc' := 27) 0 dX4_isRepaid_26 rfl rfl ?_
    obtain ⟨hb27, h⟩ := lc_ife h
    obtain rfl := Option.some.inj h
    exact lc_zret C rfl hb27 dX4_isRepaid_27
def P_X4_isRepaid  (x1 : Int32) (x2 : Int32) (s : lc_St) : Option (Int32 × lc_St) :=
  lc_bd (P_X4_whyNoRepay x1 x2 s) (fun r3 => if r3 = 0 then P_X4_isRepaid_14   x1 x2 (1 : Int32) s else P_X4_isRepaid_14   x1 x2 (0 : Int32) s)
set_option maxRecDepth 100000 in
set_option maxHeartbeats 4000000 in
theorem c_X4_isRepaid (S : lc_Se) (l : Launch) (M : lc_MM)  (x1 : Int32) (x2 : Int32) (s : lc_St) (out : Int32 × lc_St) (h : P_X4_isRepaid x1 x2 s = some out) : lc_MI S l yX4_isRepaid cX4_isRepaid 4 (some .boolean) rm_X4_isRepaid [.ref (lc_ad S 197), .int x1, .int x2] (va_up M 22 s) out.1 (va_up M 22 out.2) := by
  refine lc_mkI (own := RX4) pn_RX4 rfl (Nat.le_of_ble_eq_true rfl) (lo := [(0, .ref (lc_ad S 197)), (1, .int x1), (2, .int x2)]) rfl (fun X hX C => ?_)
  rw [P_X4_isRepaid] at h
  refine lc_aload_n C (pc' := 1) 0 dX4_isRepaid_0 rfl rfl ?_
  refine lc_iload_n C (pc' := 2) 1 dX4_isRepaid_1 rfl rfl ?_
  refine lc_iload_n C (pc' := 3) 2 dX4_isRepaid_2 rfl rfl ?_
  obtain ⟨r3, h3, h⟩ := lc_bde h
  refine lc_cvi C (pc' := 6) (r := r3) (M' := (va_up M 22 s)) (As := [.int x1, .int x2]) (rest := []) (c_X4_whyNoRepay S X.2.1 M   x1 x2 s r3 h3) kl_RX4_184 (lc_at197 S _) rfl rfl rfl rfl (Nat.le_of_ble_eq_true rfl) ⟨Nat.le_of_ble_eq_true rfl, Nat.le_of_ble_eq_true rfl⟩ ⟨rfl, rfl⟩ (lc_z2 _ _) dX4_isRepaid_3 rfl ?_
  refine lc_if_ne C (pc' := 9) (tgt := 13) dX4_isRepaid_6 (by decide) rfl (fun c6 => ?_) (fun c6 => ?_)
  · have h := (lc_if2 h).2 c6
    refine lc_iconst C (pc' := 14) (v := (0 : Int32)) dX4_isRepaid_13 (by decide) rfl ?_
    exact w_X4_isRepaid_14 C   out   x1 x2 (0 : Int32) s h
  · have h := (lc_if2 h).1 c6
    refine lc_iconst C (pc' := 10) (v := (1 : Int32)) dX4_isRepaid_9 (by decide) rfl ?_
    refine lc_goto C (tgt := 14) dX4_isRepaid_10 (by decide) ?_
    exact w_X4_isRepaid_14 C   out   x1 x2 (1 : Int32) s h
abbrev rm_X4_isCharged : Room := { frames := 3, cells := 0, slots := 0, locals := 67 }
def P_X4_isCharged_10  (x1 : Int32) (s : lc_St) : Option (Int32 × lc_St) :=
  if x1 ≤ 0 then some ((0 : Int32), s) else some ((1 : Int32), s)
set_option maxRecDepth 100000 in
set_option maxHeartbeats 4000000 in
theorem w_X4_isCharged_10 {S : lc_Se} {X : lc_X} (C : lc_C X cX4_isCharged RX4 2 (some .boolean) rm_X4_isCharged) {M : lc_MM}  (out : Int32 × lc_St)  : ∀ (x1 : Int32) (s : lc_St), P_X4_isCharged_10  x1 s = some out → lc_J S X 2 0 0 (lc_QI S X 0 0 out.1 (va_up M 22 out.2)) 10 [(1, .int x1)] [] (va_up M 22 s) := by
  intro x1 s h
  rw [P_X4_isCharged_10] at h
  refine lc_iload_n C (pc' := 11) 0 dX4_isCharged_10 rfl rfl ?_
  refine lc_if_le C (pc' := 14) (tgt := 18) dX4_isCharged_11 (by decide) rfl (fun c11 => ?_) (fun c11 => ?_)
  · have h := (lc_if2 h).1 c11
    refine lc_iconst C (pc' := 19) (v := (0 : Int32)) dX4_isCharged_18 (by decide) rfl ?_
    obtain rfl := Option.some.inj h
    exact lc_zret C rfl (Or.inl rfl) dX4_isCharged_19
  · have h := (lc_if2 h).2 c11
    refine lc_iconst C (pc' := 15) (v := (1 : Int32)) dX4_isCharged_14 (by decide) rfl ?_
    refine lc_goto C (tgt := 19) dX4_isCharged_15 (by decide) ?_
    obtain rfl := Option.some.inj h
    exact lc_zret C rfl (Or.inr rfl) dX4_isCharged_19
def P_X4_isCharged  (x1 : Int32) (s : lc_St) : Option (Int32 × lc_St) :=
  if x1 ≤ 0 then P_X4_isCharged_10   x1 s else lc_bd2 (P_X4_charges x1 s) (fun r6 s1 => P_X4_isCharged_10   x1 s1)
set_option maxRecDepth 100000 in
set_option maxHeartbeats 4000000 in
theorem c_X4_isCharged (S : lc_Se) (l : Launch) (M : lc_MM)  (x1 : Int32) (s : lc_St) (out : Int32 × lc_St) (h : P_X4_isCharged x1 s = some out) : lc_MI S l yX4_isCharged cX4_isCharged 2 (some .boolean) rm_X4_isCharged [.ref (lc_ad S 197), .int x1] (va_up M 22 s) out.1 (va_up M 22 out.2) := by
  refine lc_mkI (own := RX4) pn_RX4 rfl (Nat.le_of_ble_eq_true rfl) (lo := [(0, .ref (lc_ad S 197)), (1, .int x1)]) rfl (fun X hX C => ?_)
  rw [P_X4_isCharged] at h
  refine lc_iload_n C (pc' := 1) 1 dX4_isCharged_0 rfl rfl ?_
  refine lc_if_le C (pc' := 4) (tgt := 10) dX4_isCharged_1 (by decide) rfl (fun c1 => ?_) (fun c1 => ?_)
  · have h := (lc_if2 h).1 c1
    refine lc_sub (lo' := [(1, .int x1)]) [1] rfl ?_
    exact w_X4_isCharged_10 C   out   x1 s h
  · have h := (lc_if2 h).2 c1
    refine lc_aload_n C (pc' := 5) 0 dX4_isCharged_4 rfl rfl ?_
    refine lc_iload_n C (pc' := 6) 1 dX4_isCharged_5 rfl rfl ?_
    obtain ⟨r6, s1, h6, h⟩ := lc_bd2e h
    refine lc_cvi C (pc' := 9) (r := r6) (M' := (va_up M 22 s1)) (As := [.int x1]) (rest := []) (c_X4_charges S X.2.1 M   x1 s (r6, s1) h6) kl_RX4_190 (lc_at197 S _) rfl rfl rfl rfl (Nat.le_of_ble_eq_true rfl) ⟨Nat.le_of_ble_eq_true rfl, Nat.le_of_ble_eq_true rfl⟩ ⟨rfl, rfl⟩ (lc_z2 _ _) dX4_isCharged_6 rfl ?_
    refine lc_pop C (pc' := 10) dX4_isCharged_9 rfl rfl ?_
    refine lc_sub (lo' := [(1, .int x1)]) [1] rfl ?_
    exact w_X4_isCharged_10 C   out   x1 s1 h
abbrev rm_X4_isPassed : Room := { frames := 5, cells := 0, slots := 0, locals := 119 }
def P_X4_isPassed_18  (x2 : Int32) (t1 : Int32) (s : lc_St) : Option (Int32 × lc_St) :=
  lc_bd2 (P_X4_rounds t1 s) (fun r18 s1 => lc_if (x2 = 0 ∨ x2 = 1) (some (x2, s1)))
set_option maxRecDepth 100000 in
set_option maxHeartbeats 4000000 in
theorem w_X4_isPassed_18 {S : lc_Se} {X : lc_X} (C : lc_C X cX4_isPassed RX4 3 (some .boolean) rm_X4_isPassed) {M : lc_MM}  (out : Int32 × lc_St)  : ∀ (x2 : Int32) (t1 : Int32) (s : lc_St), P_X4_isPassed_18  x2 t1 s = some out → lc_J S X 3 0 0 (lc_QI S X 0 0 out.1 (va_up M 22 out.2)) 18 [(2, .int x2)] [.int t1, .ref (lc_ad S 197)] (va_up M 22 s) := by
  intro x2 t1 s h
  rw [P_X4_isPassed_18] at h
  obtain ⟨r18, s1, h18, h⟩ := lc_bd2e h
  refine lc_cvi C (pc' := 21) (r := r18) (M' := (va_up M 22 s1)) (As := [.int t1]) (rest := []) (c_X4_rounds S X.2.1 M   t1 s (r18, s1) h18) kl_RX4_196 (lc_at197 S _) rfl rfl rfl rfl (Nat.le_of_ble_eq_true rfl) ⟨Nat.le_of_ble_eq_true rfl, Nat.le_of_ble_eq_true rfl⟩ ⟨rfl, rfl⟩ (lc_z2 _ _) dX4_isPassed_18 rfl ?_
  refine lc_pop C (pc' := 22) dX4_isPassed_21 rfl rfl ?_
  refine lc_iload_n C (pc' := 23) 0 dX4_isPassed_22 rfl rfl ?_
  obtain ⟨hb23, h⟩ := lc_ife h
  obtain rfl := Option.some.inj h
  exact lc_zret C rfl hb23 dX4_isPassed_23
def P_X4_isPassed  (x1 : Int32) (s : lc_St) : Option (Int32 × lc_St) :=
  lc_bd (P_X4_in x1 (1 : Int32) (50 : Int32)) (fun r4 => if r4 = 0 then P_X4_isPassed_18   r4 (0 : Int32) s else P_X4_isPassed_18   r4 x1 s)
set_option maxRecDepth 100000 in
set_option maxHeartbeats 4000000 in
theorem c_X4_isPassed (S : lc_Se) (l : Launch) (M : lc_MM)  (x1 : Int32) (s : lc_St) (out : Int32 × lc_St) (h : P_X4_isPassed x1 s = some out) : lc_MI S l yX4_isPassed cX4_isPassed 3 (some .boolean) rm_X4_isPassed [.ref (lc_ad S 197), .int x1] (va_up M 22 s) out.1 (va_up M 22 out.2) := by
  refine lc_mkI (own := RX4) pn_RX4 rfl (Nat.le_of_ble_eq_true rfl) (lo := [(0, .ref (lc_ad S 197)), (1, .int x1)]) rfl (fun X hX C => ?_)
  rw [P_X4_isPassed] at h
  refine lc_iload_n C (pc' := 1) 1 dX4_isPassed_0 rfl rfl ?_
  refine lc_iconst C (pc' := 2) (v := (1 : Int32)) dX4_isPassed_1 (by decide) rfl ?_
  refine lc_bipush C (pc' := 4) (v := (50 : Int32)) dX4_isPassed_2 (by decide) rfl ?_
  obtain ⟨r4, h4, h⟩ := lc_bde h
  refine lc_csi C (pc' := 7) (r := r4) (M' := (va_up M 22 s)) (As := [.int x1, .int (1 : Int32), .int (50 : Int32)]) (rest := []) (c_X4_in S X.2.1 (va_up M 22 s)   x1 (1 : Int32) (50 : Int32)  r4 h4) kl_RX4_39 rfl rfl (Nat.le_of_ble_eq_true rfl) ⟨Nat.le_of_ble_eq_true rfl, Nat.le_of_ble_eq_true rfl⟩ ⟨rfl, rfl⟩ (lc_z2 _ _) dX4_isPassed_4 rfl ?_
  refine lc_istore_n C (pc' := 8) (lo' := [(2, .int r4), (0, .ref (lc_ad S 197)), (1, .int x1)]) dX4_isPassed_7 (Nat.le_of_ble_eq_true rfl) rfl rfl ?_
  refine lc_aload_n C (pc' := 9) 1 dX4_isPassed_8 rfl rfl ?_
  refine lc_iload_n C (pc' := 10) 0 dX4_isPassed_9 rfl rfl ?_
  refine lc_if_eq C (pc' := 13) (tgt := 17) dX4_isPassed_10 (by decide) rfl (fun c10 => ?_) (fun c10 => ?_)
  · have h := (lc_if2 h).1 c10
    refine lc_iconst C (pc' := 18) (v := (0 : Int32)) dX4_isPassed_17 (by decide) rfl ?_
    refine lc_sub (lo' := [(2, .int r4)]) [0] rfl ?_
    exact w_X4_isPassed_18 C   out   r4 (0 : Int32) s h
  · have h := (lc_if2 h).2 c10
    refine lc_iload_n C (pc' := 14) 2 dX4_isPassed_13 rfl rfl ?_
    refine lc_goto C (tgt := 18) dX4_isPassed_14 (by decide) ?_
    refine lc_sub (lo' := [(2, .int r4)]) [0] rfl ?_
    exact w_X4_isPassed_18 C   out   r4 x1 s h
abbrev rm_X4_bits : Room := { frames := 0, cells := 0, slots := 0, locals := 0 }
def P_X4_bits_4  : Nat → Int32 → Int32 → Int32 → Option (Int32)
  | 0, _, _, _ => none
  | n + 1, x0, x1, x2 =>
    if (8 : Int32) ≤ x2 then some x1 else lc_let (x1 + ((x0 >>> (x2 &&& 31)) &&& (1 : Int32))) (fun x1_17 => lc_let (x2 + (1 : Int32)) (fun x2_18 => P_X4_bits_4  n x0 x1_17 x2_18))
set_option maxRecDepth 100000 in
set_option maxHeartbeats 4000000 in
theorem w_X4_bits_4 {S : lc_Se} {X : lc_X} (C : lc_C X cX4_bits RX4 3 (some .int) rm_X4_bits) {M : lc_MM}  (out : Int32)  : ∀ (n : Nat) (x0 : Int32) (x1 : Int32) (x2 : Int32), P_X4_bits_4  n x0 x1 x2 = some out → lc_J S X 3 0 0 (lc_QI S X 0 0 out M) 4 [(0, .int x0), (1, .int x1), (2, .int x2)] [] M := by
  intro n
  induction n with
  | zero =>
    intro x0 x1 x2 h
    rw [P_X4_bits_4] at h
    cases h
  | succ n ih =>
    intro x0 x1 x2 h
    rw [P_X4_bits_4] at h
    refine lc_iload_n C (pc' := 5) 2 dX4_bits_4 rfl rfl ?_
    refine lc_bipush C (pc' := 7) (v := (8 : Int32)) dX4_bits_5 (by decide) rfl ?_
    refine lc_icmp_ge C (pc' := 10) (tgt := 24) dX4_bits_7 (by decide) rfl (fun c7 => ?_) (fun c7 => ?_)
    · have h := (lc_if2 h).1 c7
      refine lc_iload_n C (pc' := 25) 1 dX4_bits_24 rfl rfl ?_
      obtain rfl := Option.some.inj h
      exact lc_iret C rfl dX4_bits_25
    · have h := (lc_if2 h).2 c7
      refine lc_iload_n C (pc' := 11) 1 dX4_bits_10 rfl rfl ?_
      refine lc_iload_n C (pc' := 12) 0 dX4_bits_11 rfl rfl ?_
      refine lc_iload_n C (pc' := 13) 2 dX4_bits_12 rfl rfl ?_
      refine lc_ishr C (pc' := 14) dX4_bits_13 rfl ?_
      refine lc_iconst C (pc' := 15) (v := (1 : Int32)) dX4_bits_14 (by decide) rfl ?_
      refine lc_iand C (pc' := 16) dX4_bits_15 rfl ?_
      refine lc_iadd C (pc' := 17) dX4_bits_16 rfl ?_
      obtain ⟨x1_17, e1_17, h⟩ := lc_let2 h
      rw [e1_17]
      refine lc_istore_n C (pc' := 18) (lo' := [(1, .int x1_17), (0, .int x0), (2, .int x2)]) dX4_bits_17 (Nat.le_of_ble_eq_true rfl) rfl rfl ?_
      obtain ⟨x2_18, e2_18, h⟩ := lc_let2 h
      refine lc_iinc C (pc' := 21) (lo' := [(2, .int x2_18), (1, .int x1_17), (0, .int x0)]) (q := 2) dX4_bits_18 rfl (by rw [← e2_18]; rfl) (Nat.le_of_ble_eq_true rfl) rfl rfl ?_
      refine lc_goto C (tgt := 4) dX4_bits_21 (by decide) ?_
      refine lc_sub (lo' := [(0, .int x0), (1, .int x1_17), (2, .int x2_18)]) [2, 1, 0] rfl ?_
      exact ih x0 x1_17 x2_18 h
def P_X4_bits  (x0 : Int32)  : Option (Int32) :=
  P_X4_bits_4  lc_FU x0 (0 : Int32) (0 : Int32)
set_option maxRecDepth 100000 in
set_option maxHeartbeats 4000000 in
theorem c_X4_bits (S : lc_Se) (l : Launch) (M : lc_MM)  (x0 : Int32)  (out : Int32) (h : P_X4_bits x0  = some out) : lc_MI S l yX4_bits cX4_bits 3 (some .int) rm_X4_bits [.int x0] M out M := by
  refine lc_mkI (own := RX4) pn_RX4 rfl (Nat.le_of_ble_eq_true rfl) (lo := [(0, .int x0)]) rfl (fun X hX C => ?_)
  rw [P_X4_bits] at h
  refine lc_iconst C (pc' := 1) (v := (0 : Int32)) dX4_bits_0 (by decide) rfl ?_
  refine lc_istore_n C (pc' := 2) (lo' := [(1, .int (0 : Int32)), (0, .int x0)]) dX4_bits_1 (Nat.le_of_ble_eq_true rfl) rfl rfl ?_
  refine lc_iconst C (pc' := 3) (v := (0 : Int32)) dX4_bits_2 (by decide) rfl ?_
  refine lc_istore_n C (pc' := 4) (lo' := [(2, .int (0 : Int32)), (1, .int (0 : Int32)), (0, .int x0)]) dX4_bits_3 (Nat.le_of_ble_eq_true rfl) rfl rfl ?_
  refine lc_sub (lo' := [(0, .int x0), (1, .int (0 : Int32)), (2, .int (0 : Int32))]) [2, 1, 0] rfl ?_
  exact w_X4_bits_4 C   out  lc_FU x0 (0 : Int32) (0 : Int32) h
abbrev rm_X4_succeeds : Room := { frames := 6, cells := 0, slots := 0, locals := 142 }
def P_X4_succeeds  (x1 : Int32) (s : lc_St) : Option (Int32 × lc_St) :=
  lc_let (x1 / (1000 : Int32)) (fun y7 => lc_let (y7 - y7 / (10 : Int32) * (10 : Int32)) (fun x2_8 => lc_let (x1 / (100 : Int32)) (fun y15 => lc_let (y15 - y15 / (10 : Int32) * (10 : Int32)) (fun x3_16 => lc_let (x1 - x1 / (100 : Int32) * (100 : Int32)) (fun x4_21 => lc_let (x1 / (10000 : Int32)) (fun y28 => if y28 = (1 : Int32) then lc_bd2 (P_X4_isLent x2_8 x3_16 x4_21 s) (fun r85 s1 => lc_if (r85 = 0 ∨ r85 = 1) (some (r85, s1))) else if y28 = (2 : Int32) then lc_bd2 (P_X4_isRepaid (((10 : Int32) * x2_8) + x3_16) x4_21 s) (fun r98 s2 => lc_if (r98 = 0 ∨ r98 = 1) (some (r98, s2))) else if y28 = (3 : Int32) then if (x2_8 + x3_16) = 0 then lc_bd2 (P_X4_isCharged x4_21 s) (fun r111 s3 => if r111 = 0 then some ((0 : Int32), s3) else some ((1 : Int32), s3)) else some ((0 : Int32), s) else if y28 = (4 : Int32) then if (x2_8 + x3_16) = 0 then if x4_21 ≤ 0 then some ((0 : Int32), s) else lc_bd2 (P_X4_drawn x4_21 s) (fun r137 s4 => if r137 ≤ 0 then some ((0 : Int32), s4) else some ((1 : Int32), s4)) else some ((0 : Int32), s) else if y28 = (5 : Int32) then if (x2_8 + x3_16) = 0 then lc_bd2 (P_X4_isPassed x4_21 s) (fun r158 s5 => if r158 = 0 then some ((0 : Int32), s5) else some ((1 : Int32), s5)) else some ((0 : Int32), s) else if y28 = (6 : Int32) then if x3_16 = 0 then lc_bd (P_X4_isCell x2_8 s) (fun r176 => if r176 = 0 then some ((0 : Int32), s) else lc_bd (P_X4_of x2_8 (1 : Int32) s) (fun r185 => if r185 < x4_21 then some ((0 : Int32), s) else some ((1 : Int32), s))) else some ((0 : Int32), s) else if y28 = (7 : Int32) then if x3_16 = 0 then if (10 : Int32) ≤ x4_21 then some ((0 : Int32), s) else lc_bd (P_X4_isCell x2_8 s) (fun r212 => if r212 = 0 then some ((0 : Int32), s) else lc_bd (P_X4_kindOf x2_8 s) (fun r220 => if r220 = x4_21 then some ((1 : Int32), s) else some ((0 : Int32), s))) else some ((0 : Int32), s) else if y28 = (8 : Int32) then if x2_8 = 0 then lc_bd (P_X4_allOwed  s) (fun r239 => if (x1 - x1 / (1000 : Int32) * (1000 : Int32)) < r239 then some ((0 : Int32), s) else some ((1 : Int32), s)) else some ((0 : Int32), s) else if y28 = (9 : Int32) then if (x2_8 + x3_16) = 0 then if (10 : Int32) ≤ x4_21 then some ((0 : Int32), s) else lc_bd (P_X4_bankrupts  s) (fun r270 => lc_bd (P_X4_bits r270) (fun r273 => if x4_21 < r273 then some ((0 : Int32), s) else some ((1 : Int32), s))) else some ((0 : Int32), s) else some ((0 : Int32), s)))))))
set_option maxRecDepth 100000 in
set_option maxHeartbeats 4000000 in
theorem c_X4_succeeds (S : lc_Se) (l : Launch) (M : lc_MM)  (x1 : Int32) (s : lc_St) (out : Int32 × lc_St) (h : P_X4_succeeds x1 s = some out) : lc_MI S l yX4_succeeds cX4_succeeds 5 (some .boolean) rm_X4_succeeds [.ref (lc_ad S 197), .int x1] (va_up M 22 s) out.1 (va_up M 22 out.2) := by
  refine lc_mkI (own := RX4) pn_RX4 rfl (Nat.le_of_ble_eq_true rfl) (lo := [(0, .ref (lc_ad S 197)), (1, .int x1)]) rfl (fun X hX C => ?_)
  rw [P_X4_succeeds] at h
  refine lc_iload_n C (pc' := 1) 1 dX4_succeeds_0 rfl rfl ?_
  refine lc_sipush C (pc' := 4) (v := (1000 : Int32)) dX4_succeeds_1 (by decide) rfl ?_
  refine lc_idiv C (pc' := 5) dX4_succeeds_4 (by decide) rfl ?_
  refine lc_bipush C (pc' := 7) (v := (10 : Int32)) dX4_succeeds_5 (by decide) rfl ?_
  obtain ⟨y7, ey7, h⟩ := lc_let2 h
  rw [ey7]
  refine lc_irem C (pc' := 8) dX4_succeeds_7 (by decide) rfl ?_
  obtain ⟨x2_8, e2_8, h⟩ := lc_let2 h
  rw [e2_8]
  refine lc_istore_n C (pc' := 9) (lo' := [(2, .int x2_8), (0, .ref (lc_ad S 197)), (1, .int x1)]) dX4_succeeds_8 (Nat.le_of_ble_eq_true rfl) rfl rfl ?_
  refine lc_iload_n C (pc' := 10) 2 dX4_succeeds_9 rfl rfl ?_
  refine lc_bipush C (pc' := 12) (v := (100 : Int32)) dX4_succeeds_10 (by decide) rfl ?_
  refine lc_idiv C (pc' := 13) dX4_succeeds_12 (by decide) rfl ?_
  refine lc_bipush C (pc' := 15) (v := (10 : Int32)) dX4_succeeds_13 (by decide) rfl ?_
  obtain ⟨y15, ey15, h⟩ := lc_let2 h
  rw [ey15]
  refine lc_irem C (pc' := 16) dX4_succeeds_15 (by decide) rfl ?_
  obtain ⟨x3_16, e3_16, h⟩ := lc_let2 h
  rw [e3_16]
  refine lc_istore_n C (pc' := 17) (lo' := [(3, .int x3_16), (2, .int x2_8), (0, .ref (lc_ad S 197)), (1, .int x1)]) dX4_succeeds_16 (Nat.le_of_ble_eq_true rfl) rfl rfl ?_
  refine lc_iload_n C (pc' := 18) 3 dX4_succeeds_17 rfl rfl ?_
  refine lc_bipush C (pc' := 20) (v := (100 : Int32)) dX4_succeeds_18 (by decide) rfl ?_
  refine lc_irem C (pc' := 21) dX4_succeeds_20 (by decide) rfl ?_
  obtain ⟨x4_21, e4_21, h⟩ := lc_let2 h
  rw [e4_21]
  refine lc_istore C (pc' := 23) (lo' := [(4, .int x4_21), (3, .int x3_16), (2, .int x2_8), (0, .ref (lc_ad S 197)), (1, .int x1)]) dX4_succeeds_21 (Nat.le_of_ble_eq_true rfl) rfl rfl ?_
  refine lc_iload_n C (pc' := 24) 4 dX4_succeeds_23 rfl rfl ?_
  refine lc_sipush C (pc' := 27) (v := (10000 : Int32)) dX4_succeeds_24 (by decide) rfl ?_
  refine lc_idiv C (pc' := 28) dX4_succeeds_27 (by decide) rfl ?_
  obtain ⟨y28, ey28, h⟩ := lc_let2 h
  rw [ey28]
  by_cases q28_1 : y28 = (1 : Int32)
  · have h := (lc_if2 h).1 q28_1
    refine lc_tabIn C (tgt := 80) dX4_succeeds_28 (1 : Int) (by rw [q28_1]; decide) (by decide) (by decide) rfl (by decide) ?_
    refine lc_aload_n C (pc' := 81) 3 dX4_succeeds_80 rfl rfl ?_
    refine lc_iload_n C (pc' := 82) 2 dX4_succeeds_81 rfl rfl ?_
    refine lc_iload_n C (pc' := 83) 1 dX4_succeeds_82 rfl rfl ?_
    refine lc_iload C (pc' := 85) 0 dX4_succeeds_83 rfl rfl ?_
    obtain ⟨r85, s1, h85, h⟩ := lc_bd2e h
    refine lc_cvi C (pc' := 88) (r := r85) (M' := (va_up M 22 s1)) (As := [.int x2_8, .int x3_16, .int x4_21]) (rest := []) (c_X4_isLent S X.2.1 M   x2_8 x3_16 x4_21 s (r85, s1) h85) kl_RX4_199 (lc_at197 S _) rfl rfl rfl rfl (Nat.le_of_ble_eq_true rfl) ⟨Nat.le_of_ble_eq_true rfl, Nat.le_of_ble_eq_true rfl⟩ ⟨rfl, rfl⟩ (lc_z2 _ _) dX4_succeeds_85 rfl ?_
    obtain ⟨hb88, h⟩ := lc_ife h
    obtain rfl := Option.some.inj h
    exact lc_zret C rfl hb88 dX4_succeeds_88
  have h := (lc_if2 h).2 q28_1
  by_cases q28_2 : y28 = (2 : Int32)
  · have h := (lc_if2 h).1 q28_2
    refine lc_tabIn C (tgt := 89) dX4_succeeds_28 (2 : Int) (by rw [q28_2]; decide) (by decide) (by decide) rfl (by decide) ?_
    refine lc_aload_n C (pc' := 90) 3 dX4_succeeds_89 rfl rfl ?_
    refine lc_bipush C (pc' := 92) (v := (10 : Int32)) dX4_succeeds_90 (by decide) rfl ?_
    refine lc_iload_n C (pc' := 93) 2 dX4_succeeds_92 rfl rfl ?_
    refine lc_imul C (pc' := 94) dX4_succeeds_93 rfl ?_
    refine lc_iload_n C (pc' := 95) 1 dX4_succeeds_94 rfl rfl ?_
    refine lc_iadd C (pc' := 96) dX4_succeeds_95 rfl ?_
    refine lc_iload C (pc' := 98) 0 dX4_succeeds_96 rfl rfl ?_
    obtain ⟨r98, s2, h98, h⟩ := lc_bd2e h
    refine lc_cvi C (pc' := 101) (r := r98) (M' := (va_up M 22 s2)) (As := [.int (((10 : Int32) * x2_8) + x3_16), .int x4_21]) (rest := []) (c_X4_isRepaid S X.2.1 M   (((10 : Int32) * x2_8) + x3_16) x4_21 s (r98, s2) h98) kl_RX4_202 (lc_at197 S _) rfl rfl rfl rfl (Nat.le_of_ble_eq_true rfl) ⟨Nat.le_of_ble_eq_true rfl, Nat.le_of_ble_eq_true rfl⟩ ⟨rfl, rfl⟩ (lc_z2 _ _) dX4_succeeds_98 rfl ?_
    obtain ⟨hb101, h⟩ := lc_ife h
    obtain rfl := Option.some.inj h
    exact lc_zret C rfl hb101 dX4_succeeds_101
  have h := (lc_if2 h).2 q28_2
  by_cases q28_3 : y28 = (3 : Int32)
  · have h := (lc_if2 h).1 q28_3
    refine lc_tabIn C (tgt := 102) dX4_succeeds_28 (3 : Int) (by rw [q28_3]; decide) (by decide) (by decide) rfl (by decide) ?_
    refine lc_iload_n C (pc' := 103) 2 dX4_succeeds_102 rfl rfl ?_
    refine lc_iload_n C (pc' := 104) 1 dX4_succeeds_103 rfl rfl ?_
    refine lc_iadd C (pc' := 105) dX4_succeeds_104 rfl ?_
    refine lc_if_ne C (pc' := 108) (tgt := 121) dX4_succeeds_105 (by decide) rfl (fun c105 => ?_) (fun c105 => ?_)
    · have h := (lc_if2 h).2 c105
      refine lc_iconst C (pc' := 122) (v := (0 : Int32)) dX4_succeeds_121 (by decide) rfl ?_
      obtain rfl := Option.some.inj h
      exact lc_zret C rfl (Or.inl rfl) dX4_succeeds_122
    · have h := (lc_if2 h).1 c105
      refine lc_aload_n C (pc' := 109) 3 dX4_succeeds_108 rfl rfl ?_
      refine lc_iload C (pc' := 111) 0 dX4_succeeds_109 rfl rfl ?_
      obtain ⟨r111, s3, h111, h⟩ := lc_bd2e h
      refine lc_cvi C (pc' := 114) (r := r111) (M' := (va_up M 22 s3)) (As := [.int x4_21]) (rest := []) (c_X4_isCharged S X.2.1 M   x4_21 s (r111, s3) h111) kl_RX4_205 (lc_at197 S _) rfl rfl rfl rfl (Nat.le_of_ble_eq_true rfl) ⟨Nat.le_of_ble_eq_true rfl, Nat.le_of_ble_eq_true rfl⟩ ⟨rfl, rfl⟩ (lc_z2 _ _) dX4_succeeds_111 rfl ?_
      refine lc_if_eq C (pc' := 117) (tgt := 121) dX4_succeeds_114 (by decide) rfl (fun c114 => ?_) (fun c114 => ?_)
      · have h := (lc_if2 h).1 c114
        refine lc_iconst C (pc' := 122) (v := (0 : Int32)) dX4_succeeds_121 (by decide) rfl ?_
        obtain rfl := Option.some.inj h
        exact lc_zret C rfl (Or.inl rfl) dX4_succeeds_122
      · have h := (lc_if2 h).2 c114
        refine lc_iconst C (pc' := 118) (v := (1 : Int32)) dX4_succeeds_117 (by decide) rfl ?_
        refine lc_goto C (tgt := 122) dX4_succeeds_118 (by decide) ?_
        obtain rfl := Option.some.inj h
        exact lc_zret C rfl (Or.inr rfl) dX4_succeeds_122
  have h := (lc_if2 h).2 q28_3
  by_cases q28_4 : y28 = (4 : Int32)
  · have h := (lc_if2 h).1 q28_4
    refine lc_tabIn C (tgt := 123) dX4_succeeds_28 (4 : Int) (by rw [q28_4]; decide) (by decide) (by decide) rfl (by decide) ?_
    refine lc_iload_n C (pc' := 124) 2 dX4_succeeds_123 rfl rfl ?_
    refine lc_iload_n C (pc' := 125) 1 dX4_succeeds_124 rfl rfl ?_
    refine lc_iadd C (pc' := 126) dX4_succeeds_125 rfl ?_
    refine lc_if_ne C (pc' := 129) (tgt := 147) dX4_succeeds_126 (by decide) rfl (fun c126 => ?_) (fun c126 => ?_)
    · have h := (lc_if2 h).2 c126
      refine lc_iconst C (pc' := 148) (v := (0 : Int32)) dX4_succeeds_147 (by decide) rfl ?_
      obtain rfl := Option.some.inj h
      exact lc_zret C rfl (Or.inl rfl) dX4_succeeds_148
    · have h := (lc_if2 h).1 c126
      refine lc_iload C (pc' := 131) 0 dX4_succeeds_129 rfl rfl ?_
      refine lc_if_le C (pc' := 134) (tgt := 147) dX4_succeeds_131 (by decide) rfl (fun c131 => ?_) (fun c131 => ?_)
      · have h := (lc_if2 h).1 c131
        refine lc_iconst C (pc' := 148) (v := (0 : Int32)) dX4_succeeds_147 (by decide) rfl ?_
        obtain rfl := Option.some.inj h
        exact lc_zret C rfl (Or.inl rfl) dX4_succeeds_148
      · have h := (lc_if2 h).2 c131
        refine lc_aload_n C (pc' := 135) 3 dX4_succeeds_134 rfl rfl ?_
        refine lc_iload C (pc' := 137) 0 dX4_succeeds_135 rfl rfl ?_
        obtain ⟨r137, s4, h137, h⟩ := lc_bd2e h
        refine lc_cvi C (pc' := 140) (r := r137) (M' := (va_up M 22 s4)) (As := [.int x4_21]) (rest := []) (c_X4_drawn S X.2.1 M   x4_21 s (r137, s4) h137) kl_RX4_193 (lc_at197 S _) rfl rfl rfl rfl (Nat.le_of_ble_eq_true rfl) ⟨Nat.le_of_ble_eq_true rfl, Nat.le_of_ble_eq_true rfl⟩ ⟨rfl, rfl⟩ (lc_z2 _ _) dX4_succeeds_137 rfl ?_
        refine lc_if_le C (pc' := 143) (tgt := 147) dX4_succeeds_140 (by decide) rfl (fun c140 => ?_) (fun c140 => ?_)
        · have h := (lc_if2 h).1 c140
          refine lc_iconst C (pc' := 148) (v := (0 : Int32)) dX4_succeeds_147 (by decide) rfl ?_
          obtain rfl := Option.some.inj h
          exact lc_zret C rfl (Or.inl rfl) dX4_succeeds_148
        · have h := (lc_if2 h).2 c140
          refine lc_iconst C (pc' := 144) (v := (1 : Int32)) dX4_succeeds_143 (by decide) rfl ?_
          refine lc_goto C (tgt := 148) dX4_succeeds_144 (by decide) ?_
          obtain rfl := Option.some.inj h
          exact lc_zret C rfl (Or.inr rfl) dX4_succeeds_148
  have h := (lc_if2 h).2 q28_4
  by_cases q28_5 : y28 = (5 : Int32)
  · have h := (lc_if2 h).1 q28_5
    refine lc_tabIn C (tgt := 149) dX4_succeeds_28 (5 : Int) (by rw [q28_5]; decide) (by decide) (by decide) rfl (by decide) ?_
    refine lc_iload_n C (pc' := 150) 2 dX4_succeeds_149 rfl rfl ?_
    refine lc_iload_n C (pc' := 151) 1 dX4_succeeds_150 rfl rfl ?_
    refine lc_iadd C (pc' := 152) dX4_succeeds_151 rfl ?_
    refine lc_if_ne C (pc' := 155) (tgt := 168) dX4_succeeds_152 (by decide) rfl (fun c152 => ?_) (fun c152 => ?_)
    · have h := (lc_if2 h).2 c152
      refine lc_iconst C (pc' := 169) (v := (0 : Int32)) dX4_succeeds_168 (by decide) rfl ?_
      obtain rfl := Option.some.inj h
      exact lc_zret C rfl (Or.inl rfl) dX4_succeeds_169
    · have h := (lc_if2 h).1 c152
      refine lc_aload_n C (pc' := 156) 3 dX4_succeeds_155 rfl rfl ?_
      refine lc_iload C (pc' := 158) 0 dX4_succeeds_156 rfl rfl ?_
      obtain ⟨r158, s5, h158, h⟩ := lc_bd2e h
      refine lc_cvi C (pc' := 161) (r := r158) (M' := (va_up M 22 s5)) (As := [.int x4_21]) (rest := []) (c_X4_isPassed S X.2.1 M   x4_21 s (r158, s5) h158) kl_RX4_208 (lc_at197 S _) rfl rfl rfl rfl (Nat.le_of_ble_eq_true rfl) ⟨Nat.le_of_ble_eq_true rfl, Nat.le_of_ble_eq_true rfl⟩ ⟨rfl, rfl⟩ (lc_z2 _ _) dX4_succeeds_158 rfl ?_
      refine lc_if_eq C (pc' := 164) (tgt := 168) dX4_succeeds_161 (by decide) rfl (fun c161 => ?_) (fun c161 => ?_)
      · have h := (lc_if2 h).1 c161
        refine lc_iconst C (pc' := 169) (v := (0 : Int32)) dX4_succeeds_168 (by decide) rfl ?_
        obtain rfl := Option.some.inj h
        exact lc_zret C rfl (Or.inl rfl) dX4_succeeds_169
      · have h := (lc_if2 h).2 c161
        refine lc_iconst C (pc' := 165) (v := (1 : Int32)) dX4_succeeds_164 (by decide) rfl ?_
        refine lc_goto C (tgt := 169) dX4_succeeds_165 (by decide) ?_
        obtain rfl := Option.some.inj h
        exact lc_zret C rfl (Or.inr rfl) dX4_succeeds_169
  have h := (lc_if2 h).2 q28_5
  by_cases q28_6 : y28 = (6 : Int32)
  · have h := (lc_if2 h).1 q28_6
    refine lc_tabIn C (tgt := 170) dX4_succeeds_28 (6 : Int) (by rw [q28_6]; decide) (by decide) (by decide) rfl (by decide) ?_
    refine lc_iload_n C (pc' := 171) 1 dX4_succeeds_170 rfl rfl ?_
    refine lc_if_ne C (pc' := 174) (tgt := 197) dX4_succeeds_171 (by decide) rfl (fun c171 => ?_) (fun c171 => ?_)
    · have h := (lc_if2 h).2 c171
      refine lc_iconst C (pc' := 198) (v := (0 : Int32)) dX4_succeeds_197 (by decide) rfl ?_
      obtain rfl := Option.some.inj h
      exact lc_zret C rfl (Or.inl rfl) dX4_succeeds_198
    · have h := (lc_if2 h).1 c171
      refine lc_aload_n C (pc' := 175) 3 dX4_succeeds_174 rfl rfl ?_
      refine lc_iload_n C (pc' := 176) 2 dX4_succeeds_175 rfl rfl ?_
      obtain ⟨r176, h176, h⟩ := lc_bde h
      refine lc_cvi C (pc' := 179) (r := r176) (M' := (va_up M 22 s)) (As := [.int x2_8]) (rest := []) (c_X4_isCell S X.2.1 M   x2_8 s r176 h176) kl_RX4_135 (lc_at197 S _) rfl rfl rfl rfl (Nat.le_of_ble_eq_true rfl) ⟨Nat.le_of_ble_eq_true rfl, Nat.le_of_ble_eq_true rfl⟩ ⟨rfl, rfl⟩ (lc_z2 _ _) dX4_succeeds_176 rfl ?_
      refine lc_if_eq C (pc' := 182) (tgt := 197) dX4_succeeds_179 (by decide) rfl (fun c179 => ?_) (fun c179 => ?_)
      · have h := (lc_if2 h).1 c179
        refine lc_iconst C (pc' := 198) (v := (0 : Int32)) dX4_succeeds_197 (by decide) rfl ?_
        obtain rfl := Option.some.inj h
        exact lc_zret C rfl (Or.inl rfl) dX4_succeeds_198
      · have h := (lc_if2 h).2 c179
        refine lc_aload_n C (pc' := 183) 3 dX4_succeeds_182 rfl rfl ?_
        refine lc_iload_n C (pc' := 184) 2 dX4_succeeds_183 rfl rfl ?_
        refine lc_iconst C (pc' := 185) (v := (1 : Int32)) dX4_succeeds_184 (by decide) rfl ?_
        obtain ⟨r185, h185, h⟩ := lc_bde h
        refine lc_cvi C (pc' := 188) (r := r185) (M' := (va_up M 22 s)) (As := [.int x2_8, .int (1 : Int32)]) (rest := []) (c_X4_of S X.2.1 M   x2_8 (1 : Int32) s r185 h185) kl_RX4_43 (lc_at197 S _) rfl rfl rfl rfl (Nat.le_of_ble_eq_true rfl) ⟨Nat.le_of_ble_eq_true rfl, Nat.le_of_ble_eq_true rfl⟩ ⟨rfl, rfl⟩ (lc_z2 _ _) dX4_succeeds_185 rfl ?_
        refine lc_iload C (pc' := 190) 0 dX4_succeeds_188 rfl rfl ?_
        refine lc_icmp_lt C (pc' := 193) (tgt := 197) dX4_succeeds_190 (by decide) rfl (fun c190 => ?_) (fun c190 => ?_)
        · have h := (lc_if2 h).1 c190
          refine lc_iconst C (pc' := 198) (v := (0 : Int32)) dX4_succeeds_197 (by decide) rfl ?_
          obtain rfl := Option.some.inj h
          exact lc_zret C rfl (Or.inl rfl) dX4_succeeds_198
        · have h := (lc_if2 h).2 c190
          refine lc_iconst C (pc' := 194) (v := (1 : Int32)) dX4_succeeds_193 (by decide) rfl ?_
          refine lc_goto C (tgt := 198) dX4_succeeds_194 (by decide) ?_
          obtain rfl := Option.some.inj h
          exact lc_zret C rfl (Or.inr rfl) dX4_succeeds_198
  have h := (lc_if2 h).2 q28_6
  by_cases q28_7 : y28 = (7 : Int32)
  · have h := (lc_if2 h).1 q28_7
    refine lc_tabIn C (tgt := 199) dX4_succeeds_28 (7 : Int) (by rw [q28_7]; decide) (by decide) (by decide) rfl (by decide) ?_
    refine lc_iload_n C (pc' := 200) 1 dX4_succeeds_199 rfl rfl ?_
    refine lc_if_ne C (pc' := 203) (tgt := 232) dX4_succeeds_200 (by decide) rfl (fun c200 => ?_) (fun c200 => ?_)
    · have h := (lc_if2 h).2 c200
      refine lc_iconst C (pc' := 233) (v := (0 : Int32)) dX4_succeeds_232 (by decide) rfl ?_
      obtain rfl := Option.some.inj h
      exact lc_zret C rfl (Or.inl rfl) dX4_succeeds_233
    · have h := (lc_if2 h).1 c200
      refine lc_iload C (pc' := 205) 0 dX4_succeeds_203 rfl rfl ?_
      refine lc_bipush C (pc' := 207) (v := (10 : Int32)) dX4_succeeds_205 (by decide) rfl ?_
      refine lc_icmp_ge C (pc' := 210) (tgt := 232) dX4_succeeds_207 (by decide) rfl (fun c207 => ?_) (fun c207 => ?_)
      · have h := (lc_if2 h).1 c207
        refine lc_iconst C (pc' := 233) (v := (0 : Int32)) dX4_succeeds_232 (by decide) rfl ?_
        obtain rfl := Option.some.inj h
        exact lc_zret C rfl (Or.inl rfl) dX4_succeeds_233
      · have h := (lc_if2 h).2 c207
        refine lc_aload_n C (pc' := 211) 3 dX4_succeeds_210 rfl rfl ?_
        refine lc_iload_n C (pc' := 212) 2 dX4_succeeds_211 rfl rfl ?_
        obtain ⟨r212, h212, h⟩ := lc_bde h
        refine lc_cvi C (pc' := 215) (r := r212) (M' := (va_up M 22 s)) (As := [.int x2_8]) (rest := []) (c_X4_isCell S X.2.1 M   x2_8 s r212 h212) kl_RX4_135 (lc_at197 S _) rfl rfl rfl rfl (Nat.le_of_ble_eq_true rfl) ⟨Nat.le_of_ble_eq_true rfl, Nat.le_of_ble_eq_true rfl⟩ ⟨rfl, rfl⟩ (lc_z2 _ _) dX4_succeeds_212 rfl ?_
        refine lc_if_eq C (pc' := 218) (tgt := 232) dX4_succeeds_215 (by decide) rfl (fun c215 => ?_) (fun c215 => ?_)
        · have h := (lc_if2 h).1 c215
          refine lc_iconst C (pc' := 233) (v := (0 : Int32)) dX4_succeeds_232 (by decide) rfl ?_
          obtain rfl := Option.some.inj h
          exact lc_zret C rfl (Or.inl rfl) dX4_succeeds_233
        · have h := (lc_if2 h).2 c215
          refine lc_aload_n C (pc' := 219) 3 dX4_succeeds_218 rfl rfl ?_
          refine lc_iload_n C (pc' := 220) 2 dX4_succeeds_219 rfl rfl ?_
          obtain ⟨r220, h220, h⟩ := lc_bde h
          refine lc_cvi C (pc' := 223) (r := r220) (M' := (va_up M 22 s)) (As := [.int x2_8]) (rest := []) (c_X4_kindOf S X.2.1 M   x2_8 s r220 h220) kl_RX4_172 (lc_at197 S _) rfl rfl rfl rfl (Nat.le_of_ble_eq_true rfl) ⟨Nat.le_of_ble_eq_true rfl, Nat.le_of_ble_eq_true rfl⟩ ⟨rfl, rfl⟩ (lc_z2 _ _) dX4_succeeds_220 rfl ?_
          refine lc_iload C (pc' := 225) 0 dX4_succeeds_223 rfl rfl ?_
          refine lc_icmp_ne C (pc' := 228) (tgt := 232) dX4_succeeds_225 (by decide) rfl (fun c225 => ?_) (fun c225 => ?_)
          · have h := (lc_if2 h).2 c225
            refine lc_iconst C (pc' := 233) (v := (0 : Int32)) dX4_succeeds_232 (by decide) rfl ?_
            obtain rfl := Option.some.inj h
            exact lc_zret C rfl (Or.inl rfl) dX4_succeeds_233
          · have h := (lc_if2 h).1 c225
            refine lc_iconst C (pc' := 229) (v := (1 : Int32)) dX4_succeeds_228 (by decide) rfl ?_
            refine lc_goto C (tgt := 233) dX4_succeeds_229 (by decide) ?_
            obtain rfl := Option.some.inj h
            exact lc_zret C rfl (Or.inr rfl) dX4_succeeds_233
  have h := (lc_if2 h).2 q28_7
  by_cases q28_8 : y28 = (8 : Int32)
  · have h := (lc_if2 h).1 q28_8
    refine lc_tabIn C (tgt := 234) dX4_succeeds_28 (8 : Int) (by rw [q28_8]; decide) (by decide) (by decide) rfl (by decide) ?_
    refine lc_iload_n C (pc' := 235) 2 dX4_succeeds_234 rfl rfl ?_
    refine lc_if_ne C (pc' := 238) (tgt := 254) dX4_succeeds_235 (by decide) rfl (fun c235 => ?_) (fun c235 => ?_)
    · have h := (lc_if2 h).2 c235
      refine lc_iconst C (pc' := 255) (v := (0 : Int32)) dX4_succeeds_254 (by decide) rfl ?_
      obtain rfl := Option.some.inj h
      exact lc_zret C rfl (Or.inl rfl) dX4_succeeds_255
    · have h := (lc_if2 h).1 c235
      refine lc_aload_n C (pc' := 239) 3 dX4_succeeds_238 rfl rfl ?_
      obtain ⟨r239, h239, h⟩ := lc_bde h
      refine lc_cvi C (pc' := 242) (r := r239) (M' := (va_up M 22 s)) (As := []) (rest := []) (c_X4_allOwed S X.2.1 M    s r239 h239) kl_RX4_163 (lc_at197 S _) rfl rfl rfl rfl (Nat.le_of_ble_eq_true rfl) ⟨Nat.le_of_ble_eq_true rfl, Nat.le_of_ble_eq_true rfl⟩ ⟨rfl, rfl⟩ (lc_z2 _ _) dX4_succeeds_239 rfl ?_
      refine lc_iload_n C (pc' := 243) 4 dX4_succeeds_242 rfl rfl ?_
      refine lc_sipush C (pc' := 246) (v := (1000 : Int32)) dX4_succeeds_243 (by decide) rfl ?_
      refine lc_irem C (pc' := 247) dX4_succeeds_246 (by decide) rfl ?_
      refine lc_icmp_gt C (pc' := 250) (tgt := 254) dX4_succeeds_247 (by decide) rfl (fun c247 => ?_) (fun c247 => ?_)
      · have h := (lc_if2 h).1 c247
        refine lc_iconst C (pc' := 255) (v := (0 : Int32)) dX4_succeeds_254 (by decide) rfl ?_
        obtain rfl := Option.some.inj h
        exact lc_zret C rfl (Or.inl rfl) dX4_succeeds_255
      · have h := (lc_if2 h).2 c247
        refine lc_iconst C (pc' := 251) (v := (1 : Int32)) dX4_succeeds_250 (by decide) rfl ?_
        refine lc_goto C (tgt := 255) dX4_succeeds_251 (by decide) ?_
        obtain rfl := Option.some.inj h
        exact lc_zret C rfl (Or.inr rfl) dX4_succeeds_255
  have h := (lc_if2 h).2 q28_8
  by_cases q28_9 : y28 = (9 : Int32)
  · have h := (lc_if2 h).1 q28_9
    refine lc_tabIn C (tgt := 256) dX4_succeeds_28 (9 : Int) (by rw [q28_9]; decide) (by decide) (by decide) rfl (by decide) ?_
    refine lc_iload_n C (pc' := 257) 2 dX4_succeeds_256 rfl rfl ?_
    refine lc_iload_n C (pc' := 258) 1 dX4_succeeds_257 rfl rfl ?_
    refine lc_iadd C (pc' := 259) dX4_succeeds_258 rfl ?_
    refine lc_if_ne C (pc' := 262) (tgt := 285) dX4_succeeds_259 (by decide) rfl (fun c259 => ?_) (fun c259 => ?_)
    · have h := (lc_if2 h).2 c259
      refine lc_iconst C (pc' := 286) (v := (0 : Int32)) dX4_succeeds_285 (by decide) rfl ?_
      obtain rfl := Option.some.inj h
      exact lc_zret C rfl (Or.inl rfl) dX4_succeeds_286
    · have h := (lc_if2 h).1 c259
      refine lc_iload C (pc' := 264) 0 dX4_succeeds_262 rfl rfl ?_
      refine lc_bipush C (pc' := 266) (v := (10 : Int32)) dX4_succeeds_264 (by decide) rfl ?_
      refine lc_icmp_ge C (pc' := 269) (tgt := 285) dX4_succeeds_266 (by decide) rfl (fun c266 => ?_) (fun c266 => ?_)
      · have h := (lc_if2 h).1 c266
        refine lc_iconst C (pc' := 286) (v := (0 : Int32)) dX4_succeeds_285 (by decide) rfl ?_
        obtain rfl := Option.some.inj h
        exact lc_zret C rfl (Or.inl rfl) dX4_succeeds_286
      · have h := (lc_if2 h).2 c266
        refine lc_aload_n C (pc' := 270) 3 dX4_succeeds_269 rfl rfl ?_
        obtain ⟨r270, h270, h⟩ := lc_bde h
        refine lc_cvi C (pc' := 273) (r := r270) (M' := (va_up M 22 s)) (As := []) (rest := []) (c_X4_bankrupts S X.2.1 M    s r270 h270) kl_RX4_166 (lc_at197 S _) rfl rfl rfl rfl (Nat.le_of_ble_eq_true rfl) ⟨Nat.le_of_ble_eq_true rfl, Nat.le_of_ble_eq_true rfl⟩ ⟨rfl, rfl⟩ (lc_z2 _ _) dX4_succeeds_270 rfl ?_
        obtain ⟨r273, h273, h⟩ := lc_bde h
        refine lc_csi C (pc' := 276) (r := r273) (M' := (va_up M 22 s)) (As := [.int r270]) (rest := []) (c_X4_bits S X.2.1 (va_up M 22 s)   r270  r273 h273) kl_RX4_211 rfl rfl (Nat.le_of_ble_eq_true rfl) ⟨Nat.le_of_ble_eq_true rfl, Nat.le_of_ble_eq_true rfl⟩ ⟨rfl, rfl⟩ (lc_z2 _ _) dX4_succeeds_273 rfl ?_
        refine lc_iload C (pc' := 278) 0 dX4_succeeds_276 rfl rfl ?_
        refine lc_icmp_gt C (pc' := 281) (tgt := 285) dX4_succeeds_278 (by decide) rfl (fun c278 => ?_) (fun c278 => ?_)
        · have h := (lc_if2 h).1 c278
          refine lc_iconst C (pc' := 286) (v := (0 : Int32)) dX4_succeeds_285 (by decide) rfl ?_
          obtain rfl := Option.some.inj h
          exact lc_zret C rfl (Or.inl rfl) dX4_succeeds_286
        · have h := (lc_if2 h).2 c278
          refine lc_iconst C (pc' := 282) (v := (1 : Int32)) dX4_succeeds_281 (by decide) rfl ?_
          refine lc_goto C (tgt := 286) dX4_succeeds_282 (by decide) ?_
          obtain rfl := Option.some.inj h
          exact lc_zret C rfl (Or.inr rfl) dX4_succeeds_286
  have h := (lc_if2 h).2 q28_9
  refine lc_tabOut C (tgt := 287) dX4_succeeds_28 (by have n1 : y28.toInt ≠ 1 := fun q => q28_1 (Int32.toInt_inj.mp q); have n2 : y28.toInt ≠ 2 := fun q => q28_2 (Int32.toInt_inj.mp q); have n3 : y28.toInt ≠ 3 := fun q => q28_3 (Int32.toInt_inj.mp q); have n4 : y28.toInt ≠ 4 := fun q => q28_4 (Int32.toInt_inj.mp q); have n5 : y28.toInt ≠ 5 := fun q => q28_5 (Int32.toInt_inj.mp q); have n6 : y28.toInt ≠ 6 := fun q => q28_6 (Int32.toInt_inj.mp q); have n7 : y28.toInt ≠ 7 := fun q => q28_7 (Int32.toInt_inj.mp q); have n8 : y28.toInt ≠ 8 := fun q => q28_8 (Int32.toInt_inj.mp q); have n9 : y28.toInt ≠ 9 := fun q => q28_9 (Int32.toInt_inj.mp q); omega) (by decide) ?_
  refine lc_iconst C (pc' := 288) (v := (0 : Int32)) dX4_succeeds_287 (by decide) rfl ?_
  obtain rfl := Option.some.inj h
  exact lc_zret C rfl (Or.inl rfl) dX4_succeeds_288
abbrev rm_X4_runScript : Room := { frames := 7, cells := 0, slots := 0, locals := 166 }
def P_X4_runScript_138  (x6 : Int32) (s : lc_St) : Option (Int32 × lc_St) :=
  lc_bd (P_X4_putBack  s) (fun s3 => some (x6, s3))
set_option maxRecDepth 100000 in
set_option maxHeartbeats 4000000 in
theorem w_X4_runScript_138 {S : lc_Se} {X : lc_X} (C : lc_C X cX4_runScript RX4 10 (some .int) rm_X4_runScript) {M : lc_MM}  (out : Int32 × lc_St)  : ∀ (x6 : Int32) (s : lc_St), P_X4_runScript_138  x6 s = some out → lc_J S X 10 0 0 (lc_QI S X 0 0 out.1 (va_up M 22 out.2)) 138 [(0, .ref (lc_ad S 197)), (6, .int x6)] [] (va_up M 22 s) := by
  intro x6 s h
  rw [P_X4_runScript_138] at h
  refine lc_aload_n C (pc' := 139) 0 dX4_runScript_138 rfl rfl ?_
  obtain ⟨s3, h139, h⟩ := lc_bde h
  refine lc_cvv C (pc' := 142) (M' := (va_up M 22 s3)) (As := []) (rest := []) (c_X4_putBack S X.2.1 M    s s3 h139) kl_RX4_157 (lc_at197 S _) rfl rfl rfl rfl (Nat.le_of_ble_eq_true rfl) ⟨Nat.le_of_ble_eq_true rfl, Nat.le_of_ble_eq_true rfl⟩ ⟨rfl, rfl⟩ (lc_z2 _ _) dX4_runScript_139 rfl ?_
  refine lc_iload C (pc' := 144) 1 dX4_runScript_142 rfl rfl ?_
  obtain rfl := Option.some.inj h
  exact lc_iret C rfl dX4_runScript_144
def P_X4_runScript_122 (K86 : Int32 → Int64 → Int32 → Int64 → Int32 → lc_St → Option (Int32 × lc_St)) (x1 : Int32) (x2 : Int64) (x7 : Int64) (x9 : Int32) (t0 : Int32) (s : lc_St) : Option (Int32 × lc_St) :=
  lc_let (x7 / (100000 : Int64)) (fun x7_130 => lc_let (x9 + (1 : Int32)) (fun x9_132 => K86 x1 x2 t0 x7_130 x9_132 s))
set_option maxRecDepth 100000 in
set_option maxHeartbeats 4000000 in
theorem w_X4_runScript_122 {S : lc_Se} {X : lc_X} (C : lc_C X cX4_runScript RX4 10 (some .int) rm_X4_runScript) {M : lc_MM}  (out : Int32 × lc_St) (K86 : Int32 → Int64 → Int32 → Int64 → Int32 → lc_St → Option (Int32 × lc_St)) (hK86 : ∀ (x1 : Int32) (x2 : Int64) (x6 : Int32) (x7 : Int64) (x9 : Int32) (s : lc_St), K86 x1 x2 x6 x7 x9 s = some out → lc_J S X 10 0 0 (lc_QI S X 0 0 out.1 (va_up M 22 out.2)) 86 [(0, .ref (lc_ad S 197)), (1, .int x1), (2, .long x2), (6, .int x6), (7, .long x7), (9, .int x9)] [] (va_up M 22 s)) : ∀ (x1 : Int32) (x2 : Int64) (x7 : Int64) (x9 : Int32) (t0 : Int32) (s : lc_St), P_X4_runScript_122 K86 x1 x2 x7 x9 t0 s = some out → lc_J S X 10 0 0 (lc_QI S X 0 0 out.1 (va_up M 22 out.2)) 122 [(0, .ref (lc_ad S 197)), (1, .int x1), (2, .long x2), (7, .long x7), (9, .int x9)] [.int t0] (va_up M 22 s) := by
  intro x1 x2 x7 x9 t0 s h
  rw [P_X4_runScript_122] at h
  refine lc_istore C (pc' := 124) (lo' := [(6, .int t0), (0, .ref (lc_ad S 197)), (1, .int x1), (2, .long x2), (7, .long x7), (9, .int x9)]) dX4_runScript_122 (Nat.le_of_ble_eq_true rfl) rfl rfl ?_
  refine lc_lload C (pc' := 126) 4 dX4_runScript_124 rfl rfl ?_
  refine lc_ldc2 C (pc' := 129) (v := (100000 : Int64)) dX4_runScript_126 kc_RX4_214 rfl ?_
  refine lc_ldiv C (pc' := 130) dX4_runScript_129 (by decide) rfl ?_
  obtain ⟨x7_130, e7_130, h⟩ := lc_let2 h
  rw [e7_130]
  refine lc_lstore C (pc' := 132) (lo' := [(7, .long x7_130), (6, .int t0), (0, .ref (lc_ad S 197)), (1, .int x1), (2, .long x2), (9, .int x9)]) dX4_runScript_130 (Nat.le_of_ble_eq_true rfl) rfl rfl ?_
  obtain ⟨x9_132, e9_132, h⟩ := lc_let2 h
  refine lc_iinc C (pc' := 135) (lo' := [(9, .int x9_132), (7, .long x7_130), (6, .int t0), (0, .ref (lc_ad S 197)), (1, .int x1), (2, .long x2)]) (q := 5) dX4_runScript_132 rfl (by rw [← e9_132]; rfl) (Nat.le_of_ble_eq_true rfl) rfl rfl ?_
  refine lc_goto C (tgt := 86) dX4_runScript_135 (by decide) ?_
  refine lc_sub (lo' := [(0, .ref (lc_ad S 197)), (1, .int x1), (2, .long x2), (6, .int t0), (7, .long x7_130), (9, .int x9_132)]) [3, 4, 5, 2, 1, 0] rfl ?_
  exact hK86 x1 x2 t0 x7_130 x9_132 s h
def P_X4_runScript_86  : Nat → Int32 → Int64 → Int32 → Int64 → Int32 → lc_St → Option (Int32 × lc_St)
  | 0, _, _, _, _, _, _ => none
  | n + 1, x1, x2, x6, x7, x9, s =>
    if x1 ≤ x9 then P_X4_runScript_138   x6 s else if x6 = (-9 : Int32) then lc_if (¬ x7 = 0) (lc_let (x2 / x7) (fun y107 => lc_bd2 (P_X4_succeeds (y107 - y107 / (100000 : Int64) * (100000 : Int64)).toInt32 s) (fun r109 s4 => if r109 = 0 then P_X4_runScript_122 (fun x1 x2 x6 x7 x9 s => P_X4_runScript_86  n x1 x2 x6 x7 x9 s)  x1 x2 x7 x9 x9 s4 else P_X4_runScript_122 (fun x1 x2 x6 x7 x9 s => P_X4_runScript_86  n x1 x2 x6 x7 x9 s)  x1 x2 x7 x9 (-9 : Int32) s4))) else P_X4_runScript_138   x6 s
set_option maxRecDepth 100000 in
set_option maxHeartbeats 4000000 in
theorem w_X4_runScript_86 {S : lc_Se} {X : lc_X} (C : lc_C X cX4_runScript RX4 10 (some .int) rm_X4_runScript) {M : lc_MM}  (out : Int32 × lc_St)  : ∀ (n : Nat) (x1 : Int32) (x2 : Int64) (x6 : Int32) (x7 : Int64) (x9 : Int32) (s : lc_St), P_X4_runScript_86  n x1 x2 x6 x7 x9 s = some out → lc_J S X 10 0 0 (lc_QI S X 0 0 out.1 (va_up M 22 out.2)) 86 [(0, .ref (lc_ad S 197)), (1, .int x1), (2, .long x2), (6, .int x6), (7, .long x7), (9, .int x9)] [] (va_up M 22 s) := by
  intro n
  induction n with
  | zero =>
    intro x1 x2 x6 x7 x9 s h
    rw [P_X4_runScript_86] at h
    cases h
  | succ n ih =>
    intro x1 x2 x6 x7 x9 s h
    rw [P_X4_runScript_86] at h
    refine lc_iload C (pc' := 88) 5 dX4_runScript_86 rfl rfl ?_
    refine lc_iload_n C (pc' := 89) 1 dX4_runScript_88 rfl rfl ?_
    refine lc_icmp_ge C (pc' := 92) (tgt := 138) dX4_runScript_89 (by decide) rfl (fun c89 => ?_) (fun c89 => ?_)
    · have h := (lc_if2 h).1 c89
      refine lc_sub (lo' := [(0, .ref (lc_ad S 197)), (6, .int x6)]) [0, 3] rfl ?_
      exact w_X4_runScript_138 C   out   x6 s h
    · have h := (lc_if2 h).2 c89
      refine lc_iload C (pc' := 94) 3 dX4_runScript_92 rfl rfl ?_
      refine lc_bipush C (pc' := 96) (v := (-9 : Int32)) dX4_runScript_94 (by decide) rfl ?_
      refine lc_icmp_ne C (pc' := 99) (tgt := 138) dX4_runScript_96 (by decide) rfl (fun c96 => ?_) (fun c96 => ?_)
      · have h := (lc_if2 h).2 c96
        refine lc_sub (lo' := [(0, .ref (lc_ad S 197)), (6, .int x6)]) [0, 3] rfl ?_
        exact w_X4_runScript_138 C   out   x6 s h
      · have h := (lc_if2 h).1 c96
        refine lc_aload_n C (pc' := 100) 0 dX4_runScript_99 rfl rfl ?_
        refine lc_lload_n C (pc' := 101) 2 dX4_runScript_100 rfl rfl ?_
        refine lc_lload C (pc' := 103) 4 dX4_runScript_101 rfl rfl ?_
        obtain ⟨hy103, h⟩ := lc_ife h
        refine lc_ldiv C (pc' := 104) dX4_runScript_103 hy103 rfl ?_
        refine lc_ldc2 C (pc' := 107) (v := (100000 : Int64)) dX4_runScript_104 kc_RX4_214 rfl ?_
        obtain ⟨y107, ey107, h⟩ := lc_let2 h
        rw [ey107]
        refine lc_lrem C (pc' := 108) dX4_runScript_107 (by decide) rfl ?_
        refine lc_l2i C (pc' := 109) dX4_runScript_108 rfl ?_
        obtain ⟨r109, s4, h109, h⟩ := lc_bd2e h
        refine lc_cvi C (pc' := 112) (r := r109) (M' := (va_up M 22 s4)) (As := [.int (y107 - y107 / (100000 : Int64) * (100000 : Int64)).toInt32]) (rest := []) (c_X4_succeeds S X.2.1 M   (y107 - y107 / (100000 : Int64) * (100000 : Int64)).toInt32 s (r109, s4) h109) kl_RX4_220 (lc_at197 S _) rfl rfl rfl rfl (Nat.le_of_ble_eq_true rfl) ⟨Nat.le_of_ble_eq_true rfl, Nat.le_of_ble_eq_true rfl⟩ ⟨rfl, rfl⟩ (lc_z2 _ _) dX4_runScript_109 rfl ?_
        refine lc_if_eq C (pc' := 115) (tgt := 120) dX4_runScript_112 (by decide) rfl (fun c112 => ?_) (fun c112 => ?_)
        · have h := (lc_if2 h).1 c112
          refine lc_iload C (pc' := 122) 5 dX4_runScript_120 rfl rfl ?_
          refine lc_sub (lo' := [(0, .ref (lc_ad S 197)), (1, .int x1), (2, .long x2), (7, .long x7), (9, .int x9)]) [0, 1, 2, 4, 5] rfl ?_
          exact w_X4_runScript_122 C   out (fun x1 x2 x6 x7 x9 s => P_X4_runScript_86  n x1 x2 x6 x7 x9 s) ih  x1 x2 x7 x9 x9 s4 h
        · have h := (lc_if2 h).2 c112
          refine lc_bipush C (pc' := 117) (v := (-9 : Int32)) dX4_runScript_115 (by decide) rfl ?_
          refine lc_goto C (tgt := 122) dX4_runScript_117 (by decide) ?_
          refine lc_sub (lo' := [(0, .ref (lc_ad S 197)), (1, .int x1), (2, .long x2), (7, .long x7), (9, .int x9)]) [0, 1, 2, 4, 5] rfl ?_
          exact w_X4_runScript_122 C   out (fun x1 x2 x6 x7 x9 s => P_X4_runScript_86  n x1 x2 x6 x7 x9 s) ih  x1 x2 x7 x9 (-9 : Int32) s4 h
def P_X4_runScript_55  (x1 : Int32) (x2 : Int64) (x4 : Int64) (t1 : Int32) (s : lc_St) : Option (Int32 × lc_St) :=
  lc_let (lc_ss s 0 0 t1) (fun s1 => if (s1 0 0) ≤ 0 then lc_bd (P_X4_layPut  s1) (fun s2 => lc_let (x4 / (100000 : Int64)) (fun x7_81 => P_X4_runScript_86  lc_FU x1 x2 (-9 : Int32) x7_81 (0 : Int32) s2)) else some ((0 : Int32), s1))
set_option maxRecDepth 100000 in
set_option maxHeartbeats 4000000 in
theorem w_X4_runScript_55 {S : lc_Se} {X : lc_X} (C : lc_C X cX4_runScript RX4 10 (some .int) rm_X4_runScript) {M : lc_MM}  (out : Int32 × lc_St)  : ∀ (x1 : Int32) (x2 : Int64) (x4 : Int64) (t1 : Int32) (s : lc_St), P_X4_runScript_55  x1 x2 x4 t1 s = some out → lc_J S X 10 0 0 (lc_QI S X 0 0 out.1 (va_up M 22 out.2)) 55 [(0, .ref (lc_ad S 197)), (1, .int x1), (2, .long x2), (4, .long x4)] [.int t1, .ref (lc_ad S 197)] (va_up M 22 s) := by
  intro x1 x2 x4 t1 s h
  rw [P_X4_runScript_55] at h
  obtain ⟨s1, es1, h⟩ := lc_let2 h
  refine lc_p197_thrown C (pc' := 58) (M' := (va_up M 22 s1)) (va_up_self _ _ _) es1 (lc_up_up _ _ _ _) dX4_runScript_55 kf_RX4_35 rfl ?_
  refine lc_aload_n C (pc' := 59) 0 dX4_runScript_58 rfl rfl ?_
  refine lc_g197_thrown C (pc' := 62) (va_up_self _ _ _) dX4_runScript_59 kf_RX4_35 rfl ?_
  refine lc_if_le C (pc' := 65) (tgt := 67) dX4_runScript_62 (by decide) rfl (fun c62 => ?_) (fun c62 => ?_)
  · have h := (lc_if2 h).1 c62
    refine lc_aload_n C (pc' := 68) 0 dX4_runScript_67 rfl rfl ?_
    obtain ⟨s2, h68, h⟩ := lc_bde h
    refine lc_cvv C (pc' := 71) (M' := (va_up M 22 s2)) (As := []) (rest := []) (c_X4_layPut S X.2.1 M    s1 s2 h68) kl_RX4_150 (lc_at197 S _) rfl rfl rfl rfl (Nat.le_of_ble_eq_true rfl) ⟨Nat.le_of_ble_eq_true rfl, Nat.le_of_ble_eq_true rfl⟩ ⟨rfl, rfl⟩ (lc_z2 _ _) dX4_runScript_68 rfl ?_
    refine lc_bipush C (pc' := 73) (v := (-9 : Int32)) dX4_runScript_71 (by decide) rfl ?_
    refine lc_istore C (pc' := 75) (lo' := [(6, .int (-9 : Int32)), (0, .ref (lc_ad S 197)), (1, .int x1), (2, .long x2), (4, .long x4)]) dX4_runScript_73 (Nat.le_of_ble_eq_true rfl) rfl rfl ?_
    refine lc_lload C (pc' := 77) 4 dX4_runScript_75 rfl rfl ?_
    refine lc_ldc2 C (pc' := 80) (v := (100000 : Int64)) dX4_runScript_77 kc_RX4_214 rfl ?_
    refine lc_ldiv C (pc' := 81) dX4_runScript_80 (by decide) rfl ?_
    obtain ⟨x7_81, e7_81, h⟩ := lc_let2 h
    rw [e7_81]
    refine lc_lstore C (pc' := 83) (lo' := [(7, .long x7_81), (6, .int (-9 : Int32)), (0, .ref (lc_ad S 197)), (1, .int x1), (2, .long x2), (4, .long x4)]) dX4_runScript_81 (Nat.le_of_ble_eq_true rfl) rfl rfl ?_
    refine lc_iconst C (pc' := 84) (v := (0 : Int32)) dX4_runScript_83 (by decide) rfl ?_
    refine lc_istore C (pc' := 86) (lo' := [(9, .int (0 : Int32)), (7, .long x7_81), (6, .int (-9 : Int32)), (0, .ref (lc_ad S 197)), (1, .int x1), (2, .long x2), (4, .long x4)]) dX4_runScript_84 (Nat.le_of_ble_eq_true rfl) rfl rfl ?_
    refine lc_sub (lo' := [(0, .ref (lc_ad S 197)), (1, .int x1), (2, .long x2), (6, .int (-9 : Int32)), (7, .long x7_81), (9, .int (0 : Int32))]) [3, 4, 5, 2, 1, 0] rfl ?_
    exact w_X4_runScript_86 C   out  lc_FU x1 x2 (-9 : Int32) x7_81 (0 : Int32) s2 h
  · have h := (lc_if2 h).2 c62
    refine lc_iconst C (pc' := 66) (v := (0 : Int32)) dX4_runScript_65 (by decide) rfl ?_
    obtain rfl := Option.some.inj h
    exact lc_iret C rfl dX4_runScript_66
def P_X4_runScript_54  (x1 : Int32) (x2 : Int64) (x4 : Int64) (s : lc_St) : Option (Int32 × lc_St) :=
  P_X4_runScript_55   x1 x2 x4 (1 : Int32) s
set_option maxRecDepth 100000 in
set_option maxHeartbeats 4000000 in
theorem w_X4_runScript_54 {S : lc_Se} {X : lc_X} (C : lc_C X cX4_runScript RX4 10 (some .int) rm_X4_runScript) {M : lc_MM}  (out : Int32 × lc_St)  : ∀ (x1 : Int32) (x2 : Int64) (x4 : Int64) (s : lc_St), P_X4_runScript_54  x1 x2 x4 s = some out → lc_J S X 10 0 0 (lc_QI S X 0 0 out.1 (va_up M 22 out.2)) 54 [(0, .ref (lc_ad S 197)), (1, .int x1), (2, .long x2), (4, .long x4)] [.ref (lc_ad S 197)] (va_up M 22 s) := by
  intro x1 x2 x4 s h
  rw [P_X4_runScript_54] at h
  refine lc_iconst C (pc' := 55) (v := (1 : Int32)) dX4_runScript_54 (by decide) rfl ?_
  exact w_X4_runScript_55 C   out   x1 x2 x4 (1 : Int32) s h
def P_X4_runScript_25  (x1 : Int32) (x2 : Int64) (t0 : Int64) (s : lc_St) : Option (Int32 × lc_St) :=
  lc_bd (P_X4_in x1 (1 : Int32) (3 : Int32)) (fun r31 => if r31 = 0 then P_X4_runScript_54   x1 x2 t0 s else if (lg_cmp x2 (0 : Int64)) < 0 then P_X4_runScript_54   x1 x2 t0 s else if 0 ≤ (lg_cmp x2 t0) then P_X4_runScript_54   x1 x2 t0 s else P_X4_runScript_55   x1 x2 t0 (0 : Int32) s)
set_option maxRecDepth 100000 in
set_option maxHeartbeats 4000000 in
theorem w_X4_runScript_25 {S : lc_Se} {X : lc_X} (C : lc_C X cX4_runScript RX4 10 (some .int) rm_X4_runScript) {M : lc_MM}  (out : Int32 × lc_St)  : ∀ (x1 : Int32) (x2 : Int64) (t0 : Int64) (s : lc_St), P_X4_runScript_25  x1 x2 t0 s = some out → lc_J S X 10 0 0 (lc_QI S X 0 0 out.1 (va_up M 22 out.2)) 25 [(0, .ref (lc_ad S 197)), (1, .int x1), (2, .long x2)] [.long t0] (va_up M 22 s) := by
  intro x1 x2 t0 s h
  rw [P_X4_runScript_25] at h
  refine lc_lstore C (pc' := 27) (lo' := [(4, .long t0), (0, .ref (lc_ad S 197)), (1, .int x1), (2, .long x2)]) dX4_runScript_25 (Nat.le_of_ble_eq_true rfl) rfl rfl ?_
  refine lc_aload_n C (pc' := 28) 1 dX4_runScript_27 rfl rfl ?_
  refine lc_iload_n C (pc' := 29) 2 dX4_runScript_28 rfl rfl ?_
  refine lc_iconst C (pc' := 30) (v := (1 : Int32)) dX4_runScript_29 (by decide) rfl ?_
  refine lc_iconst C (pc' := 31) (v := (3 : Int32)) dX4_runScript_30 (by decide) rfl ?_
  obtain ⟨r31, h31, h⟩ := lc_bde h
  refine lc_csi C (pc' := 34) (r := r31) (M' := (va_up M 22 s)) (As := [.int x1, .int (1 : Int32), .int (3 : Int32)]) (rest := [.ref (lc_ad S 197)]) (c_X4_in S X.2.1 (va_up M 22 s)   x1 (1 : Int32) (3 : Int32)  r31 h31) kl_RX4_39 rfl rfl (Nat.le_of_ble_eq_true rfl) ⟨Nat.le_of_ble_eq_true rfl, Nat.le_of_ble_eq_true rfl⟩ ⟨rfl, rfl⟩ (lc_z2 _ _) dX4_runScript_31 rfl ?_
  refine lc_if_eq C (pc' := 37) (tgt := 54) dX4_runScript_34 (by decide) rfl (fun c34 => ?_) (fun c34 => ?_)
  · have h := (lc_if2 h).1 c34
    refine lc_sub (lo' := [(0, .ref (lc_ad S 197)), (1, .int x1), (2, .long x2), (4, .long t0)]) [1, 2, 3, 0] rfl ?_
    exact w_X4_runScript_54 C   out   x1 x2 t0 s h
  · have h := (lc_if2 h).2 c34
    refine lc_lload_n C (pc' := 38) 3 dX4_runScript_37 rfl rfl ?_
    refine lc_lconst C (pc' := 39) (v := (0 : Int64)) dX4_runScript_38 (by decide) rfl ?_
    refine lc_lcmp C (pc' := 40) dX4_runScript_39 rfl ?_
    refine lc_if_lt C (pc' := 43) (tgt := 54) dX4_runScript_40 (by decide) rfl (fun c40 => ?_) (fun c40 => ?_)
    · have h := (lc_if2 h).1 c40
      refine lc_sub (lo' := [(0, .ref (lc_ad S 197)), (1, .int x1), (2, .long x2), (4, .long t0)]) [1, 2, 3, 0] rfl ?_
      exact w_X4_runScript_54 C   out   x1 x2 t0 s h
    · have h := (lc_if2 h).2 c40
      refine lc_lload_n C (pc' := 44) 3 dX4_runScript_43 rfl rfl ?_
      refine lc_lload C (pc' := 46) 0 dX4_runScript_44 rfl rfl ?_
      refine lc_lcmp C (pc' := 47) dX4_runScript_46 rfl ?_
      refine lc_if_ge C (pc' := 50) (tgt := 54) dX4_runScript_47 (by decide) rfl (fun c47 => ?_) (fun c47 => ?_)
      · have h := (lc_if2 h).1 c47
        refine lc_sub (lo' := [(0, .ref (lc_ad S 197)), (1, .int x1), (2, .long x2), (4, .long t0)]) [1, 2, 3, 0] rfl ?_
        exact w_X4_runScript_54 C   out   x1 x2 t0 s h
      · have h := (lc_if2 h).2 c47
        refine lc_iconst C (pc' := 51) (v := (0 : Int32)) dX4_runScript_50 (by decide) rfl ?_
        refine lc_goto C (tgt := 55) dX4_runScript_51 (by decide) ?_
        refine lc_sub (lo' := [(0, .ref (lc_ad S 197)), (1, .int x1), (2, .long x2), (4, .long t0)]) [1, 2, 3, 0] rfl ?_
        exact w_X4_runScript_55 C   out   x1 x2 t0 (0 : Int32) s h
def P_X4_runScript  (x1 : Int32) (x2 : Int64) (s : lc_St) : Option (Int32 × lc_St) :=
  if x1 = (1 : Int32) then P_X4_runScript_25   x1 x2 (100000 : Int64) s else if x1 = (2 : Int32) then P_X4_runScript_25   x1 x2 (10000000000 : Int64) s else P_X4_runScript_25   x1 x2 (1000000000000000 : Int64) s
set_option maxRecDepth 100000 in
set_option maxHeartbeats 4000000 in
theorem c_X4_runScript (S : lc_Se) (l : Launch) (M : lc_MM)  (x1 : Int32) (x2 : Int64) (s : lc_St) (out : Int32 × lc_St) (h : P_X4_runScript x1 x2 s = some out) : lc_MI S l yX4_runScript cX4_runScript 10 (some .int) rm_X4_runScript [.ref (lc_ad S 197), .int x1, .long x2] (va_up M 22 s) out.1 (va_up M 22 out.2) := by
  refine lc_mkI (own := RX4) pn_RX4 rfl (Nat.le_of_ble_eq_true rfl) (lo := [(0, .ref (lc_ad S 197)), (1, .int x1), (2, .long x2)]) rfl (fun X hX C => ?_)
  rw [P_X4_runScript] at h
  refine lc_iload_n C (pc' := 1) 1 dX4_runScript_0 rfl rfl ?_
  refine lc_iconst C (pc' := 2) (v := (1 : Int32)) dX4_runScript_1 (by decide) rfl ?_
  refine lc_icmp_ne C (pc' := 5) (tgt := 11) dX4_runScript_2 (by decide) rfl (fun c2 => ?_) (fun c2 => ?_)
  · have h := (lc_if2 h).2 c2
    refine lc_iload_n C (pc' := 12) 1 dX4_runScript_11 rfl rfl ?_
    refine lc_iconst C (pc' := 13) (v := (2 : Int32)) dX4_runScript_12 (by decide) rfl ?_
    refine lc_icmp_ne C (pc' := 16) (tgt := 22) dX4_runScript_13 (by decide) rfl (fun c13 => ?_) (fun c13 => ?_)
    · have h := (lc_if2 h).2 c13
      refine lc_ldc2 C (pc' := 25) (v := (1000000000000000 : Int64)) dX4_runScript_22 kc_RX4_218 rfl ?_
      exact w_X4_runScript_25 C   out   x1 x2 (1000000000000000 : Int64) s h
    · have h := (lc_if2 h).1 c13
      refine lc_ldc2 C (pc' := 19) (v := (10000000000 : Int64)) dX4_runScript_16 kc_RX4_216 rfl ?_
      refine lc_goto C (tgt := 25) dX4_runScript_19 (by decide) ?_
      exact w_X4_runScript_25 C   out   x1 x2 (10000000000 : Int64) s h
  · have h := (lc_if2 h).1 c2
    refine lc_ldc2 C (pc' := 8) (v := (100000 : Int64)) dX4_runScript_5 kc_RX4_214 rfl ?_
    refine lc_goto C (tgt := 25) dX4_runScript_8 (by decide) ?_
    exact w_X4_runScript_25 C   out   x1 x2 (100000 : Int64) s h
abbrev rm_X4_simulate : Room := { frames := 6, cells := 0, slots := 0, locals := 142 }
def P_X4_simulate_118 (K49 : Int32 → Int32 → Int32 → Int64 → Int32 → lc_St → Option (Int32 × lc_St)) (x3 : Int32) (x4 : Int32) (x5 : Int32) (x6 : Int64) (x8 : Int32) (s : lc_St) : Option (Int32 × lc_St) :=
  lc_bd2 (P_X4_round  s) (fun r121 s4 => lc_let (x5 ||| r121) (fun x5_125 => lc_let (x8 + (1 : Int32)) (fun x8_127 => K49 x3 x4 x5_125 x6 x8_127 s4)))
set_option maxRecDepth 100000 in
set_option maxHeartbeats 4000000 in
theorem w_X4_simulate_118 {S : lc_Se} {X : lc_X} (C : lc_C X cX4_simulate RX4 11 (some .int) rm_X4_simulate) {M : lc_MM}  (out : Int32 × lc_St) (K49 : Int32 → Int32 → Int32 → Int64 → Int32 → lc_St → Option (Int32 × lc_St)) (hK49 : ∀ (x3 : Int32) (x4 : Int32) (x5 : Int32) (x6 : Int64) (x8 : Int32) (s : lc_St), K49 x3 x4 x5 x6 x8 s = some out → lc_J S X 11 0 0 (lc_QI S X 0 0 out.1 (va_up M 22 out.2)) 49 [(0, .ref (lc_ad S 197)), (3, .int x3), (4, .int x4), (5, .int x5), (6, .long x6), (8, .int x8)] [] (va_up M 22 s)) : ∀ (x3 : Int32) (x4 : Int32) (x5 : Int32) (x6 : Int64) (x8 : Int32) (s : lc_St), P_X4_simulate_118 K49 x3 x4 x5 x6 x8 s = some out → lc_J S X 11 0 0 (lc_QI S X 0 0 out.1 (va_up M 22 out.2)) 118 [(0, .ref (lc_ad S 197)), (3, .int x3), (4, .int x4), (5, .int x5), (6, .long x6), (8, .int x8)] [] (va_up M 22 s) := by
  intro x3 x4 x5 x6 x8 s h
  rw [P_X4_simulate_118] at h
  refine lc_iload C (pc' := 120) 3 dX4_simulate_118 rfl rfl ?_
  refine lc_aload_n C (pc' := 121) 0 dX4_simulate_120 rfl rfl ?_
  obtain ⟨r121, s4, h121, h⟩ := lc_bd2e h
  refine lc_cvi C (pc' := 124) (r := r121) (M' := (va_up M 22 s4)) (As := []) (rest := [.int x5]) (c_X4_round S X.2.1 M    s (r121, s4) h121) kl_RX4_91 (lc_at197 S _) rfl rfl rfl rfl (Nat.le_of_ble_eq_true rfl) ⟨Nat.le_of_ble_eq_true rfl, Nat.le_of_ble_eq_true rfl⟩ ⟨rfl, rfl⟩ (lc_z2 _ _) dX4_simulate_121 rfl ?_
  refine lc_ior C (pc' := 125) dX4_simulate_124 rfl ?_
  obtain ⟨x5_125, e5_125, h⟩ := lc_let2 h
  rw [e5_125]
  refine lc_istore C (pc' := 127) (lo' := [(5, .int x5_125), (0, .ref (lc_ad S 197)), (3, .int x3), (4, .int x4), (6, .long x6), (8, .int x8)]) dX4_simulate_125 (Nat.le_of_ble_eq_true rfl) rfl rfl ?_
  obtain ⟨x8_127, e8_127, h⟩ := lc_let2 h
  refine lc_iinc C (pc' := 130) (lo' := [(8, .int x8_127), (5, .int x5_125), (0, .ref (lc_ad S 197)), (3, .int x3), (4, .int x4), (6, .long x6)]) (q := 5) dX4_simulate_127 rfl (by rw [← e8_127]; rfl) (Nat.le_of_ble_eq_true rfl) rfl rfl ?_
  refine lc_goto C (tgt := 49) dX4_simulate_130 (by decide) ?_
  refine lc_sub (lo' := [(0, .ref (lc_ad S 197)), (3, .int x3), (4, .int x4), (5, .int x5_125), (6, .long x6), (8, .int x8_127)]) [2, 3, 4, 1, 5, 0] rfl ?_
  exact hK49 x3 x4 x5_125 x6 x8_127 s4 h
def P_X4_simulate_49  : Nat → Int32 → Int32 → Int32 → Int64 → Int32 → lc_St → Option (Int32 × lc_St)
  | 0, _, _, _, _, _, _ => none
  | n + 1, x3, x4, x5, x6, x8, s =>
    if x3 ≤ x8 then lc_let ((s 1 4) - x4) (fun x4_142 => lc_bd (P_X4_putBack  s) (fun s3 => lc_bd (P_X4_bits x5) (fun r152 => some ((((100000 : Int32) * r152) + x4_142), s3)))) else lc_let ((x6 * (6364136223846793005 : Int64)) + (1442695040888963407 : Int64)) (fun x6_65 => lc_let (x6_65.toUInt64 >>> ((33 : Int32).toInt64.toUInt64 &&& Int64.toUInt64 63)).toInt64.toInt32 (fun x9_73 => lc_let (x9_73 / (4 : Int32)) (fun y82 => lc_let ((1 : Int32) + (y82 - y82 / (9 : Int32) * (9 : Int32))) (fun x10_84 => if (x9_73 - x9_73 / (4 : Int32) * (4 : Int32)) = 0 then lc_bd2 (P_X4_charges x10_84 s) (fun r96 s6 => P_X4_simulate_118 (fun x3 x4 x5 x6 x8 s => P_X4_simulate_49  n x3 x4 x5 x6 x8 s)  x3 x4 x5 x6_65 x8 s6) else if (3 : Int32) ≤ (x9_73 - x9_73 / (4 : Int32) * (4 : Int32)) then P_X4_simulate_118 (fun x3 x4 x5 x6 x8 s => P_X4_simulate_49  n x3 x4 x5 x6 x8 s)  x3 x4 x5 x6_65 x8 s else lc_bd2 (P_X4_drawn x10_84 s) (fun r114 s5 => P_X4_simulate_118 (fun x3 x4 x5 x6 x8 s => P_X4_simulate_49  n x3 x4 x5 x6 x8 s)  x3 x4 x5 x6_65 x8 s5)))))
set_option maxRecDepth 100000 in
set_option maxHeartbeats 4000000 in
theorem w_X4_simulate_49 {S : lc_Se} {X : lc_X} (C : lc_C X cX4_simulate RX4 11 (some .int) rm_X4_simulate) {M : lc_MM}  (out : Int32 × lc_St)  : ∀ (n : Nat) (x3 : Int32) (x4 : Int32) (x5 : Int32) (x6 : Int64) (x8 : Int32) (s : lc_St), P_X4_simulate_49  n x3 x4 x5 x6 x8 s = some out → lc_J S X 11 0 0 (lc_QI S X 0 0 out.1 (va_up M 22 out.2)) 49 [(0, .ref (lc_ad S 197)), (3, .int x3), (4, .int x4), (5, .int x5), (6, .long x6), (8, .int x8)] [] (va_up M 22 s) := by
  intro n
  induction n with
  | zero =>
    intro x3 x4 x5 x6 x8 s h
    rw [P_X4_simulate_49] at h
    cases h
  | succ n ih =>
    intro x3 x4 x5 x6 x8 s h
    rw [P_X4_simulate_49] at h
    refine lc_iload C (pc' := 51) 5 dX4_simulate_49 rfl rfl ?_
    refine lc_iload_n C (pc' := 52) 1 dX4_simulate_51 rfl rfl ?_
    refine lc_icmp_ge C (pc' := 55) (tgt := 133) dX4_simulate_52 (by decide) rfl (fun c52 => ?_) (fun c52 => ?_)
    · have h := (lc_if2 h).1 c52
      refine lc_aload_n C (pc' := 134) 0 dX4_simulate_133 rfl rfl ?_
      refine lc_g197_now C (pc' := 137) (va_up_self _ _ _) dX4_simulate_134 kf_RX4_7 rfl ?_
      refine lc_iconst C (pc' := 138) (v := (4 : Int32)) dX4_simulate_137 (by decide) rfl ?_
      refine lc_ld198 C (pc' := 139) (jj := 4) (va_up_self _ _ _) (by decide) (by decide) dX4_simulate_138 rfl ?_
      refine lc_iload C (pc' := 141) 2 dX4_simulate_139 rfl rfl ?_
      refine lc_isub C (pc' := 142) dX4_simulate_141 rfl ?_
      obtain ⟨x4_142, e4_142, h⟩ := lc_let2 h
      rw [e4_142]
      refine lc_istore C (pc' := 144) (lo' := [(4, .int x4_142), (0, .ref (lc_ad S 197)), (3, .int x3), (5, .int x5), (6, .long x6), (8, .int x8)]) dX4_simulate_142 (Nat.le_of_ble_eq_true rfl) rfl rfl ?_
      refine lc_aload_n C (pc' := 145) 1 dX4_simulate_144 rfl rfl ?_
      obtain ⟨s3, h145, h⟩ := lc_bde h
      refine lc_cvv C (pc' := 148) (M' := (va_up M 22 s3)) (As := []) (rest := []) (c_X4_putBack S X.2.1 M    s s3 h145) kl_RX4_157 (lc_at197 S _) rfl rfl rfl rfl (Nat.le_of_ble_eq_true rfl) ⟨Nat.le_of_ble_eq_true rfl, Nat.le_of_ble_eq_true rfl⟩ ⟨rfl, rfl⟩ (lc_z2 _ _) dX4_simulate_145 rfl ?_
      refine lc_ldc C (pc' := 150) (v := (100000 : Int32)) dX4_simulate_148 kc_RX4_227 rfl ?_
      refine lc_iload C (pc' := 152) 3 dX4_simulate_150 rfl rfl ?_
      obtain ⟨r152, h152, h⟩ := lc_bde h
      refine lc_csi C (pc' := 155) (r := r152) (M' := (va_up M 22 s3)) (As := [.int x5]) (rest := [.int (100000 : Int32)]) (c_X4_bits S X.2.1 (va_up M 22 s3)   x5  r152 h152) kl_RX4_211 rfl rfl (Nat.le_of_ble_eq_true rfl) ⟨Nat.le_of_ble_eq_true rfl, Nat.le_of_ble_eq_true rfl⟩ ⟨rfl, rfl⟩ (lc_z2 _ _) dX4_simulate_152 rfl ?_
      refine lc_imul C (pc' := 156) dX4_simulate_155 rfl ?_
      refine lc_iload C (pc' := 158) 0 dX4_simulate_156 rfl rfl ?_
      refine lc_iadd C (pc' := 159) dX4_simulate_158 rfl ?_
      obtain rfl := Option.some.inj h
      exact lc_iret C rfl dX4_simulate_159
    · have h := (lc_if2 h).2 c52
      refine lc_lload C (pc' := 57) 4 dX4_simulate_55 rfl rfl ?_
      refine lc_ldc2 C (pc' := 60) (v := (6364136223846793005 : Int64)) dX4_simulate_57 kc_RX4_223 rfl ?_
      refine lc_lmul C (pc' := 61) dX4_simulate_60 rfl ?_
      refine lc_ldc2 C (pc' := 64) (v := (1442695040888963407 : Int64)) dX4_simulate_61 kc_RX4_225 rfl ?_
      refine lc_ladd C (pc' := 65) dX4_simulate_64 rfl ?_
      obtain ⟨x6_65, e6_65, h⟩ := lc_let2 h
      rw [e6_65]
      refine lc_lstore C (pc' := 67) (lo' := [(6, .long x6_65), (0, .ref (lc_ad S 197)), (3, .int x3), (4, .int x4), (5, .int x5), (8, .int x8)]) dX4_simulate_65 (Nat.le_of_ble_eq_true rfl) rfl rfl ?_
      refine lc_lload C (pc' := 69) 0 dX4_simulate_67 rfl rfl ?_
      refine lc_bipush C (pc' := 71) (v := (33 : Int32)) dX4_simulate_69 (by decide) rfl ?_
      refine lc_lushr C (pc' := 72) dX4_simulate_71 rfl ?_
      refine lc_l2i C (pc' := 73) dX4_simulate_72 rfl ?_
      obtain ⟨x9_73, e9_73, h⟩ := lc_let2 h
      rw [e9_73]
      refine lc_istore C (pc' := 75) (lo' := [(9, .int x9_73), (6, .long x6_65), (0, .ref (lc_ad S 197)), (3, .int x3), (4, .int x4), (5, .int x5), (8, .int x8)]) dX4_simulate_73 (Nat.le_of_ble_eq_true rfl) rfl rfl ?_
      refine lc_iconst C (pc' := 76) (v := (1 : Int32)) dX4_simulate_75 (by decide) rfl ?_
      refine lc_iload C (pc' := 78) 0 dX4_simulate_76 rfl rfl ?_
      refine lc_iconst C (pc' := 79) (v := (4 : Int32)) dX4_simulate_78 (by decide) rfl ?_
      refine lc_idiv C (pc' := 80) dX4_simulate_79 (by decide) rfl ?_
      refine lc_bipush C (pc' := 82) (v := (9 : Int32)) dX4_simulate_80 (by decide) rfl ?_
      obtain ⟨y82, ey82, h⟩ := lc_let2 h
      rw [ey82]
      refine lc_irem C (pc' := 83) dX4_simulate_82 (by decide) rfl ?_
      refine lc_iadd C (pc' := 84) dX4_simulate_83 rfl ?_
      obtain ⟨x10_84, e10_84, h⟩ := lc_let2 h
      rw [e10_84]
      refine lc_istore C (pc' := 86) (lo' := [(10, .int x10_84), (9, .int x9_73), (6, .long x6_65), (0, .ref (lc_ad S 197)), (3, .int x3), (4, .int x4), (5, .int x5), (8, .int x8)]) dX4_simulate_84 (Nat.le_of_ble_eq_true rfl) rfl rfl ?_
      refine lc_iload C (pc' := 88) 1 dX4_simulate_86 rfl rfl ?_
      refine lc_iconst C (pc' := 89) (v := (4 : Int32)) dX4_simulate_88 (by decide) rfl ?_
      refine lc_irem C (pc' := 90) dX4_simulate_89 (by decide) rfl ?_
      refine lc_if_ne C (pc' := 93) (tgt := 103) dX4_simulate_90 (by decide) rfl (fun c90 => ?_) (fun c90 => ?_)
      · have h := (lc_if2 h).2 c90
        refine lc_iload C (pc' := 105) 1 dX4_simulate_103 rfl rfl ?_
        refine lc_iconst C (pc' := 106) (v := (4 : Int32)) dX4_simulate_105 (by decide) rfl ?_
        refine lc_irem C (pc' := 107) dX4_simulate_106 (by decide) rfl ?_
        refine lc_iconst C (pc' := 108) (v := (3 : Int32)) dX4_simulate_107 (by decide) rfl ?_
        refine lc_icmp_ge C (pc' := 111) (tgt := 118) dX4_simulate_108 (by decide) rfl (fun c108 => ?_) (fun c108 => ?_)
        · have h := (lc_if2 h).1 c108
          refine lc_sub (lo' := [(0, .ref (lc_ad S 197)), (3, .int x3), (4, .int x4), (5, .int x5), (6, .long x6_65), (8, .int x8)]) [3, 4, 5, 6, 2, 7] rfl ?_
          exact w_X4_simulate_118 C   out (fun x3 x4 x5 x6 x8 s => P_X4_simulate_49  n x3 x4 x5 x6 x8 s) ih  x3 x4 x5 x6_65 x8 s h
        · have h := (lc_if2 h).2 c108
          refine lc_aload_n C (pc' := 112) 3 dX4_simulate_111 rfl rfl ?_
          refine lc_iload C (pc' := 114) 0 dX4_simulate_112 rfl rfl ?_
          obtain ⟨r114, s5, h114, h⟩ := lc_bd2e h
          refine lc_cvi C (pc' := 117) (r := r114) (M' := (va_up M 22 s5)) (As := [.int x10_84]) (rest := []) (c_X4_drawn S X.2.1 M   x10_84 s (r114, s5) h114) kl_RX4_193 (lc_at197 S _) rfl rfl rfl rfl (Nat.le_of_ble_eq_true rfl) ⟨Nat.le_of_ble_eq_true rfl, Nat.le_of_ble_eq_true rfl⟩ ⟨rfl, rfl⟩ (lc_z2 _ _) dX4_simulate_114 rfl ?_
          refine lc_pop C (pc' := 118) dX4_simulate_117 rfl rfl ?_
          refine lc_sub (lo' := [(0, .ref (lc_ad S 197)), (3, .int x3), (4, .int x4), (5, .int x5), (6, .long x6_65), (8, .int x8)]) [3, 4, 5, 6, 2, 7] rfl ?_
          exact w_X4_simulate_118 C   out (fun x3 x4 x5 x6 x8 s => P_X4_simulate_49  n x3 x4 x5 x6 x8 s) ih  x3 x4 x5 x6_65 x8 s5 h
      · have h := (lc_if2 h).1 c90
        refine lc_aload_n C (pc' := 94) 3 dX4_simulate_93 rfl rfl ?_
        refine lc_iload C (pc' := 96) 0 dX4_simulate_94 rfl rfl ?_
        obtain ⟨r96, s6, h96, h⟩ := lc_bd2e h
        refine lc_cvi C (pc' := 99) (r := r96) (M' := (va_up M 22 s6)) (As := [.int x10_84]) (rest := []) (c_X4_charges S X.2.1 M   x10_84 s (r96, s6) h96) kl_RX4_190 (lc_at197 S _) rfl rfl rfl rfl (Nat.le_of_ble_eq_true rfl) ⟨Nat.le_of_ble_eq_true rfl, Nat.le_of_ble_eq_true rfl⟩ ⟨rfl, rfl⟩ (lc_z2 _ _) dX4_simulate_96 rfl ?_
        refine lc_pop C (pc' := 100) dX4_simulate_99 rfl rfl ?_
        refine lc_goto C (tgt := 118) dX4_simulate_100 (by decide) ?_
        refine lc_sub (lo' := [(0, .ref (lc_ad S 197)), (3, .int x3), (4, .int x4), (5, .int x5), (6, .long x6_65), (8, .int x8)]) [3, 4, 5, 6, 2, 7] rfl ?_
        exact w_X4_simulate_118 C   out (fun x3 x4 x5 x6 x8 s => P_X4_simulate_49  n x3 x4 x5 x6 x8 s) ih  x3 x4 x5 x6_65 x8 s6 h
def P_X4_simulate_16  (x1 : Int64) (x3 : Int32) (t1 : Int32) (s : lc_St) : Option (Int32 × lc_St) :=
  lc_let (lc_ss s 0 0 t1) (fun s1 => if (s1 0 0) ≤ 0 then lc_bd (P_X4_layPut  s1) (fun s2 => lc_let (s2 1 4) (fun x4_38 => P_X4_simulate_49  lc_FU x3 x4_38 (0 : Int32) x1 (0 : Int32) s2)) else some ((0 : Int32), s1))
set_option maxRecDepth 100000 in
set_option maxHeartbeats 4000000 in
theorem w_X4_simulate_16 {S : lc_Se} {X : lc_X} (C : lc_C X cX4_simulate RX4 11 (some .int) rm_X4_simulate) {M : lc_MM}  (out : Int32 × lc_St)  : ∀ (x1 : Int64) (x3 : Int32) (t1 : Int32) (s : lc_St), P_X4_simulate_16  x1 x3 t1 s = some out → lc_J S X 11 0 0 (lc_QI S X 0 0 out.1 (va_up M 22 out.2)) 16 [(0, .ref (lc_ad S 197)), (1, .long x1), (3, .int x3)] [.int t1, .ref (lc_ad S 197)] (va_up M 22 s) := by
  intro x1 x3 t1 s h
  rw [P_X4_simulate_16] at h
  obtain ⟨s1, es1, h⟩ := lc_let2 h
  refine lc_p197_thrown C (pc' := 19) (M' := (va_up M 22 s1)) (va_up_self _ _ _) es1 (lc_up_up _ _ _ _) dX4_simulate_16 kf_RX4_35 rfl ?_
  refine lc_aload_n C (pc' := 20) 0 dX4_simulate_19 rfl rfl ?_
  refine lc_g197_thrown C (pc' := 23) (va_up_self _ _ _) dX4_simulate_20 kf_RX4_35 rfl ?_
  refine lc_if_le C (pc' := 26) (tgt := 28) dX4_simulate_23 (by decide) rfl (fun c23 => ?_) (fun c23 => ?_)
  · have h := (lc_if2 h).1 c23
    refine lc_aload_n C (pc' := 29) 0 dX4_simulate_28 rfl rfl ?_
    obtain ⟨s2, h29, h⟩ := lc_bde h
    refine lc_cvv C (pc' := 32) (M' := (va_up M 22 s2)) (As := []) (rest := []) (c_X4_layPut S X.2.1 M    s1 s2 h29) kl_RX4_150 (lc_at197 S _) rfl rfl rfl rfl (Nat.le_of_ble_eq_true rfl) ⟨Nat.le_of_ble_eq_true rfl, Nat.le_of_ble_eq_true rfl⟩ ⟨rfl, rfl⟩ (lc_z2 _ _) dX4_simulate_29 rfl ?_
    refine lc_aload_n C (pc' := 33) 0 dX4_simulate_32 rfl rfl ?_
    refine lc_g197_now C (pc' := 36) (va_up_self _ _ _) dX4_simulate_33 kf_RX4_7 rfl ?_
    refine lc_iconst C (pc' := 37) (v := (4 : Int32)) dX4_simulate_36 (by decide) rfl ?_
    refine lc_ld198 C (pc' := 38) (jj := 4) (va_up_self _ _ _) (by decide) (by decide) dX4_simulate_37 rfl ?_
    obtain ⟨x4_38, e4_38, h⟩ := lc_let2 h
    rw [e4_38]
    refine lc_istore C (pc' := 40) (lo' := [(4, .int x4_38), (0, .ref (lc_ad S 197)), (1, .long x1), (3, .int x3)]) dX4_simulate_38 (Nat.le_of_ble_eq_true rfl) rfl rfl ?_
    refine lc_iconst C (pc' := 41) (v := (0 : Int32)) dX4_simulate_40 (by decide) rfl ?_
    refine lc_istore C (pc' := 43) (lo' := [(5, .int (0 : Int32)), (4, .int x4_38), (0, .ref (lc_ad S 197)), (1, .long x1), (3, .int x3)]) dX4_simulate_41 (Nat.le_of_ble_eq_true rfl) rfl rfl ?_
    refine lc_lload_n C (pc' := 44) 3 dX4_simulate_43 rfl rfl ?_
    refine lc_lstore C (pc' := 46) (lo' := [(6, .long x1), (5, .int (0 : Int32)), (4, .int x4_38), (0, .ref (lc_ad S 197)), (1, .long x1), (3, .int x3)]) dX4_simulate_44 (Nat.le_of_ble_eq_true rfl) rfl rfl ?_
    refine lc_iconst C (pc' := 47) (v := (0 : Int32)) dX4_simulate_46 (by decide) rfl ?_
    refine lc_istore C (pc' := 49) (lo' := [(8, .int (0 : Int32)), (6, .long x1), (5, .int (0 : Int32)), (4, .int x4_38), (0, .ref (lc_ad S 197)), (1, .long x1), (3, .int x3)]) dX4_simulate_47 (Nat.le_of_ble_eq_true rfl) rfl rfl ?_
    refine lc_sub (lo' := [(0, .ref (lc_ad S 197)), (3, .int x3), (4, .int x4_38), (5, .int (0 : Int32)), (6, .long x1), (8, .int (0 : Int32))]) [4, 6, 3, 2, 1, 0] rfl ?_
    exact w_X4_simulate_49 C   out  lc_FU x3 x4_38 (0 : Int32) x1 (0 : Int32) s2 h
  · have h := (lc_if2 h).2 c23
    refine lc_iconst C (pc' := 27) (v := (0 : Int32)) dX4_simulate_26 (by decide) rfl ?_
    obtain rfl := Option.some.inj h
    exact lc_iret C rfl dX4_simulate_27
def P_X4_simulate  (x1 : Int64) (x3 : Int32) (s : lc_St) : Option (Int32 × lc_St) :=
  lc_bd (P_X4_in x3 (1 : Int32) (99 : Int32)) (fun r5 => if r5 = 0 then P_X4_simulate_16   x1 x3 (1 : Int32) s else P_X4_simulate_16   x1 x3 (0 : Int32) s)
set_option maxRecDepth 100000 in
set_option maxHeartbeats 4000000 in
theorem c_X4_simulate (S : lc_Se) (l : Launch) (M : lc_MM)  (x1 : Int64) (x3 : Int32) (s : lc_St) (out : Int32 × lc_St) (h : P_X4_simulate x1 x3 s = some out) : lc_MI S l yX4_simulate cX4_simulate 11 (some .int) rm_X4_simulate [.ref (lc_ad S 197), .long x1, .int x3] (va_up M 22 s) out.1 (va_up M 22 out.2) := by
  refine lc_mkI (own := RX4) pn_RX4 rfl (Nat.le_of_ble_eq_true rfl) (lo := [(0, .ref (lc_ad S 197)), (1, .long x1), (3, .int x3)]) rfl (fun X hX C => ?_)
  rw [P_X4_simulate] at h
  refine lc_aload_n C (pc' := 1) 0 dX4_simulate_0 rfl rfl ?_
  refine lc_iload_n C (pc' := 2) 2 dX4_simulate_1 rfl rfl ?_
  refine lc_iconst C (pc' := 3) (v := (1 : Int32)) dX4_simulate_2 (by decide) rfl ?_
  refine lc_bipush C (pc' := 5) (v := (99 : Int32)) dX4_simulate_3 (by decide) rfl ?_
  obtain ⟨r5, h5, h⟩ := lc_bde h
  refine lc_csi C (pc' := 8) (r := r5) (M' := (va_up M 22 s)) (As := [.int x3, .int (1 : Int32), .int (99 : Int32)]) (rest := [.ref (lc_ad S 197)]) (c_X4_in S X.2.1 (va_up M 22 s)   x3 (1 : Int32) (99 : Int32)  r5 h5) kl_RX4_39 rfl rfl (Nat.le_of_ble_eq_true rfl) ⟨Nat.le_of_ble_eq_true rfl, Nat.le_of_ble_eq_true rfl⟩ ⟨rfl, rfl⟩ (lc_z2 _ _) dX4_simulate_5 rfl ?_
  refine lc_if_eq C (pc' := 11) (tgt := 15) dX4_simulate_8 (by decide) rfl (fun c8 => ?_) (fun c8 => ?_)
  · have h := (lc_if2 h).1 c8
    refine lc_iconst C (pc' := 16) (v := (1 : Int32)) dX4_simulate_15 (by decide) rfl ?_
    exact w_X4_simulate_16 C   out   x1 x3 (1 : Int32) s h
  · have h := (lc_if2 h).2 c8
    refine lc_iconst C (pc' := 12) (v := (0 : Int32)) dX4_simulate_11 (by decide) rfl ?_
    refine lc_goto C (tgt := 16) dX4_simulate_12 (by decide) ?_
    exact w_X4_simulate_16 C   out   x1 x3 (0 : Int32) s h
abbrev rm_X4_save : Room := { frames := 2, cells := 0, slots := 0, locals := 44 }
def P_X4_save_29  : Nat → Int32 → Int32 → lc_St → Option (Int32 × lc_St)
  | 0, _, _, _ => none
  | n + 1, x1, x2, s =>
    if (107 : Int32) ≤ x2 then lc_if (lc_ok x1 2) (lc_let (lc_ss s 4 (x1.toNatClampNeg) (vp_nar .boolean (1 : Int32))) (fun s2 => lc_bd (P_X4_allCharge  s2) (fun r66 => some (r66, s2)))) else lc_if (lc_ok x2 107) (lc_if (lc_ok (((107 : Int32) * x1) + x2) 214) (lc_let (lc_ss s 3 ((((107 : Int32) * x1) + x2).toNatClampNeg) (s 1 x2.toNatClampNeg)) (fun s3 => lc_let (x2 + (1 : Int32)) (fun x2_52 => P_X4_save_29  n x1 x2_52 s3))))
set_option maxRecDepth 100000 in
set_option maxHeartbeats 4000000 in
theorem w_X4_save_29 {S : lc_Se} {X : lc_X} (C : lc_C X cX4_save RX4 3 (some .int) rm_X4_save) {M : lc_MM}  (out : Int32 × lc_St)  : ∀ (n : Nat) (x1 : Int32) (x2 : Int32) (s : lc_St), P_X4_save_29  n x1 x2 s = some out → lc_J S X 3 0 0 (lc_QI S X 0 0 out.1 (va_up M 22 out.2)) 29 [(0, .ref (lc_ad S 197)), (1, .int x1), (2, .int x2)] [] (va_up M 22 s) := by
  intro n
  induction n with
  | zero =>
    intro x1 x2 s h
    rw [P_X4_save_29] at h
    cases h
  | succ n ih =>
    intro x1 x2 s h
    rw [P_X4_save_29] at h
    refine lc_iload_n C (pc' := 30) 2 dX4_save_29 rfl rfl ?_
    refine lc_bipush C (pc' := 32) (v := (107 : Int32)) dX4_save_30 (by decide) rfl ?_
    refine lc_icmp_ge C (pc' := 35) (tgt := 58) dX4_save_32 (by decide) rfl (fun c32 => ?_) (fun c32 => ?_)
    · have h := (lc_if2 h).1 c32
      refine lc_aload_n C (pc' := 59) 0 dX4_save_58 rfl rfl ?_
      refine lc_g197_isSaved C (pc' := 62) (va_up_self _ _ _) dX4_save_59 kf_RX4_19 rfl ?_
      refine lc_iload_n C (pc' := 63) 1 dX4_save_62 rfl rfl ?_
      refine lc_iconst C (pc' := 64) (v := (1 : Int32)) dX4_save_63 (by decide) rfl ?_
      obtain ⟨hi64, h⟩ := lc_ife h
      obtain ⟨s2, es2, h⟩ := lc_let2 h
      refine lc_sd201 C (pc' := 65) (jj := x1.toNatClampNeg) (M' := (va_up M 22 s2)) (va_up_self _ _ _) hi64 rfl es2 (lc_up_up _ _ _ _) dX4_save_64 rfl ?_
      refine lc_aload_n C (pc' := 66) 0 dX4_save_65 rfl rfl ?_
      obtain ⟨r66, h66, h⟩ := lc_bde h
      refine lc_cvi C (pc' := 69) (r := r66) (M' := (va_up M 22 s2)) (As := []) (rest := []) (c_X4_allCharge S X.2.1 M    s2 r66 h66) kl_RX4_160 (lc_at197 S _) rfl rfl rfl rfl (Nat.le_of_ble_eq_true rfl) ⟨Nat.le_of_ble_eq_true rfl, Nat.le_of_ble_eq_true rfl⟩ ⟨rfl, rfl⟩ (lc_z2 _ _) dX4_save_66 rfl ?_
      obtain rfl := Option.some.inj h
      exact lc_iret C rfl dX4_save_69
    · have h := (lc_if2 h).2 c32
      refine lc_aload_n C (pc' := 36) 0 dX4_save_35 rfl rfl ?_
      refine lc_g197_slots C (pc' := 39) (va_up_self _ _ _) dX4_save_36 kf_RX4_16 rfl ?_
      refine lc_bipush C (pc' := 41) (v := (107 : Int32)) dX4_save_39 (by decide) rfl ?_
      refine lc_iload_n C (pc' := 42) 1 dX4_save_41 rfl rfl ?_
      refine lc_imul C (pc' := 43) dX4_save_42 rfl ?_
      refine lc_iload_n C (pc' := 44) 2 dX4_save_43 rfl rfl ?_
      refine lc_iadd C (pc' := 45) dX4_save_44 rfl ?_
      refine lc_aload_n C (pc' := 46) 0 dX4_save_45 rfl rfl ?_
      refine lc_g197_now C (pc' := 49) (va_up_self _ _ _) dX4_save_46 kf_RX4_7 rfl ?_
      refine lc_iload_n C (pc' := 50) 2 dX4_save_49 rfl rfl ?_
      obtain ⟨hi50, h⟩ := lc_ife h
      refine lc_ld198 C (pc' := 51) (jj := x2.toNatClampNeg) (va_up_self _ _ _) hi50 rfl dX4_save_50 rfl ?_
      obtain ⟨hi51, h⟩ := lc_ife h
      obtain ⟨s3, es3, h⟩ := lc_let2 h
      refine lc_sd200 C (pc' := 52) (jj := (((107 : Int32) * x1) + x2).toNatClampNeg) (M' := (va_up M 22 s3)) (va_up_self _ _ _) hi51 rfl es3 (lc_up_up _ _ _ _) dX4_save_51 rfl ?_
      obtain ⟨x2_52, e2_52, h⟩ := lc_let2 h
      refine lc_iinc C (pc' := 55) (lo' := [(2, .int x2_52), (0, .ref (lc_ad S 197)), (1, .int x1)]) (q := 2) dX4_save_52 rfl (by rw [← e2_52]; rfl) (Nat.le_of_ble_eq_true rfl) rfl rfl ?_
      refine lc_goto C (tgt := 29) dX4_save_55 (by decide) ?_
      refine lc_sub (lo' := [(0, .ref (lc_ad S 197)), (1, .int x1), (2, .int x2_52)]) [1, 2, 0] rfl ?_
      exact ih x1 x2_52 s3 h
def P_X4_save_15  (x1 : Int32) (t1 : Int32) (s : lc_St) : Option (Int32 × lc_St) :=
  lc_let (lc_ss s 0 0 t1) (fun s1 => if (s1 0 0) ≤ 0 then P_X4_save_29  lc_FU x1 (0 : Int32) s1 else some ((0 : Int32), s1))
set_option maxRecDepth 100000 in
set_option maxHeartbeats 4000000 in
theorem w_X4_save_15 {S : lc_Se} {X : lc_X} (C : lc_C X cX4_save RX4 3 (some .int) rm_X4_save) {M : lc_MM}  (out : Int32 × lc_St)  : ∀ (x1 : Int32) (t1 : Int32) (s : lc_St), P_X4_save_15  x1 t1 s = some out → lc_J S X 3 0 0 (lc_QI S X 0 0 out.1 (va_up M 22 out.2)) 15 [(0, .ref (lc_ad S 197)), (1, .int x1)] [.int t1, .ref (lc_ad S 197)] (va_up M 22 s) := by
  intro x1 t1 s h
  rw [P_X4_save_15] at h
  obtain ⟨s1, es1, h⟩ := lc_let2 h
  refine lc_p197_thrown C (pc' := 18) (M' := (va_up M 22 s1)) (va_up_self _ _ _) es1 (lc_up_up _ _ _ _) dX4_save_15 kf_RX4_35 rfl ?_
  refine lc_aload_n C (pc' := 19) 0 dX4_save_18 rfl rfl ?_
  refine lc_g197_thrown C (pc' := 22) (va_up_self _ _ _) dX4_save_19 kf_RX4_35 rfl ?_
  refine lc_if_le C (pc' := 25) (tgt := 27) dX4_save_22 (by decide) rfl (fun c22 => ?_) (fun c22 => ?_)
  · have h := (lc_if2 h).1 c22
    refine lc_iconst C (pc' := 28) (v := (0 : Int32)) dX4_save_27 (by decide) rfl ?_
    refine lc_istore_n C (pc' := 29) (lo' := [(2, .int (0 : Int32)), (0, .ref (lc_ad S 197)), (1, .int x1)]) dX4_save_28 (Nat.le_of_ble_eq_true rfl) rfl rfl ?_
    refine lc_sub (lo' := [(0, .ref (lc_ad S 197)), (1, .int x1), (2, .int (0 : Int32))]) [1, 2, 0] rfl ?_
    exact w_X4_save_29 C   out  lc_FU x1 (0 : Int32) s1 h
  · have h := (lc_if2 h).2 c22
    refine lc_iconst C (pc' := 26) (v := (0 : Int32)) dX4_save_25 (by decide) rfl ?_
    obtain rfl := Option.some.inj h
    exact lc_iret C rfl dX4_save_26
def P_X4_save  (x1 : Int32) (s : lc_St) : Option (Int32 × lc_St) :=
  lc_bd (P_X4_in x1 (0 : Int32) (1 : Int32)) (fun r4 => if r4 = 0 then P_X4_save_15   x1 (1 : Int32) s else P_X4_save_15   x1 (0 : Int32) s)
set_option maxRecDepth 100000 in
set_option maxHeartbeats 4000000 in
theorem c_X4_save (S : lc_Se) (l : Launch) (M : lc_MM)  (x1 : Int32) (s : lc_St) (out : Int32 × lc_St) (h : P_X4_save x1 s = some out) : lc_MI S l yX4_save cX4_save 3 (some .int) rm_X4_save [.ref (lc_ad S 197), .int x1] (va_up M 22 s) out.1 (va_up M 22 out.2) := by
  refine lc_mkI (own := RX4) pn_RX4 rfl (Nat.le_of_ble_eq_true rfl) (lo := [(0, .ref (lc_ad S 197)), (1, .int x1)]) rfl (fun X hX C => ?_)
  rw [P_X4_save] at h
  refine lc_aload_n C (pc' := 1) 0 dX4_save_0 rfl rfl ?_
  refine lc_iload_n C (pc' := 2) 1 dX4_save_1 rfl rfl ?_
  refine lc_iconst C (pc' := 3) (v := (0 : Int32)) dX4_save_2 (by decide) rfl ?_
  refine lc_iconst C (pc' := 4) (v := (1 : Int32)) dX4_save_3 (by decide) rfl ?_
  obtain ⟨r4, h4, h⟩ := lc_bde h
  refine lc_csi C (pc' := 7) (r := r4) (M' := (va_up M 22 s)) (As := [.int x1, .int (0 : Int32), .int (1 : Int32)]) (rest := [.ref (lc_ad S 197)]) (c_X4_in S X.2.1 (va_up M 22 s)   x1 (0 : Int32) (1 : Int32)  r4 h4) kl_RX4_39 rfl rfl (Nat.le_of_ble_eq_true rfl) ⟨Nat.le_of_ble_eq_true rfl, Nat.le_of_ble_eq_true rfl⟩ ⟨rfl, rfl⟩ (lc_z2 _ _) dX4_save_4 rfl ?_
  refine lc_if_eq C (pc' := 10) (tgt := 14) dX4_save_7 (by decide) rfl (fun c7 => ?_) (fun c7 => ?_)
  · have h := (lc_if2 h).1 c7
    refine lc_iconst C (pc' := 15) (v := (1 : Int32)) dX4_save_14 (by decide) rfl ?_
    exact w_X4_save_15 C   out   x1 (1 : Int32) s h
  · have h := (lc_if2 h).2 c7
    refine lc_iconst C (pc' := 11) (v := (0 : Int32)) dX4_save_10 (by decide) rfl ?_
    refine lc_goto C (tgt := 15) dX4_save_11 (by decide) ?_
    exact w_X4_save_15 C   out   x1 (0 : Int32) s h
abbrev rm_X4_restore : Room := { frames := 2, cells := 0, slots := 0, locals := 44 }
def P_X4_restore_42  : Nat → Int32 → Int32 → lc_St → Option (Int32 × lc_St)
  | 0, _, _, _ => none
  | n + 1, x1, x2, s =>
    if (107 : Int32) ≤ x2 then lc_let (lc_ss s 0 1 (0 : Int32)) (fun s2 => lc_bd (P_X4_allCharge  s2) (fun r77 => some (r77, s2))) else lc_if (lc_ok (((107 : Int32) * x1) + x2) 214) (lc_if (lc_ok x2 107) (lc_let (lc_ss s 1 (x2.toNatClampNeg) (s 3 (((107 : Int32) * x1) + x2).toNatClampNeg)) (fun s3 => lc_let (x2 + (1 : Int32)) (fun x2_65 => P_X4_restore_42  n x1 x2_65 s3))))
set_option maxRecDepth 100000 in
set_option maxHeartbeats 4000000 in
theorem w_X4_restore_42 {S : lc_Se} {X : lc_X} (C : lc_C X cX4_restore RX4 3 (some .int) rm_X4_restore) {M : lc_MM}  (out : Int32 × lc_St)  : ∀ (n : Nat) (x1 : Int32) (x2 : Int32) (s : lc_St), P_X4_restore_42  n x1 x2 s = some out → lc_J S X 3 0 0 (lc_QI S X 0 0 out.1 (va_up M 22 out.2)) 42 [(0, .ref (lc_ad S 197)), (1, .int x1), (2, .int x2)] [] (va_up M 22 s) := by
  intro n
  induction n with
  | zero =>
    intro x1 x2 s h
    rw [P_X4_restore_42] at h
    cases h
  | succ n ih =>
    intro x1 x2 s h
    rw [P_X4_restore_42] at h
    refine lc_iload_n C (pc' := 43) 2 dX4_restore_42 rfl rfl ?_
    refine lc_bipush C (pc' := 45) (v := (107 : Int32)) dX4_restore_43 (by decide) rfl ?_
    refine lc_icmp_ge C (pc' := 48) (tgt := 71) dX4_restore_45 (by decide) rfl (fun c45 => ?_) (fun c45 => ?_)
    · have h := (lc_if2 h).1 c45
      refine lc_aload_n C (pc' := 72) 0 dX4_restore_71 rfl rfl ?_
      refine lc_iconst C (pc' := 73) (v := (0 : Int32)) dX4_restore_72 (by decide) rfl ?_
      obtain ⟨s2, es2, h⟩ := lc_let2 h
      refine lc_p197_acts C (pc' := 76) (M' := (va_up M 22 s2)) (va_up_self _ _ _) es2 (lc_up_up _ _ _ _) dX4_restore_73 kf_RX4_47 rfl ?_
      refine lc_aload_n C (pc' := 77) 0 dX4_restore_76 rfl rfl ?_
      obtain ⟨r77, h77, h⟩ := lc_bde h
      refine lc_cvi C (pc' := 80) (r := r77) (M' := (va_up M 22 s2)) (As := []) (rest := []) (c_X4_allCharge S X.2.1 M    s2 r77 h77) kl_RX4_160 (lc_at197 S _) rfl rfl rfl rfl (Nat.le_of_ble_eq_true rfl) ⟨Nat.le_of_ble_eq_true rfl, Nat.le_of_ble_eq_true rfl⟩ ⟨rfl, rfl⟩ (lc_z2 _ _) dX4_restore_77 rfl ?_
      obtain rfl := Option.some.inj h
      exact lc_iret C rfl dX4_restore_80
    · have h := (lc_if2 h).2 c45
      refine lc_aload_n C (pc' := 49) 0 dX4_restore_48 rfl rfl ?_
      refine lc_g197_now C (pc' := 52) (va_up_self _ _ _) dX4_restore_49 kf_RX4_7 rfl ?_
      refine lc_iload_n C (pc' := 53) 2 dX4_restore_52 rfl rfl ?_
      refine lc_aload_n C (pc' := 54) 0 dX4_restore_53 rfl rfl ?_
      refine lc_g197_slots C (pc' := 57) (va_up_self _ _ _) dX4_restore_54 kf_RX4_16 rfl ?_
      refine lc_bipush C (pc' := 59) (v := (107 : Int32)) dX4_restore_57 (by decide) rfl ?_
      refine lc_iload_n C (pc' := 60) 1 dX4_restore_59 rfl rfl ?_
      refine lc_imul C (pc' := 61) dX4_restore_60 rfl ?_
      refine lc_iload_n C (pc' := 62) 2 dX4_restore_61 rfl rfl ?_
      refine lc_iadd C (pc' := 63) dX4_restore_62 rfl ?_
      obtain ⟨hi63, h⟩ := lc_ife h
      refine lc_ld200 C (pc' := 64) (jj := (((107 : Int32) * x1) + x2).toNatClampNeg) (va_up_self _ _ _) hi63 rfl dX4_restore_63 rfl ?_
      obtain ⟨hi64, h⟩ := lc_ife h
      obtain ⟨s3, es3, h⟩ := lc_let2 h
      refine lc_sd198 C (pc' := 65) (jj := x2.toNatClampNeg) (M' := (va_up M 22 s3)) (va_up_self _ _ _) hi64 rfl es3 (lc_up_up _ _ _ _) dX4_restore_64 rfl ?_
      obtain ⟨x2_65, e2_65, h⟩ := lc_let2 h
      refine lc_iinc C (pc' := 68) (lo' := [(2, .int x2_65), (0, .ref (lc_ad S 197)), (1, .int x1)]) (q := 2) dX4_restore_65 rfl (by rw [← e2_65]; rfl) (Nat.le_of_ble_eq_true rfl) rfl rfl ?_
      refine lc_goto C (tgt := 42) dX4_restore_68 (by decide) ?_
      refine lc_sub (lo' := [(0, .ref (lc_ad S 197)), (1, .int x1), (2, .int x2_65)]) [1, 2, 0] rfl ?_
      exact ih x1 x2_65 s3 h
def P_X4_restore_28  (x1 : Int32) (t1 : Int32) (s : lc_St) : Option (Int32 × lc_St) :=
  lc_let (lc_ss s 0 0 t1) (fun s1 => if (s1 0 0) ≤ 0 then P_X4_restore_42  lc_FU x1 (0 : Int32) s1 else some ((0 : Int32), s1))
set_option maxRecDepth 100000 in
set_option maxHeartbeats 4000000 in
theorem w_X4_restore_28 {S : lc_Se} {X : lc_X} (C : lc_C X cX4_restore RX4 3 (some .int) rm_X4_restore) {M : lc_MM}  (out : Int32 × lc_St)  : ∀ (x1 : Int32) (t1 : Int32) (s : lc_St), P_X4_restore_28  x1 t1 s = some out → lc_J S X 3 0 0 (lc_QI S X 0 0 out.1 (va_up M 22 out.2)) 28 [(0, .ref (lc_ad S 197)), (1, .int x1)] [.int t1, .ref (lc_ad S 197)] (va_up M 22 s) := by
  intro x1 t1 s h
  rw [P_X4_restore_28] at h
  obtain ⟨s1, es1, h⟩ := lc_let2 h
  refine lc_p197_thrown C (pc' := 31) (M' := (va_up M 22 s1)) (va_up_self _ _ _) es1 (lc_up_up _ _ _ _) dX4_restore_28 kf_RX4_35 rfl ?_
  refine lc_aload_n C (pc' := 32) 0 dX4_restore_31 rfl rfl ?_
  refine lc_g197_thrown C (pc' := 35) (va_up_self _ _ _) dX4_restore_32 kf_RX4_35 rfl ?_
  refine lc_if_le C (pc' := 38) (tgt := 40) dX4_restore_35 (by decide) rfl (fun c35 => ?_) (fun c35 => ?_)
  · have h := (lc_if2 h).1 c35
    refine lc_iconst C (pc' := 41) (v := (0 : Int32)) dX4_restore_40 (by decide) rfl ?_
    refine lc_istore_n C (pc' := 42) (lo' := [(2, .int (0 : Int32)), (0, .ref (lc_ad S 197)), (1, .int x1)]) dX4_restore_41 (Nat.le_of_ble_eq_true rfl) rfl rfl ?_
    refine lc_sub (lo' := [(0, .ref (lc_ad S 197)), (1, .int x1), (2, .int (0 : Int32))]) [1, 2, 0] rfl ?_
    exact w_X4_restore_42 C   out  lc_FU x1 (0 : Int32) s1 h
  · have h := (lc_if2 h).2 c35
    refine lc_iconst C (pc' := 39) (v := (0 : Int32)) dX4_restore_38 (by decide) rfl ?_
    obtain rfl := Option.some.inj h
    exact lc_iret C rfl dX4_restore_39
def P_X4_restore  (x1 : Int32) (s : lc_St) : Option (Int32 × lc_St) :=
  lc_bd (P_X4_in x1 (0 : Int32) (1 : Int32)) (fun r4 => if r4 = 0 then P_X4_restore_28   x1 (1 : Int32) s else lc_if (lc_ok x1 2) (if (s 4 x1.toNatClampNeg) = 0 then P_X4_restore_28   x1 (2 : Int32) s else P_X4_restore_28   x1 (0 : Int32) s))
set_option maxRecDepth 100000 in
set_option maxHeartbeats 4000000 in
theorem c_X4_restore (S : lc_Se) (l : Launch) (M : lc_MM)  (x1 : Int32) (s : lc_St) (out : Int32 × lc_St) (h : P_X4_restore x1 s = some out) : lc_MI S l yX4_restore cX4_restore 3 (some .int) rm_X4_restore [.ref (lc_ad S 197), .int x1] (va_up M 22 s) out.1 (va_up M 22 out.2) := by
  refine lc_mkI (own := RX4) pn_RX4 rfl (Nat.le_of_ble_eq_true rfl) (lo := [(0, .ref (lc_ad S 197)), (1, .int x1)]) rfl (fun X hX C => ?_)
  rw [P_X4_restore] at h
  refine lc_aload_n C (pc' := 1) 0 dX4_restore_0 rfl rfl ?_
  refine lc_iload_n C (pc' := 2) 1 dX4_restore_1 rfl rfl ?_
  refine lc_iconst C (pc' := 3) (v := (0 : Int32)) dX4_restore_2 (by decide) rfl ?_
  refine lc_iconst C (pc' := 4) (v := (1 : Int32)) dX4_restore_3 (by decide) rfl ?_
  obtain ⟨r4, h4, h⟩ := lc_bde h
  refine lc_csi C (pc' := 7) (r := r4) (M' := (va_up M 22 s)) (As := [.int x1, .int (0 : Int32), .int (1 : Int32)]) (rest := [.ref (lc_ad S 197)]) (c_X4_in S X.2.1 (va_up M 22 s)   x1 (0 : Int32) (1 : Int32)  r4 h4) kl_RX4_39 rfl rfl (Nat.le_of_ble_eq_true rfl) ⟨Nat.le_of_ble_eq_true rfl, Nat.le_of_ble_eq_true rfl⟩ ⟨rfl, rfl⟩ (lc_z2 _ _) dX4_restore_4 rfl ?_
  refine lc_if_ne C (pc' := 10) (tgt := 14) dX4_restore_7 (by decide) rfl (fun c7 => ?_) (fun c7 => ?_)
  · have h := (lc_if2 h).2 c7
    refine lc_aload_n C (pc' := 15) 0 dX4_restore_14 rfl rfl ?_
    refine lc_g197_isSaved C (pc' := 18) (va_up_self _ _ _) dX4_restore_15 kf_RX4_19 rfl ?_
    refine lc_iload_n C (pc' := 19) 1 dX4_restore_18 rfl rfl ?_
    obtain ⟨hi19, h⟩ := lc_ife h
    refine lc_ld201 C (pc' := 20) (jj := x1.toNatClampNeg) (va_up_self _ _ _) hi19 rfl dX4_restore_19 rfl ?_
    refine lc_if_ne C (pc' := 23) (tgt := 27) dX4_restore_20 (by decide) rfl (fun c20 => ?_) (fun c20 => ?_)
    · have h := (lc_if2 h).2 c20
      refine lc_iconst C (pc' := 28) (v := (0 : Int32)) dX4_restore_27 (by decide) rfl ?_
      exact w_X4_restore_28 C   out   x1 (0 : Int32) s h
    · have h := (lc_if2 h).1 c20
      refine lc_iconst C (pc' := 24) (v := (2 : Int32)) dX4_restore_23 (by decide) rfl ?_
      refine lc_goto C (tgt := 28) dX4_restore_24 (by decide) ?_
      exact w_X4_restore_28 C   out   x1 (2 : Int32) s h
  · have h := (lc_if2 h).1 c7
    refine lc_iconst C (pc' := 11) (v := (1 : Int32)) dX4_restore_10 (by decide) rfl ?_
    refine lc_goto C (tgt := 28) dX4_restore_11 (by decide) ?_
    exact w_X4_restore_28 C   out   x1 (1 : Int32) s h
