abbrev rm_L_low : Room := { frames := 0, cells := 0, slots := 0, locals := 0 }
def P_L_low  (x0 : Int32) (x1 : Int32)  : Option (Int32) :=
  lc_if (¬ x1 = 0) (lc_let (x0 &&& (2147483647 : Int32)) (fun y5 => some (y5 - y5 / x1 * x1)))
set_option maxRecDepth 100000 in
set_option maxHeartbeats 4000000 in
theorem c_L_low (S : lc_Se) (l : Launch) (M : lc_MM)  (x0 : Int32) (x1 : Int32)  (out : Int32) (h : P_L_low x0 x1  = some out) : lc_MI S l yL_low cL_low 2 (some .int) rm_L_low [.int x0, .int x1] M out M := by
  refine lc_mkI (own := RL) pn_RL rfl (Nat.le_of_ble_eq_true rfl) (lo := [(0, .int x0), (1, .int x1)]) rfl (fun X hX C => ?_)
  rw [P_L_low] at h
  refine lc_iload_n C (pc' := 1) 0 dL_low_0 rfl rfl ?_
  refine lc_ldc C (pc' := 3) (v := (2147483647 : Int32)) dL_low_1 kc_RL_8 rfl ?_
  refine lc_iand C (pc' := 4) dL_low_3 rfl ?_
  refine lc_iload_n C (pc' := 5) 1 dL_low_4 rfl rfl ?_
  obtain ⟨hy5, h⟩ := lc_ife h
  obtain ⟨y5, ey5, h⟩ := lc_let2 h
  rw [ey5]
  refine lc_irem C (pc' := 6) dL_low_5 hy5 rfl ?_
  obtain rfl := Option.some.inj h
  exact lc_iret C rfl dL_low_6
abbrev rm_L_lost : Room := { frames := 0, cells := 0, slots := 0, locals := 0 }
def P_L_lost  (x0 : Int32) (x1 : Int32) (x2 : Int32)  : Option (Int32) :=
  if x1 ≤ x2 then some ((x0 * (x2 - x1)) / (20 : Int32)) else some ((x0 * (x1 - x2)) / (20 : Int32))
set_option maxRecDepth 100000 in
set_option maxHeartbeats 4000000 in
theorem c_L_lost (S : lc_Se) (l : Launch) (M : lc_MM)  (x0 : Int32) (x1 : Int32) (x2 : Int32)  (out : Int32) (h : P_L_lost x0 x1 x2  = some out) : lc_MI S l yL_lost cL_lost 3 (some .int) rm_L_lost [.int x0, .int x1, .int x2] M out M := by
  refine lc_mkI (own := RL) pn_RL rfl (Nat.le_of_ble_eq_true rfl) (lo := [(0, .int x0), (1, .int x1), (2, .int x2)]) rfl (fun X hX C => ?_)
  rw [P_L_lost] at h
  refine lc_iload_n C (pc' := 1) 1 dL_lost_0 rfl rfl ?_
  refine lc_iload_n C (pc' := 2) 2 dL_lost_1 rfl rfl ?_
  refine lc_icmp_le C (pc' := 5) (tgt := 16) dL_lost_2 (by decide) rfl (fun c2 => ?_) (fun c2 => ?_)
  · have h := (lc_if2 h).1 c2
    refine lc_iload_n C (pc' := 17) 0 dL_lost_16 rfl rfl ?_
    refine lc_iload_n C (pc' := 18) 2 dL_lost_17 rfl rfl ?_
    refine lc_iload_n C (pc' := 19) 1 dL_lost_18 rfl rfl ?_
    refine lc_isub C (pc' := 20) dL_lost_19 rfl ?_
    refine lc_imul C (pc' := 21) dL_lost_20 rfl ?_
    refine lc_bipush C (pc' := 23) (v := (20 : Int32)) dL_lost_21 (by decide) rfl ?_
    refine lc_idiv C (pc' := 24) dL_lost_23 (by decide) rfl ?_
    obtain rfl := Option.some.inj h
    exact lc_iret C rfl dL_lost_24
  · have h := (lc_if2 h).2 c2
    refine lc_iload_n C (pc' := 6) 0 dL_lost_5 rfl rfl ?_
    refine lc_iload_n C (pc' := 7) 1 dL_lost_6 rfl rfl ?_
    refine lc_iload_n C (pc' := 8) 2 dL_lost_7 rfl rfl ?_
    refine lc_isub C (pc' := 9) dL_lost_8 rfl ?_
    refine lc_imul C (pc' := 10) dL_lost_9 rfl ?_
    refine lc_bipush C (pc' := 12) (v := (20 : Int32)) dL_lost_10 (by decide) rfl ?_
    refine lc_idiv C (pc' := 13) dL_lost_12 (by decide) rfl ?_
    refine lc_goto C (tgt := 24) dL_lost_13 (by decide) ?_
    obtain rfl := Option.some.inj h
    exact lc_iret C rfl dL_lost_24
abbrev rm_L_goes : Room := { frames := 1, cells := 0, slots := 0, locals := 22 }
def P_L_goes  (x2 : Int32) (x3 : Int32) (x4 : Int32) (s : lc_St) : Option (Int32 × lc_St) :=
  lc_bd (P_L_lost x2 x3 x4) (fun r5 => lc_let (x2 - r5) (fun x5_9 => lc_if (lc_ok (((5 : Int32) * x3) + (1 : Int32)) 30) (lc_if (lc_ok (((5 : Int32) * x3) + (1 : Int32)) 30) (lc_let (lc_ss s 1 ((((5 : Int32) * x3) + (1 : Int32)).toNatClampNeg) ((s 1 (((5 : Int32) * x3) + (1 : Int32)).toNatClampNeg) - x2)) (fun s1 => lc_if (lc_ok (((5 : Int32) * x4) + (1 : Int32)) 30) (lc_if (lc_ok (((5 : Int32) * x4) + (1 : Int32)) 30) (lc_let (lc_ss s1 1 ((((5 : Int32) * x4) + (1 : Int32)).toNatClampNeg) ((s1 1 (((5 : Int32) * x4) + (1 : Int32)).toNatClampNeg) + x5_9)) (fun s2 => lc_let (lc_ss s2 0 5 ((s2 0 5) + (x2 - x5_9))) (fun s3 => some (x5_9, s3))))))))))
set_option maxRecDepth 100000 in
set_option maxHeartbeats 4000000 in
theorem c_L_goes (S : lc_Se) (l : Launch) (M : lc_MM)  (x2 : Int32) (x3 : Int32) (x4 : Int32) (s : lc_St) (out : Int32 × lc_St) (h : P_L_goes x2 x3 x4 s = some out) : lc_MI S l yL_goes cL_goes 6 (some .int) rm_L_goes [.ref (lc_ad S 197), .ref (lc_ad S 198), .int x2, .int x3, .int x4] (va_up M 22 s) out.1 (va_up M 22 out.2) := by
  refine lc_mkI (own := RL) pn_RL rfl (Nat.le_of_ble_eq_true rfl) (lo := [(0, .ref (lc_ad S 197)), (1, .ref (lc_ad S 198)), (2, .int x2), (3, .int x3), (4, .int x4)]) rfl (fun X hX C => ?_)
  rw [P_L_goes] at h
  refine lc_iload_n C (pc' := 1) 2 dL_goes_0 rfl rfl ?_
  refine lc_iload_n C (pc' := 2) 2 dL_goes_1 rfl rfl ?_
  refine lc_iload_n C (pc' := 3) 3 dL_goes_2 rfl rfl ?_
  refine lc_iload C (pc' := 5) 4 dL_goes_3 rfl rfl ?_
  obtain ⟨r5, h5, h⟩ := lc_bde h
  refine lc_csi C (pc' := 8) (r := r5) (M' := (va_up M 22 s)) (As := [.int x2, .int x3, .int x4]) (rest := [.int x2]) (c_L_lost S X.2.1 (va_up M 22 s)   x2 x3 x4  r5 h5) kl_RL_42 rfl rfl (Nat.le_of_ble_eq_true rfl) ⟨Nat.le_of_ble_eq_true rfl, Nat.le_of_ble_eq_true rfl⟩ ⟨rfl, rfl⟩ (lc_z2 _ _) dL_goes_5 rfl ?_
  refine lc_isub C (pc' := 9) dL_goes_8 rfl ?_
  obtain ⟨x5_9, e5_9, h⟩ := lc_let2 h
  rw [e5_9]
  refine lc_istore C (pc' := 11) (lo' := [(5, .int x5_9), (0, .ref (lc_ad S 197)), (1, .ref (lc_ad S 198)), (2, .int x2), (3, .int x3), (4, .int x4)]) dL_goes_9 (Nat.le_of_ble_eq_true rfl) rfl rfl ?_
  refine lc_aload_n C (pc' := 12) 2 dL_goes_11 rfl rfl ?_
  refine lc_iconst C (pc' := 13) (v := (5 : Int32)) dL_goes_12 (by decide) rfl ?_
  refine lc_iload_n C (pc' := 14) 4 dL_goes_13 rfl rfl ?_
  refine lc_imul C (pc' := 15) dL_goes_14 rfl ?_
  refine lc_iconst C (pc' := 16) (v := (1 : Int32)) dL_goes_15 (by decide) rfl ?_
  refine lc_iadd C (pc' := 17) dL_goes_16 rfl ?_
  refine lc_dup2 C (pc' := 18) dL_goes_17 rfl rfl rfl ?_
  obtain ⟨hi18, h⟩ := lc_ife h
  refine lc_ld198 C (pc' := 19) (jj := (((5 : Int32) * x3) + (1 : Int32)).toNatClampNeg) (va_up_self _ _ _) hi18 rfl dL_goes_18 rfl ?_
  refine lc_iload_n C (pc' := 20) 3 dL_goes_19 rfl rfl ?_
  refine lc_isub C (pc' := 21) dL_goes_20 rfl ?_
  obtain ⟨hi21, h⟩ := lc_ife h
  obtain ⟨s1, es1, h⟩ := lc_let2 h
  refine lc_sd198 C (pc' := 22) (jj := (((5 : Int32) * x3) + (1 : Int32)).toNatClampNeg) (M' := (va_up M 22 s1)) (va_up_self _ _ _) hi21 rfl es1 (lc_up_up _ _ _ _) dL_goes_21 rfl ?_
  refine lc_aload_n C (pc' := 23) 2 dL_goes_22 rfl rfl ?_
  refine lc_iconst C (pc' := 24) (v := (5 : Int32)) dL_goes_23 (by decide) rfl ?_
  refine lc_iload C (pc' := 26) 5 dL_goes_24 rfl rfl ?_
  refine lc_imul C (pc' := 27) dL_goes_26 rfl ?_
  refine lc_iconst C (pc' := 28) (v := (1 : Int32)) dL_goes_27 (by decide) rfl ?_
  refine lc_iadd C (pc' := 29) dL_goes_28 rfl ?_
  refine lc_dup2 C (pc' := 30) dL_goes_29 rfl rfl rfl ?_
  obtain ⟨hi30, h⟩ := lc_ife h
  refine lc_ld198 C (pc' := 31) (jj := (((5 : Int32) * x4) + (1 : Int32)).toNatClampNeg) (va_up_self _ _ _) hi30 rfl dL_goes_30 rfl ?_
  refine lc_iload C (pc' := 33) 0 dL_goes_31 rfl rfl ?_
  refine lc_iadd C (pc' := 34) dL_goes_33 rfl ?_
  obtain ⟨hi34, h⟩ := lc_ife h
  obtain ⟨s2, es2, h⟩ := lc_let2 h
  refine lc_sd198 C (pc' := 35) (jj := (((5 : Int32) * x4) + (1 : Int32)).toNatClampNeg) (M' := (va_up M 22 s2)) (va_up_self _ _ _) hi34 rfl es2 (lc_up_up _ _ _ _) dL_goes_34 rfl ?_
  refine lc_aload_n C (pc' := 36) 1 dL_goes_35 rfl rfl ?_
  refine lc_iconst C (pc' := 37) (v := (5 : Int32)) dL_goes_36 (by decide) rfl ?_
  refine lc_dup2 C (pc' := 38) dL_goes_37 rfl rfl rfl ?_
  refine lc_ld197 C (pc' := 39) (jj := 5) (va_up_self _ _ _) (by decide) (by decide) dL_goes_38 rfl ?_
  refine lc_iload_n C (pc' := 40) 3 dL_goes_39 rfl rfl ?_
  refine lc_iload C (pc' := 42) 0 dL_goes_40 rfl rfl ?_
  refine lc_isub C (pc' := 43) dL_goes_42 rfl ?_
  refine lc_iadd C (pc' := 44) dL_goes_43 rfl ?_
  obtain ⟨s3, es3, h⟩ := lc_let2 h
  refine lc_sd197 C (pc' := 45) (jj := 5) (M' := (va_up M 22 s3)) (va_up_self _ _ _) (by decide) (by decide) es3 (lc_up_up _ _ _ _) dL_goes_44 rfl ?_
  refine lc_iload C (pc' := 47) 0 dL_goes_45 rfl rfl ?_
  obtain rfl := Option.some.inj h
  exact lc_iret C rfl dL_goes_47
set_option maxRecDepth 100000 in
set_option maxHeartbeats 4000000 in
theorem c_L_Zgoes (S : lc_Se) (l : Launch) (M : lc_MM)  (x2 : Int32) (x3 : Int32) (x4 : Int32) (s : lc_St) (out : Int32 × lc_St) (h : P_L_goes x2 x3 x4 s = some out) : lc_MI S l yL_goes cL_goes 6 (some .int) rm_L_goes [.ref (lc_ad S 200), .ref (lc_ad S 201), .int x2, .int x3, .int x4] (va_up M 23 s) out.1 (va_up M 23 out.2) := by
  refine lc_mkI (own := RL) pn_RL rfl (Nat.le_of_ble_eq_true rfl) (lo := [(0, .ref (lc_ad S 200)), (1, .ref (lc_ad S 201)), (2, .int x2), (3, .int x3), (4, .int x4)]) rfl (fun X hX C => ?_)
  rw [P_L_goes] at h
  refine lc_iload_n C (pc' := 1) 2 dL_goes_0 rfl rfl ?_
  refine lc_iload_n C (pc' := 2) 2 dL_goes_1 rfl rfl ?_
  refine lc_iload_n C (pc' := 3) 3 dL_goes_2 rfl rfl ?_
  refine lc_iload C (pc' := 5) 4 dL_goes_3 rfl rfl ?_
  obtain ⟨r5, h5, h⟩ := lc_bde h
  refine lc_csi C (pc' := 8) (r := r5) (M' := (va_up M 23 s)) (As := [.int x2, .int x3, .int x4]) (rest := [.int x2]) (c_L_lost S X.2.1 (va_up M 23 s)   x2 x3 x4  r5 h5) kl_RL_42 rfl rfl (Nat.le_of_ble_eq_true rfl) ⟨Nat.le_of_ble_eq_true rfl, Nat.le_of_ble_eq_true rfl⟩ ⟨rfl, rfl⟩ (lc_z2 _ _) dL_goes_5 rfl ?_
  refine lc_isub C (pc' := 9) dL_goes_8 rfl ?_
  obtain ⟨x5_9, e5_9, h⟩ := lc_let2 h
  rw [e5_9]
  refine lc_istore C (pc' := 11) (lo' := [(5, .int x5_9), (0, .ref (lc_ad S 200)), (1, .ref (lc_ad S 201)), (2, .int x2), (3, .int x3), (4, .int x4)]) dL_goes_9 (Nat.le_of_ble_eq_true rfl) rfl rfl ?_
  refine lc_aload_n C (pc' := 12) 2 dL_goes_11 rfl rfl ?_
  refine lc_iconst C (pc' := 13) (v := (5 : Int32)) dL_goes_12 (by decide) rfl ?_
  refine lc_iload_n C (pc' := 14) 4 dL_goes_13 rfl rfl ?_
  refine lc_imul C (pc' := 15) dL_goes_14 rfl ?_
  refine lc_iconst C (pc' := 16) (v := (1 : Int32)) dL_goes_15 (by decide) rfl ?_
  refine lc_iadd C (pc' := 17) dL_goes_16 rfl ?_
  refine lc_dup2 C (pc' := 18) dL_goes_17 rfl rfl rfl ?_
  obtain ⟨hi18, h⟩ := lc_ife h
  refine lc_ld201 C (pc' := 19) (jj := (((5 : Int32) * x3) + (1 : Int32)).toNatClampNeg) (va_up_self _ _ _) hi18 rfl dL_goes_18 rfl ?_
  refine lc_iload_n C (pc' := 20) 3 dL_goes_19 rfl rfl ?_
  refine lc_isub C (pc' := 21) dL_goes_20 rfl ?_
  obtain ⟨hi21, h⟩ := lc_ife h
  obtain ⟨s1, es1, h⟩ := lc_let2 h
  refine lc_sd201 C (pc' := 22) (jj := (((5 : Int32) * x3) + (1 : Int32)).toNatClampNeg) (M' := (va_up M 23 s1)) (va_up_self _ _ _) hi21 rfl es1 (lc_up_up _ _ _ _) dL_goes_21 rfl ?_
  refine lc_aload_n C (pc' := 23) 2 dL_goes_22 rfl rfl ?_
  refine lc_iconst C (pc' := 24) (v := (5 : Int32)) dL_goes_23 (by decide) rfl ?_
  refine lc_iload C (pc' := 26) 5 dL_goes_24 rfl rfl ?_
  refine lc_imul C (pc' := 27) dL_goes_26 rfl ?_
  refine lc_iconst C (pc' := 28) (v := (1 : Int32)) dL_goes_27 (by decide) rfl ?_
  refine lc_iadd C (pc' := 29) dL_goes_28 rfl ?_
  refine lc_dup2 C (pc' := 30) dL_goes_29 rfl rfl rfl ?_
  obtain ⟨hi30, h⟩ := lc_ife h
  refine lc_ld201 C (pc' := 31) (jj := (((5 : Int32) * x4) + (1 : Int32)).toNatClampNeg) (va_up_self _ _ _) hi30 rfl dL_goes_30 rfl ?_
  refine lc_iload C (pc' := 33) 0 dL_goes_31 rfl rfl ?_
  refine lc_iadd C (pc' := 34) dL_goes_33 rfl ?_
  obtain ⟨hi34, h⟩ := lc_ife h
  obtain ⟨s2, es2, h⟩ := lc_let2 h
  refine lc_sd201 C (pc' := 35) (jj := (((5 : Int32) * x4) + (1 : Int32)).toNatClampNeg) (M' := (va_up M 23 s2)) (va_up_self _ _ _) hi34 rfl es2 (lc_up_up _ _ _ _) dL_goes_34 rfl ?_
  refine lc_aload_n C (pc' := 36) 1 dL_goes_35 rfl rfl ?_
  refine lc_iconst C (pc' := 37) (v := (5 : Int32)) dL_goes_36 (by decide) rfl ?_
  refine lc_dup2 C (pc' := 38) dL_goes_37 rfl rfl rfl ?_
  refine lc_ld200 C (pc' := 39) (jj := 5) (va_up_self _ _ _) (by decide) (by decide) dL_goes_38 rfl ?_
  refine lc_iload_n C (pc' := 40) 3 dL_goes_39 rfl rfl ?_
  refine lc_iload C (pc' := 42) 0 dL_goes_40 rfl rfl ?_
  refine lc_isub C (pc' := 43) dL_goes_42 rfl ?_
  refine lc_iadd C (pc' := 44) dL_goes_43 rfl ?_
  obtain ⟨s3, es3, h⟩ := lc_let2 h
  refine lc_sd200 C (pc' := 45) (jj := 5) (M' := (va_up M 23 s3)) (va_up_self _ _ _) (by decide) (by decide) es3 (lc_up_up _ _ _ _) dL_goes_44 rfl ?_
  refine lc_iload C (pc' := 47) 0 dL_goes_45 rfl rfl ?_
  obtain rfl := Option.some.inj h
  exact lc_iret C rfl dL_goes_47
abbrev rm_L_lends : Room := { frames := 2, cells := 0, slots := 0, locals := 47 }
def P_L_lends  (x3 : Int32) (x4 : Int32) (x5 : Int32) (x6 : Int32) (s : lc_St) : Option (Int32 × lc_St) :=
  lc_let ((5 : Int32) * (s 0 2)) (fun x7_5 => lc_if (lc_ok x7_5 60) (lc_let (lc_ss s 2 (x7_5.toNatClampNeg) x3) (fun s1 => lc_if (lc_ok (x7_5 + (1 : Int32)) 60) (lc_let (lc_ss s1 2 ((x7_5 + (1 : Int32)).toNatClampNeg) x4) (fun s2 => lc_if (lc_ok (x7_5 + (2 : Int32)) 60) (lc_let (lc_ss s2 2 ((x7_5 + (2 : Int32)).toNatClampNeg) x5) (fun s3 => lc_if (lc_ok (x7_5 + (3 : Int32)) 60) (lc_let (lc_ss s3 2 ((x7_5 + (3 : Int32)).toNatClampNeg) x6) (fun s4 => lc_bd2 (P_L_goes x5 x3 x4 s4) (fun r48 s5 => lc_if (lc_ok (x7_5 + (4 : Int32)) 60) (lc_let (lc_ss s5 2 ((x7_5 + (4 : Int32)).toNatClampNeg) r48) (fun s6 => lc_let (lc_ss s6 0 2 ((s6 0 2) + (1 : Int32))) (fun s7 => lc_if (lc_ok (x7_5 + (4 : Int32)) 60) (some ((s7 2 (x7_5 + (4 : Int32)).toNatClampNeg), s7)))))))))))))))
set_option maxRecDepth 100000 in
set_option maxHeartbeats 4000000 in
theorem c_L_lends (S : lc_Se) (l : Launch) (M : lc_MM)  (x3 : Int32) (x4 : Int32) (x5 : Int32) (x6 : Int32) (s : lc_St) (out : Int32 × lc_St) (h : P_L_lends x3 x4 x5 x6 s = some out) : lc_MI S l yL_lends cL_lends 8 (some .int) rm_L_lends [.ref (lc_ad S 197), .ref (lc_ad S 198), .ref (lc_ad S 199), .int x3, .int x4, .int x5, .int x6] (va_up M 22 s) out.1 (va_up M 22 out.2) := by
  refine lc_mkI (own := RL) pn_RL rfl (Nat.le_of_ble_eq_true rfl) (lo := [(0, .ref (lc_ad S 197)), (1, .ref (lc_ad S 198)), (2, .ref (lc_ad S 199)), (3, .int x3), (4, .int x4), (5, .int x5), (6, .int x6)]) rfl (fun X hX C => ?_)
  rw [P_L_lends] at h
  refine lc_iconst C (pc' := 1) (v := (5 : Int32)) dL_lends_0 (by decide) rfl ?_
  refine lc_aload_n C (pc' := 2) 0 dL_lends_1 rfl rfl ?_
  refine lc_iconst C (pc' := 3) (v := (2 : Int32)) dL_lends_2 (by decide) rfl ?_
  refine lc_ld197 C (pc' := 4) (jj := 2) (va_up_self _ _ _) (by decide) (by decide) dL_lends_3 rfl ?_
  refine lc_imul C (pc' := 5) dL_lends_4 rfl ?_
  obtain ⟨x7_5, e7_5, h⟩ := lc_let2 h
  rw [e7_5]
  refine lc_istore C (pc' := 7) (lo' := [(7, .int x7_5), (0, .ref (lc_ad S 197)), (1, .ref (lc_ad S 198)), (2, .ref (lc_ad S 199)), (3, .int x3), (4, .int x4), (5, .int x5), (6, .int x6)]) dL_lends_5 (Nat.le_of_ble_eq_true rfl) rfl rfl ?_
  refine lc_aload_n C (pc' := 8) 3 dL_lends_7 rfl rfl ?_
  refine lc_iload C (pc' := 10) 0 dL_lends_8 rfl rfl ?_
  refine lc_iload_n C (pc' := 11) 4 dL_lends_10 rfl rfl ?_
  obtain ⟨hi11, h⟩ := lc_ife h
  obtain ⟨s1, es1, h⟩ := lc_let2 h
  refine lc_sd199 C (pc' := 12) (jj := x7_5.toNatClampNeg) (M' := (va_up M 22 s1)) (va_up_self _ _ _) hi11 rfl es1 (lc_up_up _ _ _ _) dL_lends_11 rfl ?_
  refine lc_aload_n C (pc' := 13) 3 dL_lends_12 rfl rfl ?_
  refine lc_iload C (pc' := 15) 0 dL_lends_13 rfl rfl ?_
  refine lc_iconst C (pc' := 16) (v := (1 : Int32)) dL_lends_15 (by decide) rfl ?_
  refine lc_iadd C (pc' := 17) dL_lends_16 rfl ?_
  refine lc_iload C (pc' := 19) 5 dL_lends_17 rfl rfl ?_
  obtain ⟨hi19, h⟩ := lc_ife h
  obtain ⟨s2, es2, h⟩ := lc_let2 h
  refine lc_sd199 C (pc' := 20) (jj := (x7_5 + (1 : Int32)).toNatClampNeg) (M' := (va_up M 22 s2)) (va_up_self _ _ _) hi19 rfl es2 (lc_up_up _ _ _ _) dL_lends_19 rfl ?_
  refine lc_aload_n C (pc' := 21) 3 dL_lends_20 rfl rfl ?_
  refine lc_iload C (pc' := 23) 0 dL_lends_21 rfl rfl ?_
  refine lc_iconst C (pc' := 24) (v := (2 : Int32)) dL_lends_23 (by decide) rfl ?_
  refine lc_iadd C (pc' := 25) dL_lends_24 rfl ?_
  refine lc_iload C (pc' := 27) 6 dL_lends_25 rfl rfl ?_
  obtain ⟨hi27, h⟩ := lc_ife h
  obtain ⟨s3, es3, h⟩ := lc_let2 h
  refine lc_sd199 C (pc' := 28) (jj := (x7_5 + (2 : Int32)).toNatClampNeg) (M' := (va_up M 22 s3)) (va_up_self _ _ _) hi27 rfl es3 (lc_up_up _ _ _ _) dL_lends_27 rfl ?_
  refine lc_aload_n C (pc' := 29) 3 dL_lends_28 rfl rfl ?_
  refine lc_iload C (pc' := 31) 0 dL_lends_29 rfl rfl ?_
  refine lc_iconst C (pc' := 32) (v := (3 : Int32)) dL_lends_31 (by decide) rfl ?_
  refine lc_iadd C (pc' := 33) dL_lends_32 rfl ?_
  refine lc_iload C (pc' := 35) 7 dL_lends_33 rfl rfl ?_
  obtain ⟨hi35, h⟩ := lc_ife h
  obtain ⟨s4, es4, h⟩ := lc_let2 h
  refine lc_sd199 C (pc' := 36) (jj := (x7_5 + (3 : Int32)).toNatClampNeg) (M' := (va_up M 22 s4)) (va_up_self _ _ _) hi35 rfl es4 (lc_up_up _ _ _ _) dL_lends_35 rfl ?_
  refine lc_aload_n C (pc' := 37) 3 dL_lends_36 rfl rfl ?_
  refine lc_iload C (pc' := 39) 0 dL_lends_37 rfl rfl ?_
  refine lc_iconst C (pc' := 40) (v := (4 : Int32)) dL_lends_39 (by decide) rfl ?_
  refine lc_iadd C (pc' := 41) dL_lends_40 rfl ?_
  refine lc_aload_n C (pc' := 42) 1 dL_lends_41 rfl rfl ?_
  refine lc_aload_n C (pc' := 43) 2 dL_lends_42 rfl rfl ?_
  refine lc_iload C (pc' := 45) 6 dL_lends_43 rfl rfl ?_
  refine lc_iload_n C (pc' := 46) 4 dL_lends_45 rfl rfl ?_
  refine lc_iload C (pc' := 48) 5 dL_lends_46 rfl rfl ?_
  obtain ⟨r48, s5, h48, h⟩ := lc_bd2e h
  refine lc_csi C (pc' := 51) (r := r48) (M' := (va_up M 22 s5)) (As := [.ref (lc_ad S 197), .ref (lc_ad S 198), .int x5, .int x3, .int x4]) (rest := [.int (x7_5 + (4 : Int32)), .ref (lc_ad S 199)]) (c_L_goes S X.2.1 M   x5 x3 x4 s4 (r48, s5) h48) kl_RL_47 rfl rfl (Nat.le_of_ble_eq_true rfl) ⟨Nat.le_of_ble_eq_true rfl, Nat.le_of_ble_eq_true rfl⟩ ⟨rfl, rfl⟩ (lc_z2 _ _) dL_lends_48 rfl ?_
  obtain ⟨hi51, h⟩ := lc_ife h
  obtain ⟨s6, es6, h⟩ := lc_let2 h
  refine lc_sd199 C (pc' := 52) (jj := (x7_5 + (4 : Int32)).toNatClampNeg) (M' := (va_up M 22 s6)) (va_up_self _ _ _) hi51 rfl es6 (lc_up_up _ _ _ _) dL_lends_51 rfl ?_
  refine lc_aload_n C (pc' := 53) 1 dL_lends_52 rfl rfl ?_
  refine lc_iconst C (pc' := 54) (v := (2 : Int32)) dL_lends_53 (by decide) rfl ?_
  refine lc_dup2 C (pc' := 55) dL_lends_54 rfl rfl rfl ?_
  refine lc_ld197 C (pc' := 56) (jj := 2) (va_up_self _ _ _) (by decide) (by decide) dL_lends_55 rfl ?_
  refine lc_iconst C (pc' := 57) (v := (1 : Int32)) dL_lends_56 (by decide) rfl ?_
  refine lc_iadd C (pc' := 58) dL_lends_57 rfl ?_
  obtain ⟨s7, es7, h⟩ := lc_let2 h
  refine lc_sd197 C (pc' := 59) (jj := 2) (M' := (va_up M 22 s7)) (va_up_self _ _ _) (by decide) (by decide) es7 (lc_up_up _ _ _ _) dL_lends_58 rfl ?_
  refine lc_aload_n C (pc' := 60) 3 dL_lends_59 rfl rfl ?_
  refine lc_iload C (pc' := 62) 0 dL_lends_60 rfl rfl ?_
  refine lc_iconst C (pc' := 63) (v := (4 : Int32)) dL_lends_62 (by decide) rfl ?_
  refine lc_iadd C (pc' := 64) dL_lends_63 rfl ?_
  obtain ⟨hi64, h⟩ := lc_ife h
  refine lc_ld199 C (pc' := 65) (jj := (x7_5 + (4 : Int32)).toNatClampNeg) (va_up_self _ _ _) hi64 rfl dL_lends_64 rfl ?_
  obtain rfl := Option.some.inj h
  exact lc_iret C rfl dL_lends_65
abbrev rm_L_clears : Room := { frames := 0, cells := 0, slots := 0, locals := 0 }
def P_L_clears_55 (K4 : Int32 → Int32 → lc_St → Option (lc_St)) (x2 : Int32) (x3 : Int32) (s : lc_St) : Option (lc_St) :=
  lc_let (x3 + (1 : Int32)) (fun x3_55 => K4 x2 x3_55 s)
set_option maxRecDepth 100000 in
set_option maxHeartbeats 4000000 in
theorem w_L_clears_55 {S : lc_Se} {X : lc_X} (C : lc_C X cL_clears RL 5 none rm_L_clears) {M : lc_MM}  (out : lc_St) (K4 : Int32 → Int32 → lc_St → Option (lc_St)) (hK4 : ∀ (x2 : Int32) (x3 : Int32) (s : lc_St), K4 x2 x3 s = some out → lc_J S X 5 0 0 (lc_QV S X 0 0 (va_up M 22 out)) 4 [(0, .ref (lc_ad S 197)), (1, .ref (lc_ad S 199)), (2, .int x2), (3, .int x3)] [] (va_up M 22 s)) : ∀ (x2 : Int32) (x3 : Int32) (s : lc_St), P_L_clears_55 K4 x2 x3 s = some out → lc_J S X 5 0 0 (lc_QV S X 0 0 (va_up M 22 out)) 55 [(0, .ref (lc_ad S 197)), (1, .ref (lc_ad S 199)), (2, .int x2), (3, .int x3)] [] (va_up M 22 s) := by
  intro x2 x3 s h
  rw [P_L_clears_55] at h
  obtain ⟨x3_55, e3_55, h⟩ := lc_let2 h
  refine lc_iinc C (pc' := 58) (lo' := [(3, .int x3_55), (0, .ref (lc_ad S 197)), (1, .ref (lc_ad S 199)), (2, .int x2)]) (q := 3) dL_clears_55 rfl (by rw [← e3_55]; rfl) (Nat.le_of_ble_eq_true rfl) rfl rfl ?_
  refine lc_goto C (tgt := 4) dL_clears_58 (by decide) ?_
  refine lc_sub (lo' := [(0, .ref (lc_ad S 197)), (1, .ref (lc_ad S 199)), (2, .int x2), (3, .int x3_55)]) [1, 2, 3, 0] rfl ?_
  exact hK4 x2 x3_55 s h
def P_L_clears_24 (K4 : Int32 → Int32 → lc_St → Option (lc_St)) : Nat → Int32 → Int32 → Int32 → lc_St → Option (lc_St)
  | 0, _, _, _, _ => none
  | n + 1, x2, x3, x4, s =>
    if (5 : Int32) ≤ x4 then lc_let (x2 + (1 : Int32)) (fun x2_52 => P_L_clears_55 K4  x2_52 x3 s) else lc_if (lc_ok (((5 : Int32) * x3) + x4) 60) (lc_if (lc_ok (((5 : Int32) * x2) + x4) 60) (lc_let (lc_ss s 2 ((((5 : Int32) * x2) + x4).toNatClampNeg) (s 2 (((5 : Int32) * x3) + x4).toNatClampNeg)) (fun s2 => lc_let (x4 + (1 : Int32)) (fun x4_46 => P_L_clears_24 K4 n x2 x3 x4_46 s2))))
set_option maxRecDepth 100000 in
set_option maxHeartbeats 4000000 in
theorem w_L_clears_24 {S : lc_Se} {X : lc_X} (C : lc_C X cL_clears RL 5 none rm_L_clears) {M : lc_MM}  (out : lc_St) (K4 : Int32 → Int32 → lc_St → Option (lc_St)) (hK4 : ∀ (x2 : Int32) (x3 : Int32) (s : lc_St), K4 x2 x3 s = some out → lc_J S X 5 0 0 (lc_QV S X 0 0 (va_up M 22 out)) 4 [(0, .ref (lc_ad S 197)), (1, .ref (lc_ad S 199)), (2, .int x2), (3, .int x3)] [] (va_up M 22 s)) : ∀ (n : Nat) (x2 : Int32) (x3 : Int32) (x4 : Int32) (s : lc_St), P_L_clears_24 K4 n x2 x3 x4 s = some out → lc_J S X 5 0 0 (lc_QV S X 0 0 (va_up M 22 out)) 24 [(0, .ref (lc_ad S 197)), (1, .ref (lc_ad S 199)), (2, .int x2), (3, .int x3), (4, .int x4)] [] (va_up M 22 s) := by
  intro n
  induction n with
  | zero =>
    intro x2 x3 x4 s h
    rw [P_L_clears_24] at h
    cases h
  | succ n ih =>
    intro x2 x3 x4 s h
    rw [P_L_clears_24] at h
    refine lc_iload C (pc' := 26) 4 dL_clears_24 rfl rfl ?_
    refine lc_iconst C (pc' := 27) (v := (5 : Int32)) dL_clears_26 (by decide) rfl ?_
    refine lc_icmp_ge C (pc' := 30) (tgt := 52) dL_clears_27 (by decide) rfl (fun c27 => ?_) (fun c27 => ?_)
    · have h := (lc_if2 h).1 c27
      obtain ⟨x2_52, e2_52, h⟩ := lc_let2 h
      refine lc_iinc C (pc' := 55) (lo' := [(2, .int x2_52), (0, .ref (lc_ad S 197)), (1, .ref (lc_ad S 199)), (3, .int x3), (4, .int x4)]) (q := 2) dL_clears_52 rfl (by rw [← e2_52]; rfl) (Nat.le_of_ble_eq_true rfl) rfl rfl ?_
      refine lc_sub (lo' := [(0, .ref (lc_ad S 197)), (1, .ref (lc_ad S 199)), (2, .int x2_52), (3, .int x3)]) [1, 2, 0, 3] rfl ?_
      exact w_L_clears_55 C   out K4 hK4  x2_52 x3 s h
    · have h := (lc_if2 h).2 c27
      refine lc_aload_n C (pc' := 31) 1 dL_clears_30 rfl rfl ?_
      refine lc_iconst C (pc' := 32) (v := (5 : Int32)) dL_clears_31 (by decide) rfl ?_
      refine lc_iload_n C (pc' := 33) 2 dL_clears_32 rfl rfl ?_
      refine lc_imul C (pc' := 34) dL_clears_33 rfl ?_
      refine lc_iload C (pc' := 36) 4 dL_clears_34 rfl rfl ?_
      refine lc_iadd C (pc' := 37) dL_clears_36 rfl ?_
      refine lc_aload_n C (pc' := 38) 1 dL_clears_37 rfl rfl ?_
      refine lc_iconst C (pc' := 39) (v := (5 : Int32)) dL_clears_38 (by decide) rfl ?_
      refine lc_iload_n C (pc' := 40) 3 dL_clears_39 rfl rfl ?_
      refine lc_imul C (pc' := 41) dL_clears_40 rfl ?_
      refine lc_iload C (pc' := 43) 4 dL_clears_41 rfl rfl ?_
      refine lc_iadd C (pc' := 44) dL_clears_43 rfl ?_
      obtain ⟨hi44, h⟩ := lc_ife h
      refine lc_ld199 C (pc' := 45) (jj := (((5 : Int32) * x3) + x4).toNatClampNeg) (va_up_self _ _ _) hi44 rfl dL_clears_44 rfl ?_
      obtain ⟨hi45, h⟩ := lc_ife h
      obtain ⟨s2, es2, h⟩ := lc_let2 h
      refine lc_sd199 C (pc' := 46) (jj := (((5 : Int32) * x2) + x4).toNatClampNeg) (M' := (va_up M 22 s2)) (va_up_self _ _ _) hi45 rfl es2 (lc_up_up _ _ _ _) dL_clears_45 rfl ?_
      obtain ⟨x4_46, e4_46, h⟩ := lc_let2 h
      refine lc_iinc C (pc' := 49) (lo' := [(4, .int x4_46), (0, .ref (lc_ad S 197)), (1, .ref (lc_ad S 199)), (2, .int x2), (3, .int x3)]) (q := 4) dL_clears_46 rfl (by rw [← e4_46]; rfl) (Nat.le_of_ble_eq_true rfl) rfl rfl ?_
      refine lc_goto C (tgt := 24) dL_clears_49 (by decide) ?_
      refine lc_sub (lo' := [(0, .ref (lc_ad S 197)), (1, .ref (lc_ad S 199)), (2, .int x2), (3, .int x3), (4, .int x4_46)]) [1, 2, 3, 4, 0] rfl ?_
      exact ih x2 x3 x4_46 s2 h
def P_L_clears_4  : Nat → Int32 → Int32 → lc_St → Option (lc_St)
  | 0, _, _, _ => none
  | n + 1, x2, x3, s =>
    if (s 0 2) ≤ x3 then lc_let (lc_ss s 0 2 x2) (fun s1 => some s1) else lc_if (lc_ok (((5 : Int32) * x3) + (2 : Int32)) 60) (if (s 2 (((5 : Int32) * x3) + (2 : Int32)).toNatClampNeg) ≤ 0 then P_L_clears_55 (fun x2 x3 s => P_L_clears_4  n x2 x3 s)  x2 x3 s else P_L_clears_24 (fun x2 x3 s => P_L_clears_4  n x2 x3 s) lc_FU x2 x3 (0 : Int32) s)
set_option maxRecDepth 100000 in
set_option maxHeartbeats 4000000 in
theorem w_L_clears_4 {S : lc_Se} {X : lc_X} (C : lc_C X cL_clears RL 5 none rm_L_clears) {M : lc_MM}  (out : lc_St)  : ∀ (n : Nat) (x2 : Int32) (x3 : Int32) (s : lc_St), P_L_clears_4  n x2 x3 s = some out → lc_J S X 5 0 0 (lc_QV S X 0 0 (va_up M 22 out)) 4 [(0, .ref (lc_ad S 197)), (1, .ref (lc_ad S 199)), (2, .int x2), (3, .int x3)] [] (va_up M 22 s) := by
  intro n
  induction n with
  | zero =>
    intro x2 x3 s h
    rw [P_L_clears_4] at h
    cases h
  | succ n ih =>
    intro x2 x3 s h
    rw [P_L_clears_4] at h
    refine lc_iload_n C (pc' := 5) 3 dL_clears_4 rfl rfl ?_
    refine lc_aload_n C (pc' := 6) 0 dL_clears_5 rfl rfl ?_
    refine lc_iconst C (pc' := 7) (v := (2 : Int32)) dL_clears_6 (by decide) rfl ?_
    refine lc_ld197 C (pc' := 8) (jj := 2) (va_up_self _ _ _) (by decide) (by decide) dL_clears_7 rfl ?_
    refine lc_icmp_ge C (pc' := 11) (tgt := 61) dL_clears_8 (by decide) rfl (fun c8 => ?_) (fun c8 => ?_)
    · have h := (lc_if2 h).1 c8
      refine lc_aload_n C (pc' := 62) 0 dL_clears_61 rfl rfl ?_
      refine lc_iconst C (pc' := 63) (v := (2 : Int32)) dL_clears_62 (by decide) rfl ?_
      refine lc_iload_n C (pc' := 64) 2 dL_clears_63 rfl rfl ?_
      obtain ⟨s1, es1, h⟩ := lc_let2 h
      refine lc_sd197 C (pc' := 65) (jj := 2) (M' := (va_up M 22 s1)) (va_up_self _ _ _) (by decide) (by decide) es1 (lc_up_up _ _ _ _) dL_clears_64 rfl ?_
      obtain rfl := Option.some.inj h
      exact lc_vret C rfl dL_clears_65
    · have h := (lc_if2 h).2 c8
      refine lc_aload_n C (pc' := 12) 1 dL_clears_11 rfl rfl ?_
      refine lc_iconst C (pc' := 13) (v := (5 : Int32)) dL_clears_12 (by decide) rfl ?_
      refine lc_iload_n C (pc' := 14) 3 dL_clears_13 rfl rfl ?_
      refine lc_imul C (pc' := 15) dL_clears_14 rfl ?_
      refine lc_iconst C (pc' := 16) (v := (2 : Int32)) dL_clears_15 (by decide) rfl ?_
      refine lc_iadd C (pc' := 17) dL_clears_16 rfl ?_
      obtain ⟨hi17, h⟩ := lc_ife h
      refine lc_ld199 C (pc' := 18) (jj := (((5 : Int32) * x3) + (2 : Int32)).toNatClampNeg) (va_up_self _ _ _) hi17 rfl dL_clears_17 rfl ?_
      refine lc_if_le C (pc' := 21) (tgt := 55) dL_clears_18 (by decide) rfl (fun c18 => ?_) (fun c18 => ?_)
      · have h := (lc_if2 h).1 c18
        exact w_L_clears_55 C   out (fun x2 x3 s => P_L_clears_4  n x2 x3 s) ih  x2 x3 s h
      · have h := (lc_if2 h).2 c18
        refine lc_iconst C (pc' := 22) (v := (0 : Int32)) dL_clears_21 (by decide) rfl ?_
        refine lc_istore C (pc' := 24) (lo' := [(4, .int (0 : Int32)), (0, .ref (lc_ad S 197)), (1, .ref (lc_ad S 199)), (2, .int x2), (3, .int x3)]) dL_clears_22 (Nat.le_of_ble_eq_true rfl) rfl rfl ?_
        refine lc_sub (lo' := [(0, .ref (lc_ad S 197)), (1, .ref (lc_ad S 199)), (2, .int x2), (3, .int x3), (4, .int (0 : Int32))]) [1, 2, 3, 4, 0] rfl ?_
        exact w_L_clears_24 C   out (fun x2 x3 s => P_L_clears_4  n x2 x3 s) ih lc_FU x2 x3 (0 : Int32) s h
def P_L_clears   (s : lc_St) : Option (lc_St) :=
  P_L_clears_4  lc_FU (0 : Int32) (0 : Int32) s
set_option maxRecDepth 100000 in
set_option maxHeartbeats 4000000 in
theorem c_L_clears (S : lc_Se) (l : Launch) (M : lc_MM)   (s : lc_St) (out : lc_St) (h : P_L_clears  s = some out) : lc_MV S l yL_clears cL_clears 5 none rm_L_clears [.ref (lc_ad S 197), .ref (lc_ad S 199)] (va_up M 22 s)  (va_up M 22 out) := by
  refine lc_mkV (own := RL) pn_RL rfl (Nat.le_of_ble_eq_true rfl) (lo := [(0, .ref (lc_ad S 197)), (1, .ref (lc_ad S 199))]) rfl (fun X hX C => ?_)
  rw [P_L_clears] at h
  refine lc_iconst C (pc' := 1) (v := (0 : Int32)) dL_clears_0 (by decide) rfl ?_
  refine lc_istore_n C (pc' := 2) (lo' := [(2, .int (0 : Int32)), (0, .ref (lc_ad S 197)), (1, .ref (lc_ad S 199))]) dL_clears_1 (Nat.le_of_ble_eq_true rfl) rfl rfl ?_
  refine lc_iconst C (pc' := 3) (v := (0 : Int32)) dL_clears_2 (by decide) rfl ?_
  refine lc_istore_n C (pc' := 4) (lo' := [(3, .int (0 : Int32)), (2, .int (0 : Int32)), (0, .ref (lc_ad S 197)), (1, .ref (lc_ad S 199))]) dL_clears_3 (Nat.le_of_ble_eq_true rfl) rfl rfl ?_
  refine lc_sub (lo' := [(0, .ref (lc_ad S 197)), (1, .ref (lc_ad S 199)), (2, .int (0 : Int32)), (3, .int (0 : Int32))]) [2, 3, 1, 0] rfl ?_
  exact w_L_clears_4 C   out  lc_FU (0 : Int32) (0 : Int32) s h
abbrev rm_L_interest : Room := { frames := 0, cells := 0, slots := 0, locals := 0 }
def P_L_interest  (x1 : Int32) (s : lc_St) : Option (Int32) :=
  lc_if (lc_ok (((5 : Int32) * x1) + (2 : Int32)) 60) (lc_if (lc_ok (((5 : Int32) * x1) + (3 : Int32)) 60) (lc_let ((s 2 (((5 : Int32) * x1) + (2 : Int32)).toNatClampNeg) * (s 2 (((5 : Int32) * x1) + (3 : Int32)).toNatClampNeg)) (fun x2_15 => if (x2_15 - x2_15 / (100 : Int32) * (100 : Int32)) = 0 then some (x2_15 / (100 : Int32)) else some ((x2_15 / (100 : Int32)) + (1 : Int32)))))
set_option maxRecDepth 100000 in
set_option maxHeartbeats 4000000 in
theorem c_L_interest (S : lc_Se) (l : Launch) (M : lc_MM)  (x1 : Int32) (s : lc_St) (out : Int32) (h : P_L_interest x1 s = some out) : lc_MI S l yL_interest cL_interest 3 (some .int) rm_L_interest [.ref (lc_ad S 199), .int x1] (va_up M 22 s) out (va_up M 22 s) := by
  refine lc_mkI (own := RL) pn_RL rfl (Nat.le_of_ble_eq_true rfl) (lo := [(0, .ref (lc_ad S 199)), (1, .int x1)]) rfl (fun X hX C => ?_)
  rw [P_L_interest] at h
  refine lc_aload_n C (pc' := 1) 0 dL_interest_0 rfl rfl ?_
  refine lc_iconst C (pc' := 2) (v := (5 : Int32)) dL_interest_1 (by decide) rfl ?_
  refine lc_iload_n C (pc' := 3) 1 dL_interest_2 rfl rfl ?_
  refine lc_imul C (pc' := 4) dL_interest_3 rfl ?_
  refine lc_iconst C (pc' := 5) (v := (2 : Int32)) dL_interest_4 (by decide) rfl ?_
  refine lc_iadd C (pc' := 6) dL_interest_5 rfl ?_
  obtain ⟨hi6, h⟩ := lc_ife h
  refine lc_ld199 C (pc' := 7) (jj := (((5 : Int32) * x1) + (2 : Int32)).toNatClampNeg) (va_up_self _ _ _) hi6 rfl dL_interest_6 rfl ?_
  refine lc_aload_n C (pc' := 8) 0 dL_interest_7 rfl rfl ?_
  refine lc_iconst C (pc' := 9) (v := (5 : Int32)) dL_interest_8 (by decide) rfl ?_
  refine lc_iload_n C (pc' := 10) 1 dL_interest_9 rfl rfl ?_
  refine lc_imul C (pc' := 11) dL_interest_10 rfl ?_
  refine lc_iconst C (pc' := 12) (v := (3 : Int32)) dL_interest_11 (by decide) rfl ?_
  refine lc_iadd C (pc' := 13) dL_interest_12 rfl ?_
  obtain ⟨hi13, h⟩ := lc_ife h
  refine lc_ld199 C (pc' := 14) (jj := (((5 : Int32) * x1) + (3 : Int32)).toNatClampNeg) (va_up_self _ _ _) hi13 rfl dL_interest_13 rfl ?_
  refine lc_imul C (pc' := 15) dL_interest_14 rfl ?_
  obtain ⟨x2_15, e2_15, h⟩ := lc_let2 h
  rw [e2_15]
  refine lc_istore_n C (pc' := 16) (lo' := [(2, .int x2_15), (0, .ref (lc_ad S 199)), (1, .int x1)]) dL_interest_15 (Nat.le_of_ble_eq_true rfl) rfl rfl ?_
  refine lc_iload_n C (pc' := 17) 0 dL_interest_16 rfl rfl ?_
  refine lc_bipush C (pc' := 19) (v := (100 : Int32)) dL_interest_17 (by decide) rfl ?_
  refine lc_irem C (pc' := 20) dL_interest_19 (by decide) rfl ?_
  refine lc_if_ne C (pc' := 23) (tgt := 30) dL_interest_20 (by decide) rfl (fun c20 => ?_) (fun c20 => ?_)
  · have h := (lc_if2 h).2 c20
    refine lc_iload_n C (pc' := 31) 0 dL_interest_30 rfl rfl ?_
    refine lc_bipush C (pc' := 33) (v := (100 : Int32)) dL_interest_31 (by decide) rfl ?_
    refine lc_idiv C (pc' := 34) dL_interest_33 (by decide) rfl ?_
    refine lc_iconst C (pc' := 35) (v := (1 : Int32)) dL_interest_34 (by decide) rfl ?_
    refine lc_iadd C (pc' := 36) dL_interest_35 rfl ?_
    obtain rfl := Option.some.inj h
    exact lc_iret C rfl dL_interest_36
  · have h := (lc_if2 h).1 c20
    refine lc_iload_n C (pc' := 24) 0 dL_interest_23 rfl rfl ?_
    refine lc_bipush C (pc' := 26) (v := (100 : Int32)) dL_interest_24 (by decide) rfl ?_
    refine lc_idiv C (pc' := 27) dL_interest_26 (by decide) rfl ?_
    refine lc_goto C (tgt := 36) dL_interest_27 (by decide) ?_
    obtain rfl := Option.some.inj h
    exact lc_iret C rfl dL_interest_36
abbrev rm_L_owed : Room := { frames := 0, cells := 0, slots := 0, locals := 0 }
def P_L_owed_40 (K6 : Int32 → Int32 → Int32 → Int32 → lc_St → Option (Int32)) (x2 : Int32) (x3 : Int32) (x5 : Int32) (t0 : Int32) (t1 : Int32) (s : lc_St) : Option (Int32) :=
  lc_let (t0 + t1) (fun x4_41 => lc_let (x5 + (1 : Int32)) (fun x5_43 => K6 x2 x3 x4_41 x5_43 s))
set_option maxRecDepth 100000 in
set_option maxHeartbeats 4000000 in
theorem w_L_owed_40 {S : lc_Se} {X : lc_X} (C : lc_C X cL_owed RL 6 (some .int) rm_L_owed) {M : lc_MM}  (out : Int32) (K6 : Int32 → Int32 → Int32 → Int32 → lc_St → Option (Int32)) (hK6 : ∀ (x2 : Int32) (x3 : Int32) (x4 : Int32) (x5 : Int32) (s : lc_St), K6 x2 x3 x4 x5 s = some out → lc_J S X 6 0 0 (lc_QI S X 0 0 out (va_up M 22 s)) 6 [(0, .ref (lc_ad S 197)), (1, .ref (lc_ad S 199)), (2, .int x2), (3, .int x3), (4, .int x4), (5, .int x5)] [] (va_up M 22 s)) : ∀ (x2 : Int32) (x3 : Int32) (x5 : Int32) (t0 : Int32) (t1 : Int32) (s : lc_St), P_L_owed_40 K6 x2 x3 x5 t0 t1 s = some out → lc_J S X 6 0 0 (lc_QI S X 0 0 out (va_up M 22 s)) 40 [(0, .ref (lc_ad S 197)), (1, .ref (lc_ad S 199)), (2, .int x2), (3, .int x3), (5, .int x5)] [.int t1, .int t0] (va_up M 22 s) := by
  intro x2 x3 x5 t0 t1 s h
  rw [P_L_owed_40] at h
  refine lc_iadd C (pc' := 41) dL_owed_40 rfl ?_
  obtain ⟨x4_41, e4_41, h⟩ := lc_let2 h
  rw [e4_41]
  refine lc_istore C (pc' := 43) (lo' := [(4, .int x4_41), (0, .ref (lc_ad S 197)), (1, .ref (lc_ad S 199)), (2, .int x2), (3, .int x3), (5, .int x5)]) dL_owed_41 (Nat.le_of_ble_eq_true rfl) rfl rfl ?_
  obtain ⟨x5_43, e5_43, h⟩ := lc_let2 h
  refine lc_iinc C (pc' := 46) (lo' := [(5, .int x5_43), (4, .int x4_41), (0, .ref (lc_ad S 197)), (1, .ref (lc_ad S 199)), (2, .int x2), (3, .int x3)]) (q := 5) dL_owed_43 rfl (by rw [← e5_43]; rfl) (Nat.le_of_ble_eq_true rfl) rfl rfl ?_
  refine lc_goto C (tgt := 6) dL_owed_46 (by decide) ?_
  refine lc_sub (lo' := [(0, .ref (lc_ad S 197)), (1, .ref (lc_ad S 199)), (2, .int x2), (3, .int x3), (4, .int x4_41), (5, .int x5_43)]) [2, 3, 4, 5, 1, 0] rfl ?_
  exact hK6 x2 x3 x4_41 x5_43 s h
def P_L_owed_6  : Nat → Int32 → Int32 → Int32 → Int32 → lc_St → Option (Int32)
  | 0, _, _, _, _, _ => none
  | n + 1, x2, x3, x4, x5, s =>
    if (s 0 2) ≤ x5 then some x4 else lc_if (lc_ok (((5 : Int32) * x5) + x3) 60) (if (s 2 (((5 : Int32) * x5) + x3).toNatClampNeg) = x2 then lc_if (lc_ok (((5 : Int32) * x5) + (2 : Int32)) 60) (P_L_owed_40 (fun x2 x3 x4 x5 s => P_L_owed_6  n x2 x3 x4 x5 s)  x2 x3 x5 x4 (s 2 (((5 : Int32) * x5) + (2 : Int32)).toNatClampNeg) s) else P_L_owed_40 (fun x2 x3 x4 x5 s => P_L_owed_6  n x2 x3 x4 x5 s)  x2 x3 x5 x4 (0 : Int32) s)
set_option maxRecDepth 100000 in
set_option maxHeartbeats 4000000 in
theorem w_L_owed_6 {S : lc_Se} {X : lc_X} (C : lc_C X cL_owed RL 6 (some .int) rm_L_owed) {M : lc_MM}  (out : Int32)  : ∀ (n : Nat) (x2 : Int32) (x3 : Int32) (x4 : Int32) (x5 : Int32) (s : lc_St), P_L_owed_6  n x2 x3 x4 x5 s = some out → lc_J S X 6 0 0 (lc_QI S X 0 0 out (va_up M 22 s)) 6 [(0, .ref (lc_ad S 197)), (1, .ref (lc_ad S 199)), (2, .int x2), (3, .int x3), (4, .int x4), (5, .int x5)] [] (va_up M 22 s) := by
  intro n
  induction n with
  | zero =>
    intro x2 x3 x4 x5 s h
    rw [P_L_owed_6] at h
    cases h
  | succ n ih =>
    intro x2 x3 x4 x5 s h
    rw [P_L_owed_6] at h
    refine lc_iload C (pc' := 8) 5 dL_owed_6 rfl rfl ?_
    refine lc_aload_n C (pc' := 9) 0 dL_owed_8 rfl rfl ?_
    refine lc_iconst C (pc' := 10) (v := (2 : Int32)) dL_owed_9 (by decide) rfl ?_
    refine lc_ld197 C (pc' := 11) (jj := 2) (va_up_self _ _ _) (by decide) (by decide) dL_owed_10 rfl ?_
    refine lc_icmp_ge C (pc' := 14) (tgt := 49) dL_owed_11 (by decide) rfl (fun c11 => ?_) (fun c11 => ?_)
    · have h := (lc_if2 h).1 c11
      refine lc_iload C (pc' := 51) 4 dL_owed_49 rfl rfl ?_
      obtain rfl := Option.some.inj h
      exact lc_iret C rfl dL_owed_51
    · have h := (lc_if2 h).2 c11
      refine lc_iload C (pc' := 16) 4 dL_owed_14 rfl rfl ?_
      refine lc_aload_n C (pc' := 17) 1 dL_owed_16 rfl rfl ?_
      refine lc_iconst C (pc' := 18) (v := (5 : Int32)) dL_owed_17 (by decide) rfl ?_
      refine lc_iload C (pc' := 20) 5 dL_owed_18 rfl rfl ?_
      refine lc_imul C (pc' := 21) dL_owed_20 rfl ?_
      refine lc_iload_n C (pc' := 22) 3 dL_owed_21 rfl rfl ?_
      refine lc_iadd C (pc' := 23) dL_owed_22 rfl ?_
      obtain ⟨hi23, h⟩ := lc_ife h
      refine lc_ld199 C (pc' := 24) (jj := (((5 : Int32) * x5) + x3).toNatClampNeg) (va_up_self _ _ _) hi23 rfl dL_owed_23 rfl ?_
      refine lc_iload_n C (pc' := 25) 2 dL_owed_24 rfl rfl ?_
      refine lc_icmp_ne C (pc' := 28) (tgt := 39) dL_owed_25 (by decide) rfl (fun c25 => ?_) (fun c25 => ?_)
      · have h := (lc_if2 h).2 c25
        refine lc_iconst C (pc' := 40) (v := (0 : Int32)) dL_owed_39 (by decide) rfl ?_
        refine lc_sub (lo' := [(0, .ref (lc_ad S 197)), (1, .ref (lc_ad S 199)), (2, .int x2), (3, .int x3), (5, .int x5)]) [0, 1, 2, 3, 5] rfl ?_
        exact w_L_owed_40 C   out (fun x2 x3 x4 x5 s => P_L_owed_6  n x2 x3 x4 x5 s) ih  x2 x3 x5 x4 (0 : Int32) s h
      · have h := (lc_if2 h).1 c25
        refine lc_aload_n C (pc' := 29) 1 dL_owed_28 rfl rfl ?_
        refine lc_iconst C (pc' := 30) (v := (5 : Int32)) dL_owed_29 (by decide) rfl ?_
        refine lc_iload C (pc' := 32) 5 dL_owed_30 rfl rfl ?_
        refine lc_imul C (pc' := 33) dL_owed_32 rfl ?_
        refine lc_iconst C (pc' := 34) (v := (2 : Int32)) dL_owed_33 (by decide) rfl ?_
        refine lc_iadd C (pc' := 35) dL_owed_34 rfl ?_
        obtain ⟨hi35, h⟩ := lc_ife h
        refine lc_ld199 C (pc' := 36) (jj := (((5 : Int32) * x5) + (2 : Int32)).toNatClampNeg) (va_up_self _ _ _) hi35 rfl dL_owed_35 rfl ?_
        refine lc_goto C (tgt := 40) dL_owed_36 (by decide) ?_
        refine lc_sub (lo' := [(0, .ref (lc_ad S 197)), (1, .ref (lc_ad S 199)), (2, .int x2), (3, .int x3), (5, .int x5)]) [0, 1, 2, 3, 5] rfl ?_
        exact w_L_owed_40 C   out (fun x2 x3 x4 x5 s => P_L_owed_6  n x2 x3 x4 x5 s) ih  x2 x3 x5 x4 (s 2 (((5 : Int32) * x5) + (2 : Int32)).toNatClampNeg) s h
def P_L_owed  (x2 : Int32) (x3 : Int32) (s : lc_St) : Option (Int32) :=
  P_L_owed_6  lc_FU x2 x3 (0 : Int32) (0 : Int32) s
set_option maxRecDepth 100000 in
set_option maxHeartbeats 4000000 in
theorem c_L_owed (S : lc_Se) (l : Launch) (M : lc_MM)  (x2 : Int32) (x3 : Int32) (s : lc_St) (out : Int32) (h : P_L_owed x2 x3 s = some out) : lc_MI S l yL_owed cL_owed 6 (some .int) rm_L_owed [.ref (lc_ad S 197), .ref (lc_ad S 199), .int x2, .int x3] (va_up M 22 s) out (va_up M 22 s) := by
  refine lc_mkI (own := RL) pn_RL rfl (Nat.le_of_ble_eq_true rfl) (lo := [(0, .ref (lc_ad S 197)), (1, .ref (lc_ad S 199)), (2, .int x2), (3, .int x3)]) rfl (fun X hX C => ?_)
  rw [P_L_owed] at h
  refine lc_iconst C (pc' := 1) (v := (0 : Int32)) dL_owed_0 (by decide) rfl ?_
  refine lc_istore C (pc' := 3) (lo' := [(4, .int (0 : Int32)), (0, .ref (lc_ad S 197)), (1, .ref (lc_ad S 199)), (2, .int x2), (3, .int x3)]) dL_owed_1 (Nat.le_of_ble_eq_true rfl) rfl rfl ?_
  refine lc_iconst C (pc' := 4) (v := (0 : Int32)) dL_owed_3 (by decide) rfl ?_
  refine lc_istore C (pc' := 6) (lo' := [(5, .int (0 : Int32)), (4, .int (0 : Int32)), (0, .ref (lc_ad S 197)), (1, .ref (lc_ad S 199)), (2, .int x2), (3, .int x3)]) dL_owed_4 (Nat.le_of_ble_eq_true rfl) rfl rfl ?_
  refine lc_sub (lo' := [(0, .ref (lc_ad S 197)), (1, .ref (lc_ad S 199)), (2, .int x2), (3, .int x3), (4, .int (0 : Int32)), (5, .int (0 : Int32))]) [2, 3, 4, 5, 1, 0] rfl ?_
  exact w_L_owed_6 C   out  lc_FU x2 x3 (0 : Int32) (0 : Int32) s h
abbrev rm_L_breaks : Room := { frames := 1, cells := 0, slots := 0, locals := 25 }
def P_L_breaks_185 (K131 : Int32 → Int32 → Int32 → Int32 → lc_St → Option (lc_St)) (x3 : Int32) (x4 : Int32) (x6 : Int32) (x7 : Int32) (s : lc_St) : Option (lc_St) :=
  lc_let (x7 + (1 : Int32)) (fun x7_185 => K131 x3 x4 x6 x7_185 s)
set_option maxRecDepth 100000 in
set_option maxHeartbeats 4000000 in
theorem w_L_breaks_185 {S : lc_Se} {X : lc_X} (C : lc_C X cL_breaks RL 11 none rm_L_breaks) {M : lc_MM}  (out : lc_St) (K131 : Int32 → Int32 → Int32 → Int32 → lc_St → Option (lc_St)) (hK131 : ∀ (x3 : Int32) (x4 : Int32) (x6 : Int32) (x7 : Int32) (s : lc_St), K131 x3 x4 x6 x7 s = some out → lc_J S X 11 0 0 (lc_QV S X 0 0 (va_up M 22 out)) 131 [(0, .ref (lc_ad S 197)), (1, .ref (lc_ad S 198)), (2, .ref (lc_ad S 199)), (3, .int x3), (4, .int x4), (6, .int x6), (7, .int x7)] [] (va_up M 22 s)) : ∀ (x3 : Int32) (x4 : Int32) (x6 : Int32) (x7 : Int32) (s : lc_St), P_L_breaks_185 K131 x3 x4 x6 x7 s = some out → lc_J S X 11 0 0 (lc_QV S X 0 0 (va_up M 22 out)) 185 [(0, .ref (lc_ad S 197)), (1, .ref (lc_ad S 198)), (2, .ref (lc_ad S 199)), (3, .int x3), (4, .int x4), (6, .int x6), (7, .int x7)] [] (va_up M 22 s) := by
  intro x3 x4 x6 x7 s h
  rw [P_L_breaks_185] at h
  obtain ⟨x7_185, e7_185, h⟩ := lc_let2 h
  refine lc_iinc C (pc' := 188) (lo' := [(7, .int x7_185), (0, .ref (lc_ad S 197)), (1, .ref (lc_ad S 198)), (2, .ref (lc_ad S 199)), (3, .int x3), (4, .int x4), (6, .int x6)]) (q := 6) dL_breaks_185 rfl (by rw [← e7_185]; rfl) (Nat.le_of_ble_eq_true rfl) rfl rfl ?_
  refine lc_goto C (tgt := 131) dL_breaks_188 (by decide) ?_
  refine lc_sub (lo' := [(0, .ref (lc_ad S 197)), (1, .ref (lc_ad S 198)), (2, .ref (lc_ad S 199)), (3, .int x3), (4, .int x4), (6, .int x6), (7, .int x7_185)]) [1, 2, 3, 4, 5, 6, 0] rfl ?_
  exact hK131 x3 x4 x6 x7_185 s h
def P_L_breaks_161 (K131 : Int32 → Int32 → Int32 → Int32 → lc_St → Option (lc_St)) (x3 : Int32) (x4 : Int32) (x6 : Int32) (x7 : Int32) (s : lc_St) : Option (lc_St) :=
  lc_if (lc_ok (((5 : Int32) * x7) + (2 : Int32)) 60) (lc_let (lc_ss s 0 6 ((s 0 6) + (s 2 (((5 : Int32) * x7) + (2 : Int32)).toNatClampNeg))) (fun s5 => lc_if (lc_ok (((5 : Int32) * x7) + (2 : Int32)) 60) (lc_let (lc_ss s5 2 ((((5 : Int32) * x7) + (2 : Int32)).toNatClampNeg) (0 : Int32)) (fun s6 => P_L_breaks_185 K131  x3 x4 x6 x7 s6))))
set_option maxRecDepth 100000 in
set_option maxHeartbeats 4000000 in
theorem w_L_breaks_161 {S : lc_Se} {X : lc_X} (C : lc_C X cL_breaks RL 11 none rm_L_breaks) {M : lc_MM}  (out : lc_St) (K131 : Int32 → Int32 → Int32 → Int32 → lc_St → Option (lc_St)) (hK131 : ∀ (x3 : Int32) (x4 : Int32) (x6 : Int32) (x7 : Int32) (s : lc_St), K131 x3 x4 x6 x7 s = some out → lc_J S X 11 0 0 (lc_QV S X 0 0 (va_up M 22 out)) 131 [(0, .ref (lc_ad S 197)), (1, .ref (lc_ad S 198)), (2, .ref (lc_ad S 199)), (3, .int x3), (4, .int x4), (6, .int x6), (7, .int x7)] [] (va_up M 22 s)) : ∀ (x3 : Int32) (x4 : Int32) (x6 : Int32) (x7 : Int32) (s : lc_St), P_L_breaks_161 K131 x3 x4 x6 x7 s = some out → lc_J S X 11 0 0 (lc_QV S X 0 0 (va_up M 22 out)) 161 [(0, .ref (lc_ad S 197)), (1, .ref (lc_ad S 198)), (2, .ref (lc_ad S 199)), (3, .int x3), (4, .int x4), (6, .int x6), (7, .int x7)] [] (va_up M 22 s) := by
  intro x3 x4 x6 x7 s h
  rw [P_L_breaks_161] at h
  refine lc_aload_n C (pc' := 162) 0 dL_breaks_161 rfl rfl ?_
  refine lc_bipush C (pc' := 164) (v := (6 : Int32)) dL_breaks_162 (by decide) rfl ?_
  refine lc_dup2 C (pc' := 165) dL_breaks_164 rfl rfl rfl ?_
  refine lc_ld197 C (pc' := 166) (jj := 6) (va_up_self _ _ _) (by decide) (by decide) dL_breaks_165 rfl ?_
  refine lc_aload_n C (pc' := 167) 2 dL_breaks_166 rfl rfl ?_
  refine lc_iconst C (pc' := 168) (v := (5 : Int32)) dL_breaks_167 (by decide) rfl ?_
  refine lc_iload C (pc' := 170) 6 dL_breaks_168 rfl rfl ?_
  refine lc_imul C (pc' := 171) dL_breaks_170 rfl ?_
  refine lc_iconst C (pc' := 172) (v := (2 : Int32)) dL_breaks_171 (by decide) rfl ?_
  refine lc_iadd C (pc' := 173) dL_breaks_172 rfl ?_
  obtain ⟨hi173, h⟩ := lc_ife h
  refine lc_ld199 C (pc' := 174) (jj := (((5 : Int32) * x7) + (2 : Int32)).toNatClampNeg) (va_up_self _ _ _) hi173 rfl dL_breaks_173 rfl ?_
  refine lc_iadd C (pc' := 175) dL_breaks_174 rfl ?_
  obtain ⟨s5, es5, h⟩ := lc_let2 h
  refine lc_sd197 C (pc' := 176) (jj := 6) (M' := (va_up M 22 s5)) (va_up_self _ _ _) (by decide) (by decide) es5 (lc_up_up _ _ _ _) dL_breaks_175 rfl ?_
  refine lc_aload_n C (pc' := 177) 2 dL_breaks_176 rfl rfl ?_
  refine lc_iconst C (pc' := 178) (v := (5 : Int32)) dL_breaks_177 (by decide) rfl ?_
  refine lc_iload C (pc' := 180) 6 dL_breaks_178 rfl rfl ?_
  refine lc_imul C (pc' := 181) dL_breaks_180 rfl ?_
  refine lc_iconst C (pc' := 182) (v := (2 : Int32)) dL_breaks_181 (by decide) rfl ?_
  refine lc_iadd C (pc' := 183) dL_breaks_182 rfl ?_
  refine lc_iconst C (pc' := 184) (v := (0 : Int32)) dL_breaks_183 (by decide) rfl ?_
  obtain ⟨hi184, h⟩ := lc_ife h
  obtain ⟨s6, es6, h⟩ := lc_let2 h
  refine lc_sd199 C (pc' := 185) (jj := (((5 : Int32) * x7) + (2 : Int32)).toNatClampNeg) (M' := (va_up M 22 s6)) (va_up_self _ _ _) hi184 rfl es6 (lc_up_up _ _ _ _) dL_breaks_184 rfl ?_
  exact w_L_breaks_185 C   out K131 hK131  x3 x4 x6 x7 s6 h
def P_L_breaks_131  : Nat → Int32 → Int32 → Int32 → Int32 → lc_St → Option (lc_St)
  | 0, _, _, _, _, _ => none
  | n + 1, x3, x4, x6, x7, s =>
    if (s 0 2) ≤ x7 then lc_bd (P_L_clears  s) (fun s1 => lc_let (lc_ss s1 0 5 ((s1 0 5) + (x4 - x6))) (fun s2 => lc_if (lc_ok (((5 : Int32) * x3) + (1 : Int32)) 30) (lc_let (lc_ss s2 1 ((((5 : Int32) * x3) + (1 : Int32)).toNatClampNeg) (0 : Int32)) (fun s3 => lc_if (lc_ok (((5 : Int32) * x3) + (4 : Int32)) 30) (lc_let (lc_ss s3 1 ((((5 : Int32) * x3) + (4 : Int32)).toNatClampNeg) (1 : Int32)) (fun s4 => some s4)))))) else lc_if (lc_ok ((5 : Int32) * x7) 60) (if (s 2 ((5 : Int32) * x7).toNatClampNeg) = x3 then P_L_breaks_161 (fun x3 x4 x6 x7 s => P_L_breaks_131  n x3 x4 x6 x7 s)  x3 x4 x6 x7 s else lc_if (lc_ok (((5 : Int32) * x7) + (1 : Int32)) 60) (if (s 2 (((5 : Int32) * x7) + (1 : Int32)).toNatClampNeg) = x3 then P_L_breaks_161 (fun x3 x4 x6 x7 s => P_L_breaks_131  n x3 x4 x6 x7 s)  x3 x4 x6 x7 s else P_L_breaks_185 (fun x3 x4 x6 x7 s => P_L_breaks_131  n x3 x4 x6 x7 s)  x3 x4 x6 x7 s))
set_option maxRecDepth 100000 in
set_option maxHeartbeats 4000000 in
theorem w_L_breaks_131 {S : lc_Se} {X : lc_X} (C : lc_C X cL_breaks RL 11 none rm_L_breaks) {M : lc_MM}  (out : lc_St)  : ∀ (n : Nat) (x3 : Int32) (x4 : Int32) (x6 : Int32) (x7 : Int32) (s : lc_St), P_L_breaks_131  n x3 x4 x6 x7 s = some out → lc_J S X 11 0 0 (lc_QV S X 0 0 (va_up M 22 out)) 131 [(0, .ref (lc_ad S 197)), (1, .ref (lc_ad S 198)), (2, .ref (lc_ad S 199)), (3, .int x3), (4, .int x4), (6, .int x6), (7, .int x7)] [] (va_up M 22 s) := by
  intro n
  induction n with
  | zero =>
    intro x3 x4 x6 x7 s h
    rw [P_L_breaks_131] at h
    cases h
  | succ n ih =>
    intro x3 x4 x6 x7 s h
    rw [P_L_breaks_131] at h
    refine lc_iload C (pc' := 133) 6 dL_breaks_131 rfl rfl ?_
    refine lc_aload_n C (pc' := 134) 0 dL_breaks_133 rfl rfl ?_
    refine lc_iconst C (pc' := 135) (v := (2 : Int32)) dL_breaks_134 (by decide) rfl ?_
    refine lc_ld197 C (pc' := 136) (jj := 2) (va_up_self _ _ _) (by decide) (by decide) dL_breaks_135 rfl ?_
    refine lc_icmp_ge C (pc' := 139) (tgt := 191) dL_breaks_136 (by decide) rfl (fun c136 => ?_) (fun c136 => ?_)
    · have h := (lc_if2 h).1 c136
      refine lc_aload_n C (pc' := 192) 0 dL_breaks_191 rfl rfl ?_
      refine lc_aload_n C (pc' := 193) 2 dL_breaks_192 rfl rfl ?_
      obtain ⟨s1, h193, h⟩ := lc_bde h
      refine lc_csv C (pc' := 196) (M' := (va_up M 22 s1)) (As := [.ref (lc_ad S 197), .ref (lc_ad S 199)]) (rest := []) (c_L_clears S X.2.1 M    s s1 h193) kl_RL_55 rfl rfl (Nat.le_of_ble_eq_true rfl) ⟨Nat.le_of_ble_eq_true rfl, Nat.le_of_ble_eq_true rfl⟩ ⟨rfl, rfl⟩ (lc_z2 _ _) dL_breaks_193 rfl ?_
      refine lc_aload_n C (pc' := 197) 0 dL_breaks_196 rfl rfl ?_
      refine lc_iconst C (pc' := 198) (v := (5 : Int32)) dL_breaks_197 (by decide) rfl ?_
      refine lc_dup2 C (pc' := 199) dL_breaks_198 rfl rfl rfl ?_
      refine lc_ld197 C (pc' := 200) (jj := 5) (va_up_self _ _ _) (by decide) (by decide) dL_breaks_199 rfl ?_
      refine lc_iload C (pc' := 202) 4 dL_breaks_200 rfl rfl ?_
      refine lc_iload C (pc' := 204) 5 dL_breaks_202 rfl rfl ?_
      refine lc_isub C (pc' := 205) dL_breaks_204 rfl ?_
      refine lc_iadd C (pc' := 206) dL_breaks_205 rfl ?_
      obtain ⟨s2, es2, h⟩ := lc_let2 h
      refine lc_sd197 C (pc' := 207) (jj := 5) (M' := (va_up M 22 s2)) (va_up_self _ _ _) (by decide) (by decide) es2 (lc_up_up _ _ _ _) dL_breaks_206 rfl ?_
      refine lc_aload_n C (pc' := 208) 1 dL_breaks_207 rfl rfl ?_
      refine lc_iconst C (pc' := 209) (v := (5 : Int32)) dL_breaks_208 (by decide) rfl ?_
      refine lc_iload_n C (pc' := 210) 3 dL_breaks_209 rfl rfl ?_
      refine lc_imul C (pc' := 211) dL_breaks_210 rfl ?_
      refine lc_iconst C (pc' := 212) (v := (1 : Int32)) dL_breaks_211 (by decide) rfl ?_
      refine lc_iadd C (pc' := 213) dL_breaks_212 rfl ?_
      refine lc_iconst C (pc' := 214) (v := (0 : Int32)) dL_breaks_213 (by decide) rfl ?_
      obtain ⟨hi214, h⟩ := lc_ife h
      obtain ⟨s3, es3, h⟩ := lc_let2 h
      refine lc_sd198 C (pc' := 215) (jj := (((5 : Int32) * x3) + (1 : Int32)).toNatClampNeg) (M' := (va_up M 22 s3)) (va_up_self _ _ _) hi214 rfl es3 (lc_up_up _ _ _ _) dL_breaks_214 rfl ?_
      refine lc_aload_n C (pc' := 216) 1 dL_breaks_215 rfl rfl ?_
      refine lc_iconst C (pc' := 217) (v := (5 : Int32)) dL_breaks_216 (by decide) rfl ?_
      refine lc_iload_n C (pc' := 218) 3 dL_breaks_217 rfl rfl ?_
      refine lc_imul C (pc' := 219) dL_breaks_218 rfl ?_
      refine lc_iconst C (pc' := 220) (v := (4 : Int32)) dL_breaks_219 (by decide) rfl ?_
      refine lc_iadd C (pc' := 221) dL_breaks_220 rfl ?_
      refine lc_iconst C (pc' := 222) (v := (1 : Int32)) dL_breaks_221 (by decide) rfl ?_
      obtain ⟨hi222, h⟩ := lc_ife h
      obtain ⟨s4, es4, h⟩ := lc_let2 h
      refine lc_sd198 C (pc' := 223) (jj := (((5 : Int32) * x3) + (4 : Int32)).toNatClampNeg) (M' := (va_up M 22 s4)) (va_up_self _ _ _) hi222 rfl es4 (lc_up_up _ _ _ _) dL_breaks_222 rfl ?_
      obtain rfl := Option.some.inj h
      exact lc_vret C rfl dL_breaks_223
    · have h := (lc_if2 h).2 c136
      refine lc_aload_n C (pc' := 140) 2 dL_breaks_139 rfl rfl ?_
      refine lc_iconst C (pc' := 141) (v := (5 : Int32)) dL_breaks_140 (by decide) rfl ?_
      refine lc_iload C (pc' := 143) 6 dL_breaks_141 rfl rfl ?_
      refine lc_imul C (pc' := 144) dL_breaks_143 rfl ?_
      obtain ⟨hi144, h⟩ := lc_ife h
      refine lc_ld199 C (pc' := 145) (jj := ((5 : Int32) * x7).toNatClampNeg) (va_up_self _ _ _) hi144 rfl dL_breaks_144 rfl ?_
      refine lc_iload_n C (pc' := 146) 3 dL_breaks_145 rfl rfl ?_
      refine lc_icmp_eq C (pc' := 149) (tgt := 161) dL_breaks_146 (by decide) rfl (fun c146 => ?_) (fun c146 => ?_)
      · have h := (lc_if2 h).1 c146
        exact w_L_breaks_161 C   out (fun x3 x4 x6 x7 s => P_L_breaks_131  n x3 x4 x6 x7 s) ih  x3 x4 x6 x7 s h
      · have h := (lc_if2 h).2 c146
        refine lc_aload_n C (pc' := 150) 2 dL_breaks_149 rfl rfl ?_
        refine lc_iconst C (pc' := 151) (v := (5 : Int32)) dL_breaks_150 (by decide) rfl ?_
        refine lc_iload C (pc' := 153) 6 dL_breaks_151 rfl rfl ?_
        refine lc_imul C (pc' := 154) dL_breaks_153 rfl ?_
        refine lc_iconst C (pc' := 155) (v := (1 : Int32)) dL_breaks_154 (by decide) rfl ?_
        refine lc_iadd C (pc' := 156) dL_breaks_155 rfl ?_
        obtain ⟨hi156, h⟩ := lc_ife h
        refine lc_ld199 C (pc' := 157) (jj := (((5 : Int32) * x7) + (1 : Int32)).toNatClampNeg) (va_up_self _ _ _) hi156 rfl dL_breaks_156 rfl ?_
        refine lc_iload_n C (pc' := 158) 3 dL_breaks_157 rfl rfl ?_
        refine lc_icmp_ne C (pc' := 161) (tgt := 185) dL_breaks_158 (by decide) rfl (fun c158 => ?_) (fun c158 => ?_)
        · have h := (lc_if2 h).2 c158
          exact w_L_breaks_185 C   out (fun x3 x4 x6 x7 s => P_L_breaks_131  n x3 x4 x6 x7 s) ih  x3 x4 x6 x7 s h
        · have h := (lc_if2 h).1 c158
          exact w_L_breaks_161 C   out (fun x3 x4 x6 x7 s => P_L_breaks_131  n x3 x4 x6 x7 s) ih  x3 x4 x6 x7 s h
def P_L_breaks_122 (K24 : Int32 → Int32 → Int32 → Int32 → Int32 → lc_St → Option (lc_St)) (x3 : Int32) (x4 : Int32) (x5 : Int32) (x6 : Int32) (x7 : Int32) (s : lc_St) : Option (lc_St) :=
  lc_let (x7 + (1 : Int32)) (fun x7_122 => K24 x3 x4 x5 x6 x7_122 s)
set_option maxRecDepth 100000 in
set_option maxHeartbeats 4000000 in
theorem w_L_breaks_122 {S : lc_Se} {X : lc_X} (C : lc_C X cL_breaks RL 11 none rm_L_breaks) {M : lc_MM}  (out : lc_St) (K24 : Int32 → Int32 → Int32 → Int32 → Int32 → lc_St → Option (lc_St)) (hK24 : ∀ (x3 : Int32) (x4 : Int32) (x5 : Int32) (x6 : Int32) (x7 : Int32) (s : lc_St), K24 x3 x4 x5 x6 x7 s = some out → lc_J S X 11 0 0 (lc_QV S X 0 0 (va_up M 22 out)) 24 [(0, .ref (lc_ad S 197)), (1, .ref (lc_ad S 198)), (2, .ref (lc_ad S 199)), (3, .int x3), (4, .int x4), (5, .int x5), (6, .int x6), (7, .int x7)] [] (va_up M 22 s)) : ∀ (x3 : Int32) (x4 : Int32) (x5 : Int32) (x6 : Int32) (x7 : Int32) (s : lc_St), P_L_breaks_122 K24 x3 x4 x5 x6 x7 s = some out → lc_J S X 11 0 0 (lc_QV S X 0 0 (va_up M 22 out)) 122 [(0, .ref (lc_ad S 197)), (1, .ref (lc_ad S 198)), (2, .ref (lc_ad S 199)), (3, .int x3), (4, .int x4), (5, .int x5), (6, .int x6), (7, .int x7)] [] (va_up M 22 s) := by
  intro x3 x4 x5 x6 x7 s h
  rw [P_L_breaks_122] at h
  obtain ⟨x7_122, e7_122, h⟩ := lc_let2 h
  refine lc_iinc C (pc' := 125) (lo' := [(7, .int x7_122), (0, .ref (lc_ad S 197)), (1, .ref (lc_ad S 198)), (2, .ref (lc_ad S 199)), (3, .int x3), (4, .int x4), (5, .int x5), (6, .int x6)]) (q := 7) dL_breaks_122 rfl (by rw [← e7_122]; rfl) (Nat.le_of_ble_eq_true rfl) rfl rfl ?_
  refine lc_goto C (tgt := 24) dL_breaks_125 (by decide) ?_
  refine lc_sub (lo' := [(0, .ref (lc_ad S 197)), (1, .ref (lc_ad S 198)), (2, .ref (lc_ad S 199)), (3, .int x3), (4, .int x4), (5, .int x5), (6, .int x6), (7, .int x7_122)]) [1, 2, 3, 4, 5, 6, 7, 0] rfl ?_
  exact hK24 x3 x4 x5 x6 x7_122 s h
def P_L_breaks_102 (K24 : Int32 → Int32 → Int32 → Int32 → Int32 → lc_St → Option (lc_St)) (x3 : Int32) (x4 : Int32) (x5 : Int32) (x6 : Int32) (x7 : Int32) (x8 : Int32) (t0 : Int32) (s : lc_St) : Option (lc_St) :=
  lc_if (lc_ok (x8 + (1 : Int32)) 30) (lc_if (lc_ok (x8 + (1 : Int32)) 30) (lc_let (lc_ss s 1 ((x8 + (1 : Int32)).toNatClampNeg) ((s 1 (x8 + (1 : Int32)).toNatClampNeg) + t0)) (fun s7 => lc_let (x6 + t0) (fun x6_120 => P_L_breaks_122 K24  x3 x4 x5 x6_120 x7 s7))))
set_option maxRecDepth 100000 in
set_option maxHeartbeats 4000000 in
theorem w_L_breaks_102 {S : lc_Se} {X : lc_X} (C : lc_C X cL_breaks RL 11 none rm_L_breaks) {M : lc_MM}  (out : lc_St) (K24 : Int32 → Int32 → Int32 → Int32 → Int32 → lc_St → Option (lc_St)) (hK24 : ∀ (x3 : Int32) (x4 : Int32) (x5 : Int32) (x6 : Int32) (x7 : Int32) (s : lc_St), K24 x3 x4 x5 x6 x7 s = some out → lc_J S X 11 0 0 (lc_QV S X 0 0 (va_up M 22 out)) 24 [(0, .ref (lc_ad S 197)), (1, .ref (lc_ad S 198)), (2, .ref (lc_ad S 199)), (3, .int x3), (4, .int x4), (5, .int x5), (6, .int x6), (7, .int x7)] [] (va_up M 22 s)) : ∀ (x3 : Int32) (x4 : Int32) (x5 : Int32) (x6 : Int32) (x7 : Int32) (x8 : Int32) (t0 : Int32) (s : lc_St), P_L_breaks_102 K24 x3 x4 x5 x6 x7 x8 t0 s = some out → lc_J S X 11 0 0 (lc_QV S X 0 0 (va_up M 22 out)) 102 [(0, .ref (lc_ad S 197)), (1, .ref (lc_ad S 198)), (2, .ref (lc_ad S 199)), (3, .int x3), (4, .int x4), (5, .int x5), (6, .int x6), (7, .int x7), (8, .int x8)] [.int t0] (va_up M 22 s) := by
  intro x3 x4 x5 x6 x7 x8 t0 s h
  rw [P_L_breaks_102] at h
  refine lc_istore C (pc' := 104) (lo' := [(10, .int t0), (0, .ref (lc_ad S 197)), (1, .ref (lc_ad S 198)), (2, .ref (lc_ad S 199)), (3, .int x3), (4, .int x4), (5, .int x5), (6, .int x6), (7, .int x7), (8, .int x8)]) dL_breaks_102 (Nat.le_of_ble_eq_true rfl) rfl rfl ?_
  refine lc_aload_n C (pc' := 105) 2 dL_breaks_104 rfl rfl ?_
  refine lc_iload C (pc' := 107) 9 dL_breaks_105 rfl rfl ?_
  refine lc_iconst C (pc' := 108) (v := (1 : Int32)) dL_breaks_107 (by decide) rfl ?_
  refine lc_iadd C (pc' := 109) dL_breaks_108 rfl ?_
  refine lc_dup2 C (pc' := 110) dL_breaks_109 rfl rfl rfl ?_
  obtain ⟨hi110, h⟩ := lc_ife h
  refine lc_ld198 C (pc' := 111) (jj := (x8 + (1 : Int32)).toNatClampNeg) (va_up_self _ _ _) hi110 rfl dL_breaks_110 rfl ?_
  refine lc_iload C (pc' := 113) 0 dL_breaks_111 rfl rfl ?_
  refine lc_iadd C (pc' := 114) dL_breaks_113 rfl ?_
  obtain ⟨hi114, h⟩ := lc_ife h
  obtain ⟨s7, es7, h⟩ := lc_let2 h
  refine lc_sd198 C (pc' := 115) (jj := (x8 + (1 : Int32)).toNatClampNeg) (M' := (va_up M 22 s7)) (va_up_self _ _ _) hi114 rfl es7 (lc_up_up _ _ _ _) dL_breaks_114 rfl ?_
  refine lc_iload C (pc' := 117) 7 dL_breaks_115 rfl rfl ?_
  refine lc_iload C (pc' := 119) 0 dL_breaks_117 rfl rfl ?_
  refine lc_iadd C (pc' := 120) dL_breaks_119 rfl ?_
  obtain ⟨x6_120, e6_120, h⟩ := lc_let2 h
  rw [e6_120]
  refine lc_istore C (pc' := 122) (lo' := [(6, .int x6_120), (10, .int t0), (0, .ref (lc_ad S 197)), (1, .ref (lc_ad S 198)), (2, .ref (lc_ad S 199)), (3, .int x3), (4, .int x4), (5, .int x5), (7, .int x7), (8, .int x8)]) dL_breaks_120 (Nat.le_of_ble_eq_true rfl) rfl rfl ?_
  refine lc_sub (lo' := [(0, .ref (lc_ad S 197)), (1, .ref (lc_ad S 198)), (2, .ref (lc_ad S 199)), (3, .int x3), (4, .int x4), (5, .int x5), (6, .int x6_120), (7, .int x7)]) [2, 3, 4, 5, 6, 7, 0, 8] rfl ?_
  exact w_L_breaks_122 C   out K24 hK24  x3 x4 x5 x6_120 x7 s7 h
def P_L_breaks_24  : Nat → Int32 → Int32 → Int32 → Int32 → Int32 → lc_St → Option (lc_St)
  | 0, _, _, _, _, _, _ => none
  | n + 1, x3, x4, x5, x6, x7, s =>
    if (s 0 2) ≤ x7 then P_L_breaks_131  lc_FU x3 x4 x6 (0 : Int32) s else lc_if (lc_ok (((5 : Int32) * x7) + (1 : Int32)) 60) (if (s 2 (((5 : Int32) * x7) + (1 : Int32)).toNatClampNeg) = x3 then lc_if (lc_ok ((5 : Int32) * x7) 60) (lc_let ((5 : Int32) * (s 2 ((5 : Int32) * x7).toNatClampNeg)) (fun x8_52 => lc_if (lc_ok (((5 : Int32) * x7) + (2 : Int32)) 60) (lc_if (¬ x5 = 0) (lc_let ((x4 * (s 2 (((5 : Int32) * x7) + (2 : Int32)).toNatClampNeg)) / x5) (fun x9_68 => lc_if (lc_ok x8_52 30) (lc_if (lc_ok (x8_52 + (1 : Int32)) 30) (if x9_68 ≤ ((s 1 x8_52.toNatClampNeg) - (s 1 (x8_52 + (1 : Int32)).toNatClampNeg)) then P_L_breaks_102 (fun x3 x4 x5 x6 x7 s => P_L_breaks_24  n x3 x4 x5 x6 x7 s)  x3 x4 x5 x6 x7 x8_52 x9_68 s else lc_if (lc_ok x8_52 30) (lc_if (lc_ok (x8_52 + (1 : Int32)) 30) (P_L_breaks_102 (fun x3 x4 x5 x6 x7 s => P_L_breaks_24  n x3 x4 x5 x6 x7 s)  x3 x4 x5 x6 x7 x8_52 ((s 1 x8_52.toNatClampNeg) - (s 1 (x8_52 + (1 : Int32)).toNatClampNeg)) s))))))))) else P_L_breaks_122 (fun x3 x4 x5 x6 x7 s => P_L_breaks_24  n x3 x4 x5 x6 x7 s)  x3 x4 x5 x6 x7 s)
set_option maxRecDepth 100000 in
set_option maxHeartbeats 4000000 in
theorem w_L_breaks_24 {S : lc_Se} {X : lc_X} (C : lc_C X cL_breaks RL 11 none rm_L_breaks) {M : lc_MM}  (out : lc_St)  : ∀ (n : Nat) (x3 : Int32) (x4 : Int32) (x5 : Int32) (x6 : Int32) (x7 : Int32) (s : lc_St), P_L_breaks_24  n x3 x4 x5 x6 x7 s = some out → lc_J S X 11 0 0 (lc_QV S X 0 0 (va_up M 22 out)) 24 [(0, .ref (lc_ad S 197)), (1, .ref (lc_ad S 198)), (2, .ref (lc_ad S 199)), (3, .int x3), (4, .int x4), (5, .int x5), (6, .int x6), (7, .int x7)] [] (va_up M 22 s) := by
  intro n
  induction n with
  | zero =>
    intro x3 x4 x5 x6 x7 s h
    rw [P_L_breaks_24] at h
    cases h
  | succ n ih =>
    intro x3 x4 x5 x6 x7 s h
    rw [P_L_breaks_24] at h
    refine lc_iload C (pc' := 26) 7 dL_breaks_24 rfl rfl ?_
    refine lc_aload_n C (pc' := 27) 0 dL_breaks_26 rfl rfl ?_
    refine lc_iconst C (pc' := 28) (v := (2 : Int32)) dL_breaks_27 (by decide) rfl ?_
    refine lc_ld197 C (pc' := 29) (jj := 2) (va_up_self _ _ _) (by decide) (by decide) dL_breaks_28 rfl ?_
    refine lc_icmp_ge C (pc' := 32) (tgt := 128) dL_breaks_29 (by decide) rfl (fun c29 => ?_) (fun c29 => ?_)
    · have h := (lc_if2 h).1 c29
      refine lc_iconst C (pc' := 129) (v := (0 : Int32)) dL_breaks_128 (by decide) rfl ?_
      refine lc_istore C (pc' := 131) (lo' := [(7, .int (0 : Int32)), (0, .ref (lc_ad S 197)), (1, .ref (lc_ad S 198)), (2, .ref (lc_ad S 199)), (3, .int x3), (4, .int x4), (5, .int x5), (6, .int x6)]) dL_breaks_129 (Nat.le_of_ble_eq_true rfl) rfl rfl ?_
      refine lc_sub (lo' := [(0, .ref (lc_ad S 197)), (1, .ref (lc_ad S 198)), (2, .ref (lc_ad S 199)), (3, .int x3), (4, .int x4), (6, .int x6), (7, .int (0 : Int32))]) [1, 2, 3, 4, 5, 7, 0] rfl ?_
      exact w_L_breaks_131 C   out  lc_FU x3 x4 x6 (0 : Int32) s h
    · have h := (lc_if2 h).2 c29
      refine lc_aload_n C (pc' := 33) 2 dL_breaks_32 rfl rfl ?_
      refine lc_iconst C (pc' := 34) (v := (5 : Int32)) dL_breaks_33 (by decide) rfl ?_
      refine lc_iload C (pc' := 36) 7 dL_breaks_34 rfl rfl ?_
      refine lc_imul C (pc' := 37) dL_breaks_36 rfl ?_
      refine lc_iconst C (pc' := 38) (v := (1 : Int32)) dL_breaks_37 (by decide) rfl ?_
      refine lc_iadd C (pc' := 39) dL_breaks_38 rfl ?_
      obtain ⟨hi39, h⟩ := lc_ife h
      refine lc_ld199 C (pc' := 40) (jj := (((5 : Int32) * x7) + (1 : Int32)).toNatClampNeg) (va_up_self _ _ _) hi39 rfl dL_breaks_39 rfl ?_
      refine lc_iload_n C (pc' := 41) 3 dL_breaks_40 rfl rfl ?_
      refine lc_icmp_ne C (pc' := 44) (tgt := 122) dL_breaks_41 (by decide) rfl (fun c41 => ?_) (fun c41 => ?_)
      · have h := (lc_if2 h).2 c41
        exact w_L_breaks_122 C   out (fun x3 x4 x5 x6 x7 s => P_L_breaks_24  n x3 x4 x5 x6 x7 s) ih  x3 x4 x5 x6 x7 s h
      · have h := (lc_if2 h).1 c41
        refine lc_iconst C (pc' := 45) (v := (5 : Int32)) dL_breaks_44 (by decide) rfl ?_
        refine lc_aload_n C (pc' := 46) 2 dL_breaks_45 rfl rfl ?_
        refine lc_iconst C (pc' := 47) (v := (5 : Int32)) dL_breaks_46 (by decide) rfl ?_
        refine lc_iload C (pc' := 49) 7 dL_breaks_47 rfl rfl ?_
        refine lc_imul C (pc' := 50) dL_breaks_49 rfl ?_
        obtain ⟨hi50, h⟩ := lc_ife h
        refine lc_ld199 C (pc' := 51) (jj := ((5 : Int32) * x7).toNatClampNeg) (va_up_self _ _ _) hi50 rfl dL_breaks_50 rfl ?_
        refine lc_imul C (pc' := 52) dL_breaks_51 rfl ?_
        obtain ⟨x8_52, e8_52, h⟩ := lc_let2 h
        rw [e8_52]
        refine lc_istore C (pc' := 54) (lo' := [(8, .int x8_52), (0, .ref (lc_ad S 197)), (1, .ref (lc_ad S 198)), (2, .ref (lc_ad S 199)), (3, .int x3), (4, .int x4), (5, .int x5), (6, .int x6), (7, .int x7)]) dL_breaks_52 (Nat.le_of_ble_eq_true rfl) rfl rfl ?_
        refine lc_iload C (pc' := 56) 5 dL_breaks_54 rfl rfl ?_
        refine lc_aload_n C (pc' := 57) 3 dL_breaks_56 rfl rfl ?_
        refine lc_iconst C (pc' := 58) (v := (5 : Int32)) dL_breaks_57 (by decide) rfl ?_
        refine lc_iload C (pc' := 60) 8 dL_breaks_58 rfl rfl ?_
        refine lc_imul C (pc' := 61) dL_breaks_60 rfl ?_
        refine lc_iconst C (pc' := 62) (v := (2 : Int32)) dL_breaks_61 (by decide) rfl ?_
        refine lc_iadd C (pc' := 63) dL_breaks_62 rfl ?_
        obtain ⟨hi63, h⟩ := lc_ife h
        refine lc_ld199 C (pc' := 64) (jj := (((5 : Int32) * x7) + (2 : Int32)).toNatClampNeg) (va_up_self _ _ _) hi63 rfl dL_breaks_63 rfl ?_
        refine lc_imul C (pc' := 65) dL_breaks_64 rfl ?_
        refine lc_iload C (pc' := 67) 6 dL_breaks_65 rfl rfl ?_
        obtain ⟨hy67, h⟩ := lc_ife h
        refine lc_idiv C (pc' := 68) dL_breaks_67 hy67 rfl ?_
        obtain ⟨x9_68, e9_68, h⟩ := lc_let2 h
        rw [e9_68]
        refine lc_istore C (pc' := 70) (lo' := [(9, .int x9_68), (8, .int x8_52), (0, .ref (lc_ad S 197)), (1, .ref (lc_ad S 198)), (2, .ref (lc_ad S 199)), (3, .int x3), (4, .int x4), (5, .int x5), (6, .int x6), (7, .int x7)]) dL_breaks_68 (Nat.le_of_ble_eq_true rfl) rfl rfl ?_
        refine lc_aload_n C (pc' := 71) 3 dL_breaks_70 rfl rfl ?_
        refine lc_iload C (pc' := 73) 1 dL_breaks_71 rfl rfl ?_
        obtain ⟨hi73, h⟩ := lc_ife h
        refine lc_ld198 C (pc' := 74) (jj := x8_52.toNatClampNeg) (va_up_self _ _ _) hi73 rfl dL_breaks_73 rfl ?_
        refine lc_aload_n C (pc' := 75) 3 dL_breaks_74 rfl rfl ?_
        refine lc_iload C (pc' := 77) 1 dL_breaks_75 rfl rfl ?_
        refine lc_iconst C (pc' := 78) (v := (1 : Int32)) dL_breaks_77 (by decide) rfl ?_
        refine lc_iadd C (pc' := 79) dL_breaks_78 rfl ?_
        obtain ⟨hi79, h⟩ := lc_ife h
        refine lc_ld198 C (pc' := 80) (jj := (x8_52 + (1 : Int32)).toNatClampNeg) (va_up_self _ _ _) hi79 rfl dL_breaks_79 rfl ?_
        refine lc_isub C (pc' := 81) dL_breaks_80 rfl ?_
        refine lc_iload C (pc' := 83) 0 dL_breaks_81 rfl rfl ?_
        refine lc_icmp_ge C (pc' := 86) (tgt := 100) dL_breaks_83 (by decide) rfl (fun c83 => ?_) (fun c83 => ?_)
        · have h := (lc_if2 h).1 c83
          refine lc_iload C (pc' := 102) 0 dL_breaks_100 rfl rfl ?_
          refine lc_sub (lo' := [(0, .ref (lc_ad S 197)), (1, .ref (lc_ad S 198)), (2, .ref (lc_ad S 199)), (3, .int x3), (4, .int x4), (5, .int x5), (6, .int x6), (7, .int x7), (8, .int x8_52)]) [2, 3, 4, 5, 6, 7, 8, 9, 1] rfl ?_
          exact w_L_breaks_102 C   out (fun x3 x4 x5 x6 x7 s => P_L_breaks_24  n x3 x4 x5 x6 x7 s) ih  x3 x4 x5 x6 x7 x8_52 x9_68 s h
        · have h := (lc_if2 h).2 c83
          refine lc_aload_n C (pc' := 87) 3 dL_breaks_86 rfl rfl ?_
          refine lc_iload C (pc' := 89) 1 dL_breaks_87 rfl rfl ?_
          obtain ⟨hi89, h⟩ := lc_ife h
          refine lc_ld198 C (pc' := 90) (jj := x8_52.toNatClampNeg) (va_up_self _ _ _) hi89 rfl dL_breaks_89 rfl ?_
          refine lc_aload_n C (pc' := 91) 3 dL_breaks_90 rfl rfl ?_
          refine lc_iload C (pc' := 93) 1 dL_breaks_91 rfl rfl ?_
          refine lc_iconst C (pc' := 94) (v := (1 : Int32)) dL_breaks_93 (by decide) rfl ?_
          refine lc_iadd C (pc' := 95) dL_breaks_94 rfl ?_
          obtain ⟨hi95, h⟩ := lc_ife h
          refine lc_ld198 C (pc' := 96) (jj := (x8_52 + (1 : Int32)).toNatClampNeg) (va_up_self _ _ _) hi95 rfl dL_breaks_95 rfl ?_
          refine lc_isub C (pc' := 97) dL_breaks_96 rfl ?_
          refine lc_goto C (tgt := 102) dL_breaks_97 (by decide) ?_
          refine lc_sub (lo' := [(0, .ref (lc_ad S 197)), (1, .ref (lc_ad S 198)), (2, .ref (lc_ad S 199)), (3, .int x3), (4, .int x4), (5, .int x5), (6, .int x6), (7, .int x7), (8, .int x8_52)]) [2, 3, 4, 5, 6, 7, 8, 9, 1] rfl ?_
          exact w_L_breaks_102 C   out (fun x3 x4 x5 x6 x7 s => P_L_breaks_24  n x3 x4 x5 x6 x7 s) ih  x3 x4 x5 x6 x7 x8_52 ((s 1 x8_52.toNatClampNeg) - (s 1 (x8_52 + (1 : Int32)).toNatClampNeg)) s h
def P_L_breaks  (x3 : Int32) (s : lc_St) : Option (lc_St) :=
  lc_if (lc_ok (((5 : Int32) * x3) + (1 : Int32)) 30) (lc_let (s 1 (((5 : Int32) * x3) + (1 : Int32)).toNatClampNeg) (fun x4_7 => lc_bd (P_L_owed x3 (1 : Int32) s) (fun r13 => P_L_breaks_24  lc_FU x3 x4_7 r13 (0 : Int32) (0 : Int32) s)))
set_option maxRecDepth 100000 in
set_option maxHeartbeats 4000000 in
theorem c_L_breaks (S : lc_Se) (l : Launch) (M : lc_MM)  (x3 : Int32) (s : lc_St) (out : lc_St) (h : P_L_breaks x3 s = some out) : lc_MV S l yL_breaks cL_breaks 11 none rm_L_breaks [.ref (lc_ad S 197), .ref (lc_ad S 198), .ref (lc_ad S 199), .int x3] (va_up M 22 s)  (va_up M 22 out) := by
  refine lc_mkV (own := RL) pn_RL rfl (Nat.le_of_ble_eq_true rfl) (lo := [(0, .ref (lc_ad S 197)), (1, .ref (lc_ad S 198)), (2, .ref (lc_ad S 199)), (3, .int x3)]) rfl (fun X hX C => ?_)
  rw [P_L_breaks] at h
  refine lc_aload_n C (pc' := 1) 1 dL_breaks_0 rfl rfl ?_
  refine lc_iconst C (pc' := 2) (v := (5 : Int32)) dL_breaks_1 (by decide) rfl ?_
  refine lc_iload_n C (pc' := 3) 3 dL_breaks_2 rfl rfl ?_
  refine lc_imul C (pc' := 4) dL_breaks_3 rfl ?_
  refine lc_iconst C (pc' := 5) (v := (1 : Int32)) dL_breaks_4 (by decide) rfl ?_
  refine lc_iadd C (pc' := 6) dL_breaks_5 rfl ?_
  obtain ⟨hi6, h⟩ := lc_ife h
  refine lc_ld198 C (pc' := 7) (jj := (((5 : Int32) * x3) + (1 : Int32)).toNatClampNeg) (va_up_self _ _ _) hi6 rfl dL_breaks_6 rfl ?_
  obtain ⟨x4_7, e4_7, h⟩ := lc_let2 h
  rw [e4_7]
  refine lc_istore C (pc' := 9) (lo' := [(4, .int x4_7), (0, .ref (lc_ad S 197)), (1, .ref (lc_ad S 198)), (2, .ref (lc_ad S 199)), (3, .int x3)]) dL_breaks_7 (Nat.le_of_ble_eq_true rfl) rfl rfl ?_
  refine lc_aload_n C (pc' := 10) 1 dL_breaks_9 rfl rfl ?_
  refine lc_aload_n C (pc' := 11) 3 dL_breaks_10 rfl rfl ?_
  refine lc_iload_n C (pc' := 12) 4 dL_breaks_11 rfl rfl ?_
  refine lc_iconst C (pc' := 13) (v := (1 : Int32)) dL_breaks_12 (by decide) rfl ?_
  obtain ⟨r13, h13, h⟩ := lc_bde h
  refine lc_csi C (pc' := 16) (r := r13) (M' := (va_up M 22 s)) (As := [.ref (lc_ad S 197), .ref (lc_ad S 199), .int x3, .int (1 : Int32)]) (rest := []) (c_L_owed S X.2.1 M   x3 (1 : Int32) s r13 h13) kl_RL_51 rfl rfl (Nat.le_of_ble_eq_true rfl) ⟨Nat.le_of_ble_eq_true rfl, Nat.le_of_ble_eq_true rfl⟩ ⟨rfl, rfl⟩ (lc_z2 _ _) dL_breaks_13 rfl ?_
  refine lc_istore C (pc' := 18) (lo' := [(5, .int r13), (4, .int x4_7), (0, .ref (lc_ad S 197)), (1, .ref (lc_ad S 198)), (2, .ref (lc_ad S 199)), (3, .int x3)]) dL_breaks_16 (Nat.le_of_ble_eq_true rfl) rfl rfl ?_
  refine lc_iconst C (pc' := 19) (v := (0 : Int32)) dL_breaks_18 (by decide) rfl ?_
  refine lc_istore C (pc' := 21) (lo' := [(6, .int (0 : Int32)), (5, .int r13), (4, .int x4_7), (0, .ref (lc_ad S 197)), (1, .ref (lc_ad S 198)), (2, .ref (lc_ad S 199)), (3, .int x3)]) dL_breaks_19 (Nat.le_of_ble_eq_true rfl) rfl rfl ?_
  refine lc_iconst C (pc' := 22) (v := (0 : Int32)) dL_breaks_21 (by decide) rfl ?_
  refine lc_istore C (pc' := 24) (lo' := [(7, .int (0 : Int32)), (6, .int (0 : Int32)), (5, .int r13), (4, .int x4_7), (0, .ref (lc_ad S 197)), (1, .ref (lc_ad S 198)), (2, .ref (lc_ad S 199)), (3, .int x3)]) dL_breaks_22 (Nat.le_of_ble_eq_true rfl) rfl rfl ?_
  refine lc_sub (lo' := [(0, .ref (lc_ad S 197)), (1, .ref (lc_ad S 198)), (2, .ref (lc_ad S 199)), (3, .int x3), (4, .int x4_7), (5, .int r13), (6, .int (0 : Int32)), (7, .int (0 : Int32))]) [4, 5, 6, 7, 3, 2, 1, 0] rfl ?_
  exact w_L_breaks_24 C   out  lc_FU x3 x4_7 r13 (0 : Int32) (0 : Int32) s h
abbrev rm_L_round : Room := { frames := 2, cells := 0, slots := 0, locals := 55 }
def P_L_round_267 (K187 : Int32 → Int32 → Int32 → lc_St → Option (Int32 × lc_St)) (x3 : Int32) (x4 : Int32) (x5 : Int32) (s : lc_St) : Option (Int32 × lc_St) :=
  lc_let (x5 + (1 : Int32)) (fun x5_267 => K187 x3 x4 x5_267 s)
set_option maxRecDepth 100000 in
set_option maxHeartbeats 4000000 in
theorem w_L_round_267 {S : lc_Se} {X : lc_X} (C : lc_C X cL_round RL 7 (some .int) rm_L_round) {M : lc_MM}  (out : Int32 × lc_St) (K187 : Int32 → Int32 → Int32 → lc_St → Option (Int32 × lc_St)) (hK187 : ∀ (x3 : Int32) (x4 : Int32) (x5 : Int32) (s : lc_St), K187 x3 x4 x5 s = some out → lc_J S X 7 0 0 (lc_QI S X 0 0 out.1 (va_up M 22 out.2)) 187 [(0, .ref (lc_ad S 197)), (1, .ref (lc_ad S 198)), (2, .ref (lc_ad S 199)), (3, .int x3), (4, .int x4), (5, .int x5)] [] (va_up M 22 s)) : ∀ (x3 : Int32) (x4 : Int32) (x5 : Int32) (s : lc_St), P_L_round_267 K187 x3 x4 x5 s = some out → lc_J S X 7 0 0 (lc_QI S X 0 0 out.1 (va_up M 22 out.2)) 267 [(0, .ref (lc_ad S 197)), (1, .ref (lc_ad S 198)), (2, .ref (lc_ad S 199)), (3, .int x3), (4, .int x4), (5, .int x5)] [] (va_up M 22 s) := by
  intro x3 x4 x5 s h
  rw [P_L_round_267] at h
  obtain ⟨x5_267, e5_267, h⟩ := lc_let2 h
  refine lc_iinc C (pc' := 270) (lo' := [(5, .int x5_267), (0, .ref (lc_ad S 197)), (1, .ref (lc_ad S 198)), (2, .ref (lc_ad S 199)), (3, .int x3), (4, .int x4)]) (q := 5) dL_round_267 rfl (by rw [← e5_267]; rfl) (Nat.le_of_ble_eq_true rfl) rfl rfl ?_
  refine lc_goto C (tgt := 187) dL_round_270 (by decide) ?_
  refine lc_sub (lo' := [(0, .ref (lc_ad S 197)), (1, .ref (lc_ad S 198)), (2, .ref (lc_ad S 199)), (3, .int x3), (4, .int x4), (5, .int x5_267)]) [1, 2, 3, 4, 5, 0] rfl ?_
  exact hK187 x3 x4 x5_267 s h
def P_L_round_237 (K187 : Int32 → Int32 → Int32 → lc_St → Option (Int32 × lc_St)) (x3 : Int32) (x4 : Int32) (x5 : Int32) (t1 : Int32) (t2 : Int32) (s : lc_St) : Option (Int32 × lc_St) :=
  lc_if (lc_ok t1 30) (lc_let (lc_ss s 1 (t1.toNatClampNeg) t2) (fun s2 => lc_if (lc_ok (((5 : Int32) * x5) + (3 : Int32)) 30) (if (s2 1 (((5 : Int32) * x5) + (3 : Int32)).toNatClampNeg) = (3 : Int32) then lc_bd (P_L_breaks x5 s2) (fun s3 => lc_let (x4 ||| ((1 : Int32) <<< (x5 &&& 31))) (fun x4_265 => P_L_round_267 K187  x3 x4_265 x5 s3)) else P_L_round_267 K187  x3 x4 x5 s2)))
set_option maxRecDepth 100000 in
set_option maxHeartbeats 4000000 in
theorem w_L_round_237 {S : lc_Se} {X : lc_X} (C : lc_C X cL_round RL 7 (some .int) rm_L_round) {M : lc_MM}  (out : Int32 × lc_St) (K187 : Int32 → Int32 → Int32 → lc_St → Option (Int32 × lc_St)) (hK187 : ∀ (x3 : Int32) (x4 : Int32) (x5 : Int32) (s : lc_St), K187 x3 x4 x5 s = some out → lc_J S X 7 0 0 (lc_QI S X 0 0 out.1 (va_up M 22 out.2)) 187 [(0, .ref (lc_ad S 197)), (1, .ref (lc_ad S 198)), (2, .ref (lc_ad S 199)), (3, .int x3), (4, .int x4), (5, .int x5)] [] (va_up M 22 s)) : ∀ (x3 : Int32) (x4 : Int32) (x5 : Int32) (t1 : Int32) (t2 : Int32) (s : lc_St), P_L_round_237 K187 x3 x4 x5 t1 t2 s = some out → lc_J S X 7 0 0 (lc_QI S X 0 0 out.1 (va_up M 22 out.2)) 237 [(0, .ref (lc_ad S 197)), (1, .ref (lc_ad S 198)), (2, .ref (lc_ad S 199)), (3, .int x3), (4, .int x4), (5, .int x5)] [.int t2, .int t1, .ref (lc_ad S 198)] (va_up M 22 s) := by
  intro x3 x4 x5 t1 t2 s h
  rw [P_L_round_237] at h
  obtain ⟨hi237, h⟩ := lc_ife h
  obtain ⟨s2, es2, h⟩ := lc_let2 h
  refine lc_sd198 C (pc' := 238) (jj := t1.toNatClampNeg) (M' := (va_up M 22 s2)) (va_up_self _ _ _) hi237 rfl es2 (lc_up_up _ _ _ _) dL_round_237 rfl ?_
  refine lc_aload_n C (pc' := 239) 1 dL_round_238 rfl rfl ?_
  refine lc_iconst C (pc' := 240) (v := (5 : Int32)) dL_round_239 (by decide) rfl ?_
  refine lc_iload C (pc' := 242) 5 dL_round_240 rfl rfl ?_
  refine lc_imul C (pc' := 243) dL_round_242 rfl ?_
  refine lc_iconst C (pc' := 244) (v := (3 : Int32)) dL_round_243 (by decide) rfl ?_
  refine lc_iadd C (pc' := 245) dL_round_244 rfl ?_
  obtain ⟨hi245, h⟩ := lc_ife h
  refine lc_ld198 C (pc' := 246) (jj := (((5 : Int32) * x5) + (3 : Int32)).toNatClampNeg) (va_up_self _ _ _) hi245 rfl dL_round_245 rfl ?_
  refine lc_iconst C (pc' := 247) (v := (3 : Int32)) dL_round_246 (by decide) rfl ?_
  refine lc_icmp_ne C (pc' := 250) (tgt := 267) dL_round_247 (by decide) rfl (fun c247 => ?_) (fun c247 => ?_)
  · have h := (lc_if2 h).2 c247
    exact w_L_round_267 C   out K187 hK187  x3 x4 x5 s2 h
  · have h := (lc_if2 h).1 c247
    refine lc_aload_n C (pc' := 251) 0 dL_round_250 rfl rfl ?_
    refine lc_aload_n C (pc' := 252) 1 dL_round_251 rfl rfl ?_
    refine lc_aload_n C (pc' := 253) 2 dL_round_252 rfl rfl ?_
    refine lc_iload C (pc' := 255) 5 dL_round_253 rfl rfl ?_
    obtain ⟨s3, h255, h⟩ := lc_bde h
    refine lc_csv C (pc' := 258) (M' := (va_up M 22 s3)) (As := [.ref (lc_ad S 197), .ref (lc_ad S 198), .ref (lc_ad S 199), .int x5]) (rest := []) (c_L_breaks S X.2.1 M   x5 s2 s3 h255) kl_RL_63 rfl rfl (Nat.le_of_ble_eq_true rfl) ⟨Nat.le_of_ble_eq_true rfl, Nat.le_of_ble_eq_true rfl⟩ ⟨rfl, rfl⟩ (lc_z2 _ _) dL_round_255 rfl ?_
    refine lc_iload C (pc' := 260) 4 dL_round_258 rfl rfl ?_
    refine lc_iconst C (pc' := 261) (v := (1 : Int32)) dL_round_260 (by decide) rfl ?_
    refine lc_iload C (pc' := 263) 5 dL_round_261 rfl rfl ?_
    refine lc_ishl C (pc' := 264) dL_round_263 rfl ?_
    refine lc_ior C (pc' := 265) dL_round_264 rfl ?_
    obtain ⟨x4_265, e4_265, h⟩ := lc_let2 h
    rw [e4_265]
    refine lc_istore C (pc' := 267) (lo' := [(4, .int x4_265), (0, .ref (lc_ad S 197)), (1, .ref (lc_ad S 198)), (2, .ref (lc_ad S 199)), (3, .int x3), (5, .int x5)]) dL_round_265 (Nat.le_of_ble_eq_true rfl) rfl rfl ?_
    refine lc_sub (lo' := [(0, .ref (lc_ad S 197)), (1, .ref (lc_ad S 198)), (2, .ref (lc_ad S 199)), (3, .int x3), (4, .int x4_265), (5, .int x5)]) [1, 2, 3, 4, 0, 5] rfl ?_
    exact w_L_round_267 C   out K187 hK187  x3 x4_265 x5 s3 h
def P_L_round_187  : Nat → Int32 → Int32 → Int32 → lc_St → Option (Int32 × lc_St)
  | 0, _, _, _, _ => none
  | n + 1, x3, x4, x5, s =>
    if (s 0 1) ≤ x5 then lc_let (lc_ss s 0 0 ((s 0 0) + (1 : Int32))) (fun s1 => some (x4, s1)) else lc_if (lc_ok (((5 : Int32) * x5) + (4 : Int32)) 30) (if (s 1 (((5 : Int32) * x5) + (4 : Int32)).toNatClampNeg) = 0 then if ((x3 >>> (x5 &&& 31)) &&& (1 : Int32)) = (1 : Int32) then lc_if (lc_ok (((5 : Int32) * x5) + (3 : Int32)) 30) (P_L_round_237 (fun x3 x4 x5 s => P_L_round_187  n x3 x4 x5 s)  x3 x4 x5 (((5 : Int32) * x5) + (3 : Int32)) ((s 1 (((5 : Int32) * x5) + (3 : Int32)).toNatClampNeg) + (1 : Int32)) s) else P_L_round_237 (fun x3 x4 x5 s => P_L_round_187  n x3 x4 x5 s)  x3 x4 x5 (((5 : Int32) * x5) + (3 : Int32)) (0 : Int32) s else P_L_round_267 (fun x3 x4 x5 s => P_L_round_187  n x3 x4 x5 s)  x3 x4 x5 s)
set_option maxRecDepth 100000 in
set_option maxHeartbeats 4000000 in
theorem w_L_round_187 {S : lc_Se} {X : lc_X} (C : lc_C X cL_round RL 7 (some .int) rm_L_round) {M : lc_MM}  (out : Int32 × lc_St)  : ∀ (n : Nat) (x3 : Int32) (x4 : Int32) (x5 : Int32) (s : lc_St), P_L_round_187  n x3 x4 x5 s = some out → lc_J S X 7 0 0 (lc_QI S X 0 0 out.1 (va_up M 22 out.2)) 187 [(0, .ref (lc_ad S 197)), (1, .ref (lc_ad S 198)), (2, .ref (lc_ad S 199)), (3, .int x3), (4, .int x4), (5, .int x5)] [] (va_up M 22 s) := by
  intro n
  induction n with
  | zero =>
    intro x3 x4 x5 s h
    rw [P_L_round_187] at h
    cases h
  | succ n ih =>
    intro x3 x4 x5 s h
    rw [P_L_round_187] at h
    refine lc_iload C (pc' := 189) 5 dL_round_187 rfl rfl ?_
    refine lc_aload_n C (pc' := 190) 0 dL_round_189 rfl rfl ?_
    refine lc_iconst C (pc' := 191) (v := (1 : Int32)) dL_round_190 (by decide) rfl ?_
    refine lc_ld197 C (pc' := 192) (jj := 1) (va_up_self _ _ _) (by decide) (by decide) dL_round_191 rfl ?_
    refine lc_icmp_ge C (pc' := 195) (tgt := 273) dL_round_192 (by decide) rfl (fun c192 => ?_) (fun c192 => ?_)
    · have h := (lc_if2 h).1 c192
      refine lc_aload_n C (pc' := 274) 0 dL_round_273 rfl rfl ?_
      refine lc_iconst C (pc' := 275) (v := (0 : Int32)) dL_round_274 (by decide) rfl ?_
      refine lc_dup2 C (pc' := 276) dL_round_275 rfl rfl rfl ?_
      refine lc_ld197 C (pc' := 277) (jj := 0) (va_up_self _ _ _) (by decide) (by decide) dL_round_276 rfl ?_
      refine lc_iconst C (pc' := 278) (v := (1 : Int32)) dL_round_277 (by decide) rfl ?_
      refine lc_iadd C (pc' := 279) dL_round_278 rfl ?_
      obtain ⟨s1, es1, h⟩ := lc_let2 h
      refine lc_sd197 C (pc' := 280) (jj := 0) (M' := (va_up M 22 s1)) (va_up_self _ _ _) (by decide) (by decide) es1 (lc_up_up _ _ _ _) dL_round_279 rfl ?_
      refine lc_iload C (pc' := 282) 4 dL_round_280 rfl rfl ?_
      obtain rfl := Option.some.inj h
      exact lc_iret C rfl dL_round_282
    · have h := (lc_if2 h).2 c192
      refine lc_aload_n C (pc' := 196) 1 dL_round_195 rfl rfl ?_
      refine lc_iconst C (pc' := 197) (v := (5 : Int32)) dL_round_196 (by decide) rfl ?_
      refine lc_iload C (pc' := 199) 5 dL_round_197 rfl rfl ?_
      refine lc_imul C (pc' := 200) dL_round_199 rfl ?_
      refine lc_iconst C (pc' := 201) (v := (4 : Int32)) dL_round_200 (by decide) rfl ?_
      refine lc_iadd C (pc' := 202) dL_round_201 rfl ?_
      obtain ⟨hi202, h⟩ := lc_ife h
      refine lc_ld198 C (pc' := 203) (jj := (((5 : Int32) * x5) + (4 : Int32)).toNatClampNeg) (va_up_self _ _ _) hi202 rfl dL_round_202 rfl ?_
      refine lc_if_ne C (pc' := 206) (tgt := 267) dL_round_203 (by decide) rfl (fun c203 => ?_) (fun c203 => ?_)
      · have h := (lc_if2 h).2 c203
        exact w_L_round_267 C   out (fun x3 x4 x5 s => P_L_round_187  n x3 x4 x5 s) ih  x3 x4 x5 s h
      · have h := (lc_if2 h).1 c203
        refine lc_aload_n C (pc' := 207) 1 dL_round_206 rfl rfl ?_
        refine lc_iconst C (pc' := 208) (v := (5 : Int32)) dL_round_207 (by decide) rfl ?_
        refine lc_iload C (pc' := 210) 5 dL_round_208 rfl rfl ?_
        refine lc_imul C (pc' := 211) dL_round_210 rfl ?_
        refine lc_iconst C (pc' := 212) (v := (3 : Int32)) dL_round_211 (by decide) rfl ?_
        refine lc_iadd C (pc' := 213) dL_round_212 rfl ?_
        refine lc_iload_n C (pc' := 214) 3 dL_round_213 rfl rfl ?_
        refine lc_iload C (pc' := 216) 5 dL_round_214 rfl rfl ?_
        refine lc_ishr C (pc' := 217) dL_round_216 rfl ?_
        refine lc_iconst C (pc' := 218) (v := (1 : Int32)) dL_round_217 (by decide) rfl ?_
        refine lc_iand C (pc' := 219) dL_round_218 rfl ?_
        refine lc_iconst C (pc' := 220) (v := (1 : Int32)) dL_round_219 (by decide) rfl ?_
        refine lc_icmp_ne C (pc' := 223) (tgt := 236) dL_round_220 (by decide) rfl (fun c220 => ?_) (fun c220 => ?_)
        · have h := (lc_if2 h).2 c220
          refine lc_iconst C (pc' := 237) (v := (0 : Int32)) dL_round_236 (by decide) rfl ?_
          exact w_L_round_237 C   out (fun x3 x4 x5 s => P_L_round_187  n x3 x4 x5 s) ih  x3 x4 x5 (((5 : Int32) * x5) + (3 : Int32)) (0 : Int32) s h
        · have h := (lc_if2 h).1 c220
          refine lc_aload_n C (pc' := 224) 1 dL_round_223 rfl rfl ?_
          refine lc_iconst C (pc' := 225) (v := (5 : Int32)) dL_round_224 (by decide) rfl ?_
          refine lc_iload C (pc' := 227) 5 dL_round_225 rfl rfl ?_
          refine lc_imul C (pc' := 228) dL_round_227 rfl ?_
          refine lc_iconst C (pc' := 229) (v := (3 : Int32)) dL_round_228 (by decide) rfl ?_
          refine lc_iadd C (pc' := 230) dL_round_229 rfl ?_
          obtain ⟨hi230, h⟩ := lc_ife h
          refine lc_ld198 C (pc' := 231) (jj := (((5 : Int32) * x5) + (3 : Int32)).toNatClampNeg) (va_up_self _ _ _) hi230 rfl dL_round_230 rfl ?_
          refine lc_iconst C (pc' := 232) (v := (1 : Int32)) dL_round_231 (by decide) rfl ?_
          refine lc_iadd C (pc' := 233) dL_round_232 rfl ?_
          refine lc_goto C (tgt := 237) dL_round_233 (by decide) ?_
          exact w_L_round_237 C   out (fun x3 x4 x5 s => P_L_round_187  n x3 x4 x5 s) ih  x3 x4 x5 (((5 : Int32) * x5) + (3 : Int32)) ((s 1 (((5 : Int32) * x5) + (3 : Int32)).toNatClampNeg) + (1 : Int32)) s h
def P_L_round_154 (K76 : Int32 → Int32 → lc_St → Option (Int32 × lc_St)) (x3 : Int32) (x4 : Int32) (x5 : Int32) (t0 : Int32) (s : lc_St) : Option (Int32 × lc_St) :=
  lc_if (lc_ok (x5 + (1 : Int32)) 30) (lc_if (lc_ok (x5 + (1 : Int32)) 30) (lc_let (lc_ss s 1 ((x5 + (1 : Int32)).toNatClampNeg) ((s 1 (x5 + (1 : Int32)).toNatClampNeg) - t0)) (fun s4 => lc_let (lc_ss s4 0 5 ((s4 0 5) + t0)) (fun s5 => lc_let (x4 + (1 : Int32)) (fun x4_175 => K76 x3 x4_175 s5)))))
set_option maxRecDepth 100000 in
set_option maxHeartbeats 4000000 in
theorem w_L_round_154 {S : lc_Se} {X : lc_X} (C : lc_C X cL_round RL 7 (some .int) rm_L_round) {M : lc_MM}  (out : Int32 × lc_St) (K76 : Int32 → Int32 → lc_St → Option (Int32 × lc_St)) (hK76 : ∀ (x3 : Int32) (x4 : Int32) (s : lc_St), K76 x3 x4 s = some out → lc_J S X 7 0 0 (lc_QI S X 0 0 out.1 (va_up M 22 out.2)) 76 [(0, .ref (lc_ad S 197)), (1, .ref (lc_ad S 198)), (2, .ref (lc_ad S 199)), (3, .int x3), (4, .int x4)] [] (va_up M 22 s)) : ∀ (x3 : Int32) (x4 : Int32) (x5 : Int32) (t0 : Int32) (s : lc_St), P_L_round_154 K76 x3 x4 x5 t0 s = some out → lc_J S X 7 0 0 (lc_QI S X 0 0 out.1 (va_up M 22 out.2)) 154 [(0, .ref (lc_ad S 197)), (1, .ref (lc_ad S 198)), (2, .ref (lc_ad S 199)), (3, .int x3), (4, .int x4), (5, .int x5)] [.int t0] (va_up M 22 s) := by
  intro x3 x4 x5 t0 s h
  rw [P_L_round_154] at h
  refine lc_istore C (pc' := 156) (lo' := [(6, .int t0), (0, .ref (lc_ad S 197)), (1, .ref (lc_ad S 198)), (2, .ref (lc_ad S 199)), (3, .int x3), (4, .int x4), (5, .int x5)]) dL_round_154 (Nat.le_of_ble_eq_true rfl) rfl rfl ?_
  refine lc_aload_n C (pc' := 157) 2 dL_round_156 rfl rfl ?_
  refine lc_iload C (pc' := 159) 6 dL_round_157 rfl rfl ?_
  refine lc_iconst C (pc' := 160) (v := (1 : Int32)) dL_round_159 (by decide) rfl ?_
  refine lc_iadd C (pc' := 161) dL_round_160 rfl ?_
  refine lc_dup2 C (pc' := 162) dL_round_161 rfl rfl rfl ?_
  obtain ⟨hi162, h⟩ := lc_ife h
  refine lc_ld198 C (pc' := 163) (jj := (x5 + (1 : Int32)).toNatClampNeg) (va_up_self _ _ _) hi162 rfl dL_round_162 rfl ?_
  refine lc_iload C (pc' := 165) 0 dL_round_163 rfl rfl ?_
  refine lc_isub C (pc' := 166) dL_round_165 rfl ?_
  obtain ⟨hi166, h⟩ := lc_ife h
  obtain ⟨s4, es4, h⟩ := lc_let2 h
  refine lc_sd198 C (pc' := 167) (jj := (x5 + (1 : Int32)).toNatClampNeg) (M' := (va_up M 22 s4)) (va_up_self _ _ _) hi166 rfl es4 (lc_up_up _ _ _ _) dL_round_166 rfl ?_
  refine lc_aload_n C (pc' := 168) 1 dL_round_167 rfl rfl ?_
  refine lc_iconst C (pc' := 169) (v := (5 : Int32)) dL_round_168 (by decide) rfl ?_
  refine lc_dup2 C (pc' := 170) dL_round_169 rfl rfl rfl ?_
  refine lc_ld197 C (pc' := 171) (jj := 5) (va_up_self _ _ _) (by decide) (by decide) dL_round_170 rfl ?_
  refine lc_iload C (pc' := 173) 0 dL_round_171 rfl rfl ?_
  refine lc_iadd C (pc' := 174) dL_round_173 rfl ?_
  obtain ⟨s5, es5, h⟩ := lc_let2 h
  refine lc_sd197 C (pc' := 175) (jj := 5) (M' := (va_up M 22 s5)) (va_up_self _ _ _) (by decide) (by decide) es5 (lc_up_up _ _ _ _) dL_round_174 rfl ?_
  obtain ⟨x4_175, e4_175, h⟩ := lc_let2 h
  refine lc_iinc C (pc' := 178) (lo' := [(4, .int x4_175), (6, .int t0), (0, .ref (lc_ad S 197)), (1, .ref (lc_ad S 198)), (2, .ref (lc_ad S 199)), (3, .int x3), (5, .int x5)]) (q := 5) dL_round_175 rfl (by rw [← e4_175]; rfl) (Nat.le_of_ble_eq_true rfl) rfl rfl ?_
  refine lc_goto C (tgt := 76) dL_round_178 (by decide) ?_
  refine lc_sub (lo' := [(0, .ref (lc_ad S 197)), (1, .ref (lc_ad S 198)), (2, .ref (lc_ad S 199)), (3, .int x3), (4, .int x4_175)]) [2, 3, 4, 5, 0] rfl ?_
  exact hK76 x3 x4_175 s5 h
def P_L_round_130 (K76 : Int32 → Int32 → lc_St → Option (Int32 × lc_St)) (x4 : Int32) (x5 : Int32) (x6 : Int32) (t0 : Int32) (t1 : Int32) (s : lc_St) : Option (Int32 × lc_St) :=
  lc_let (t0 ||| t1) (fun x3_131 => lc_if (lc_ok (x5 + (1 : Int32)) 30) (if x6 ≤ (s 1 (x5 + (1 : Int32)).toNatClampNeg) then P_L_round_154 K76  x3_131 x4 x5 x6 s else lc_if (lc_ok (x5 + (1 : Int32)) 30) (P_L_round_154 K76  x3_131 x4 x5 (s 1 (x5 + (1 : Int32)).toNatClampNeg) s)))
set_option maxRecDepth 100000 in
set_option maxHeartbeats 4000000 in
theorem w_L_round_130 {S : lc_Se} {X : lc_X} (C : lc_C X cL_round RL 7 (some .int) rm_L_round) {M : lc_MM}  (out : Int32 × lc_St) (K76 : Int32 → Int32 → lc_St → Option (Int32 × lc_St)) (hK76 : ∀ (x3 : Int32) (x4 : Int32) (s : lc_St), K76 x3 x4 s = some out → lc_J S X 7 0 0 (lc_QI S X 0 0 out.1 (va_up M 22 out.2)) 76 [(0, .ref (lc_ad S 197)), (1, .ref (lc_ad S 198)), (2, .ref (lc_ad S 199)), (3, .int x3), (4, .int x4)] [] (va_up M 22 s)) : ∀ (x4 : Int32) (x5 : Int32) (x6 : Int32) (t0 : Int32) (t1 : Int32) (s : lc_St), P_L_round_130 K76 x4 x5 x6 t0 t1 s = some out → lc_J S X 7 0 0 (lc_QI S X 0 0 out.1 (va_up M 22 out.2)) 130 [(0, .ref (lc_ad S 197)), (1, .ref (lc_ad S 198)), (2, .ref (lc_ad S 199)), (4, .int x4), (5, .int x5), (6, .int x6)] [.int t1, .int t0] (va_up M 22 s) := by
  intro x4 x5 x6 t0 t1 s h
  rw [P_L_round_130] at h
  refine lc_ior C (pc' := 131) dL_round_130 rfl ?_
  obtain ⟨x3_131, e3_131, h⟩ := lc_let2 h
  rw [e3_131]
  refine lc_istore_n C (pc' := 132) (lo' := [(3, .int x3_131), (0, .ref (lc_ad S 197)), (1, .ref (lc_ad S 198)), (2, .ref (lc_ad S 199)), (4, .int x4), (5, .int x5), (6, .int x6)]) dL_round_131 (Nat.le_of_ble_eq_true rfl) rfl rfl ?_
  refine lc_aload_n C (pc' := 133) 2 dL_round_132 rfl rfl ?_
  refine lc_iload C (pc' := 135) 5 dL_round_133 rfl rfl ?_
  refine lc_iconst C (pc' := 136) (v := (1 : Int32)) dL_round_135 (by decide) rfl ?_
  refine lc_iadd C (pc' := 137) dL_round_136 rfl ?_
  obtain ⟨hi137, h⟩ := lc_ife h
  refine lc_ld198 C (pc' := 138) (jj := (x5 + (1 : Int32)).toNatClampNeg) (va_up_self _ _ _) hi137 rfl dL_round_137 rfl ?_
  refine lc_iload C (pc' := 140) 6 dL_round_138 rfl rfl ?_
  refine lc_icmp_ge C (pc' := 143) (tgt := 152) dL_round_140 (by decide) rfl (fun c140 => ?_) (fun c140 => ?_)
  · have h := (lc_if2 h).1 c140
    refine lc_iload C (pc' := 154) 6 dL_round_152 rfl rfl ?_
    refine lc_sub (lo' := [(0, .ref (lc_ad S 197)), (1, .ref (lc_ad S 198)), (2, .ref (lc_ad S 199)), (3, .int x3_131), (4, .int x4), (5, .int x5)]) [1, 2, 3, 0, 4, 5] rfl ?_
    exact w_L_round_154 C   out K76 hK76  x3_131 x4 x5 x6 s h
  · have h := (lc_if2 h).2 c140
    refine lc_aload_n C (pc' := 144) 2 dL_round_143 rfl rfl ?_
    refine lc_iload C (pc' := 146) 5 dL_round_144 rfl rfl ?_
    refine lc_iconst C (pc' := 147) (v := (1 : Int32)) dL_round_146 (by decide) rfl ?_
    refine lc_iadd C (pc' := 148) dL_round_147 rfl ?_
    obtain ⟨hi148, h⟩ := lc_ife h
    refine lc_ld198 C (pc' := 149) (jj := (x5 + (1 : Int32)).toNatClampNeg) (va_up_self _ _ _) hi148 rfl dL_round_148 rfl ?_
    refine lc_goto C (tgt := 154) dL_round_149 (by decide) ?_
    refine lc_sub (lo' := [(0, .ref (lc_ad S 197)), (1, .ref (lc_ad S 198)), (2, .ref (lc_ad S 199)), (3, .int x3_131), (4, .int x4), (5, .int x5)]) [1, 2, 3, 0, 4, 5] rfl ?_
    exact w_L_round_154 C   out K76 hK76  x3_131 x4 x5 (s 1 (x5 + (1 : Int32)).toNatClampNeg) s h
def P_L_round_76  : Nat → Int32 → Int32 → lc_St → Option (Int32 × lc_St)
  | 0, _, _, _ => none
  | n + 1, x3, x4, s =>
    if (s 0 2) ≤ x4 then P_L_round_187  lc_FU x3 (0 : Int32) (0 : Int32) s else lc_if (lc_ok (((5 : Int32) * x4) + (1 : Int32)) 60) (lc_let ((5 : Int32) * (s 2 (((5 : Int32) * x4) + (1 : Int32)).toNatClampNeg)) (fun x5_94 => lc_bd (P_L_interest x4 s) (fun r99 => lc_if (lc_ok (x5_94 + (1 : Int32)) 30) (if r99 ≤ (s 1 (x5_94 + (1 : Int32)).toNatClampNeg) then P_L_round_130 (fun x3 x4 s => P_L_round_76  n x3 x4 s)  x4 x5_94 r99 x3 (0 : Int32) s else lc_if (lc_ok (((5 : Int32) * x4) + (1 : Int32)) 60) (P_L_round_130 (fun x3 x4 s => P_L_round_76  n x3 x4 s)  x4 x5_94 r99 x3 ((1 : Int32) <<< ((s 2 (((5 : Int32) * x4) + (1 : Int32)).toNatClampNeg) &&& 31)) s)))))
set_option maxRecDepth 100000 in
set_option maxHeartbeats 4000000 in
theorem w_L_round_76 {S : lc_Se} {X : lc_X} (C : lc_C X cL_round RL 7 (some .int) rm_L_round) {M : lc_MM}  (out : Int32 × lc_St)  : ∀ (n : Nat) (x3 : Int32) (x4 : Int32) (s : lc_St), P_L_round_76  n x3 x4 s = some out → lc_J S X 7 0 0 (lc_QI S X 0 0 out.1 (va_up M 22 out.2)) 76 [(0, .ref (lc_ad S 197)), (1, .ref (lc_ad S 198)), (2, .ref (lc_ad S 199)), (3, .int x3), (4, .int x4)] [] (va_up M 22 s) := by
  intro n
  induction n with
  | zero =>
    intro x3 x4 s h
    rw [P_L_round_76] at h
    cases h
  | succ n ih =>
    intro x3 x4 s h
    rw [P_L_round_76] at h
    refine lc_iload C (pc' := 78) 4 dL_round_76 rfl rfl ?_
    refine lc_aload_n C (pc' := 79) 0 dL_round_78 rfl rfl ?_
    refine lc_iconst C (pc' := 80) (v := (2 : Int32)) dL_round_79 (by decide) rfl ?_
    refine lc_ld197 C (pc' := 81) (jj := 2) (va_up_self _ _ _) (by decide) (by decide) dL_round_80 rfl ?_
    refine lc_icmp_ge C (pc' := 84) (tgt := 181) dL_round_81 (by decide) rfl (fun c81 => ?_) (fun c81 => ?_)
    · have h := (lc_if2 h).1 c81
      refine lc_iconst C (pc' := 182) (v := (0 : Int32)) dL_round_181 (by decide) rfl ?_
      refine lc_istore C (pc' := 184) (lo' := [(4, .int (0 : Int32)), (0, .ref (lc_ad S 197)), (1, .ref (lc_ad S 198)), (2, .ref (lc_ad S 199)), (3, .int x3)]) dL_round_182 (Nat.le_of_ble_eq_true rfl) rfl rfl ?_
      refine lc_iconst C (pc' := 185) (v := (0 : Int32)) dL_round_184 (by decide) rfl ?_
      refine lc_istore C (pc' := 187) (lo' := [(5, .int (0 : Int32)), (4, .int (0 : Int32)), (0, .ref (lc_ad S 197)), (1, .ref (lc_ad S 198)), (2, .ref (lc_ad S 199)), (3, .int x3)]) dL_round_185 (Nat.le_of_ble_eq_true rfl) rfl rfl ?_
      refine lc_sub (lo' := [(0, .ref (lc_ad S 197)), (1, .ref (lc_ad S 198)), (2, .ref (lc_ad S 199)), (3, .int x3), (4, .int (0 : Int32)), (5, .int (0 : Int32))]) [2, 3, 4, 5, 1, 0] rfl ?_
      exact w_L_round_187 C   out  lc_FU x3 (0 : Int32) (0 : Int32) s h
    · have h := (lc_if2 h).2 c81
      refine lc_iconst C (pc' := 85) (v := (5 : Int32)) dL_round_84 (by decide) rfl ?_
      refine lc_aload_n C (pc' := 86) 2 dL_round_85 rfl rfl ?_
      refine lc_iconst C (pc' := 87) (v := (5 : Int32)) dL_round_86 (by decide) rfl ?_
      refine lc_iload C (pc' := 89) 4 dL_round_87 rfl rfl ?_
      refine lc_imul C (pc' := 90) dL_round_89 rfl ?_
      refine lc_iconst C (pc' := 91) (v := (1 : Int32)) dL_round_90 (by decide) rfl ?_
      refine lc_iadd C (pc' := 92) dL_round_91 rfl ?_
      obtain ⟨hi92, h⟩ := lc_ife h
      refine lc_ld199 C (pc' := 93) (jj := (((5 : Int32) * x4) + (1 : Int32)).toNatClampNeg) (va_up_self _ _ _) hi92 rfl dL_round_92 rfl ?_
      refine lc_imul C (pc' := 94) dL_round_93 rfl ?_
      obtain ⟨x5_94, e5_94, h⟩ := lc_let2 h
      rw [e5_94]
      refine lc_istore C (pc' := 96) (lo' := [(5, .int x5_94), (0, .ref (lc_ad S 197)), (1, .ref (lc_ad S 198)), (2, .ref (lc_ad S 199)), (3, .int x3), (4, .int x4)]) dL_round_94 (Nat.le_of_ble_eq_true rfl) rfl rfl ?_
      refine lc_aload_n C (pc' := 97) 3 dL_round_96 rfl rfl ?_
      refine lc_iload C (pc' := 99) 5 dL_round_97 rfl rfl ?_
      obtain ⟨r99, h99, h⟩ := lc_bde h
      refine lc_csi C (pc' := 102) (r := r99) (M' := (va_up M 22 s)) (As := [.ref (lc_ad S 199), .int x4]) (rest := []) (c_L_interest S X.2.1 M   x4 s r99 h99) kl_RL_59 rfl rfl (Nat.le_of_ble_eq_true rfl) ⟨Nat.le_of_ble_eq_true rfl, Nat.le_of_ble_eq_true rfl⟩ ⟨rfl, rfl⟩ (lc_z2 _ _) dL_round_99 rfl ?_
      refine lc_istore C (pc' := 104) (lo' := [(6, .int r99), (5, .int x5_94), (0, .ref (lc_ad S 197)), (1, .ref (lc_ad S 198)), (2, .ref (lc_ad S 199)), (3, .int x3), (4, .int x4)]) dL_round_102 (Nat.le_of_ble_eq_true rfl) rfl rfl ?_
      refine lc_iload_n C (pc' := 105) 5 dL_round_104 rfl rfl ?_
      refine lc_aload_n C (pc' := 106) 3 dL_round_105 rfl rfl ?_
      refine lc_iload C (pc' := 108) 1 dL_round_106 rfl rfl ?_
      refine lc_iconst C (pc' := 109) (v := (1 : Int32)) dL_round_108 (by decide) rfl ?_
      refine lc_iadd C (pc' := 110) dL_round_109 rfl ?_
      obtain ⟨hi110, h⟩ := lc_ife h
      refine lc_ld198 C (pc' := 111) (jj := (x5_94 + (1 : Int32)).toNatClampNeg) (va_up_self _ _ _) hi110 rfl dL_round_110 rfl ?_
      refine lc_iload C (pc' := 113) 0 dL_round_111 rfl rfl ?_
      refine lc_icmp_ge C (pc' := 116) (tgt := 129) dL_round_113 (by decide) rfl (fun c113 => ?_) (fun c113 => ?_)
      · have h := (lc_if2 h).1 c113
        refine lc_iconst C (pc' := 130) (v := (0 : Int32)) dL_round_129 (by decide) rfl ?_
        refine lc_sub (lo' := [(0, .ref (lc_ad S 197)), (1, .ref (lc_ad S 198)), (2, .ref (lc_ad S 199)), (4, .int x4), (5, .int x5_94), (6, .int r99)]) [2, 3, 4, 6, 1, 0] rfl ?_
        exact w_L_round_130 C   out (fun x3 x4 s => P_L_round_76  n x3 x4 s) ih  x4 x5_94 r99 x3 (0 : Int32) s h
      · have h := (lc_if2 h).2 c113
        refine lc_iconst C (pc' := 117) (v := (1 : Int32)) dL_round_116 (by decide) rfl ?_
        refine lc_aload_n C (pc' := 118) 4 dL_round_117 rfl rfl ?_
        refine lc_iconst C (pc' := 119) (v := (5 : Int32)) dL_round_118 (by decide) rfl ?_
        refine lc_iload C (pc' := 121) 6 dL_round_119 rfl rfl ?_
        refine lc_imul C (pc' := 122) dL_round_121 rfl ?_
        refine lc_iconst C (pc' := 123) (v := (1 : Int32)) dL_round_122 (by decide) rfl ?_
        refine lc_iadd C (pc' := 124) dL_round_123 rfl ?_
        obtain ⟨hi124, h⟩ := lc_ife h
        refine lc_ld199 C (pc' := 125) (jj := (((5 : Int32) * x4) + (1 : Int32)).toNatClampNeg) (va_up_self _ _ _) hi124 rfl dL_round_124 rfl ?_
        refine lc_ishl C (pc' := 126) dL_round_125 rfl ?_
        refine lc_goto C (tgt := 130) dL_round_126 (by decide) ?_
        refine lc_sub (lo' := [(0, .ref (lc_ad S 197)), (1, .ref (lc_ad S 198)), (2, .ref (lc_ad S 199)), (4, .int x4), (5, .int x5_94), (6, .int r99)]) [2, 3, 4, 6, 1, 0] rfl ?_
        exact w_L_round_130 C   out (fun x3 x4 s => P_L_round_76  n x3 x4 s) ih  x4 x5_94 r99 x3 ((1 : Int32) <<< ((s 2 (((5 : Int32) * x4) + (1 : Int32)).toNatClampNeg) &&& 31)) s h
def P_L_round_43 (K2 : Int32 → lc_St → Option (Int32 × lc_St)) (x3 : Int32) (t0 : Int32) (s : lc_St) : Option (Int32 × lc_St) :=
  lc_if (lc_ok (((5 : Int32) * x3) + (1 : Int32)) 30) (lc_if (lc_ok (((5 : Int32) * x3) + (1 : Int32)) 30) (lc_let (lc_ss s 1 ((((5 : Int32) * x3) + (1 : Int32)).toNatClampNeg) ((s 1 (((5 : Int32) * x3) + (1 : Int32)).toNatClampNeg) - t0)) (fun s6 => lc_let (lc_ss s6 0 5 ((s6 0 5) + t0)) (fun s7 => lc_let (x3 + (1 : Int32)) (fun x3_65 => K2 x3_65 s7)))))
set_option maxRecDepth 100000 in
set_option maxHeartbeats 4000000 in
theorem w_L_round_43 {S : lc_Se} {X : lc_X} (C : lc_C X cL_round RL 7 (some .int) rm_L_round) {M : lc_MM}  (out : Int32 × lc_St) (K2 : Int32 → lc_St → Option (Int32 × lc_St)) (hK2 : ∀ (x3 : Int32) (s : lc_St), K2 x3 s = some out → lc_J S X 7 0 0 (lc_QI S X 0 0 out.1 (va_up M 22 out.2)) 2 [(0, .ref (lc_ad S 197)), (1, .ref (lc_ad S 198)), (2, .ref (lc_ad S 199)), (3, .int x3)] [] (va_up M 22 s)) : ∀ (x3 : Int32) (t0 : Int32) (s : lc_St), P_L_round_43 K2 x3 t0 s = some out → lc_J S X 7 0 0 (lc_QI S X 0 0 out.1 (va_up M 22 out.2)) 43 [(0, .ref (lc_ad S 197)), (1, .ref (lc_ad S 198)), (2, .ref (lc_ad S 199)), (3, .int x3)] [.int t0] (va_up M 22 s) := by
  intro x3 t0 s h
  rw [P_L_round_43] at h
  refine lc_istore C (pc' := 45) (lo' := [(4, .int t0), (0, .ref (lc_ad S 197)), (1, .ref (lc_ad S 198)), (2, .ref (lc_ad S 199)), (3, .int x3)]) dL_round_43 (Nat.le_of_ble_eq_true rfl) rfl rfl ?_
  refine lc_aload_n C (pc' := 46) 2 dL_round_45 rfl rfl ?_
  refine lc_iconst C (pc' := 47) (v := (5 : Int32)) dL_round_46 (by decide) rfl ?_
  refine lc_iload_n C (pc' := 48) 4 dL_round_47 rfl rfl ?_
  refine lc_imul C (pc' := 49) dL_round_48 rfl ?_
  refine lc_iconst C (pc' := 50) (v := (1 : Int32)) dL_round_49 (by decide) rfl ?_
  refine lc_iadd C (pc' := 51) dL_round_50 rfl ?_
  refine lc_dup2 C (pc' := 52) dL_round_51 rfl rfl rfl ?_
  obtain ⟨hi52, h⟩ := lc_ife h
  refine lc_ld198 C (pc' := 53) (jj := (((5 : Int32) * x3) + (1 : Int32)).toNatClampNeg) (va_up_self _ _ _) hi52 rfl dL_round_52 rfl ?_
  refine lc_iload C (pc' := 55) 0 dL_round_53 rfl rfl ?_
  refine lc_isub C (pc' := 56) dL_round_55 rfl ?_
  obtain ⟨hi56, h⟩ := lc_ife h
  obtain ⟨s6, es6, h⟩ := lc_let2 h
  refine lc_sd198 C (pc' := 57) (jj := (((5 : Int32) * x3) + (1 : Int32)).toNatClampNeg) (M' := (va_up M 22 s6)) (va_up_self _ _ _) hi56 rfl es6 (lc_up_up _ _ _ _) dL_round_56 rfl ?_
  refine lc_aload_n C (pc' := 58) 1 dL_round_57 rfl rfl ?_
  refine lc_iconst C (pc' := 59) (v := (5 : Int32)) dL_round_58 (by decide) rfl ?_
  refine lc_dup2 C (pc' := 60) dL_round_59 rfl rfl rfl ?_
  refine lc_ld197 C (pc' := 61) (jj := 5) (va_up_self _ _ _) (by decide) (by decide) dL_round_60 rfl ?_
  refine lc_iload C (pc' := 63) 0 dL_round_61 rfl rfl ?_
  refine lc_iadd C (pc' := 64) dL_round_63 rfl ?_
  obtain ⟨s7, es7, h⟩ := lc_let2 h
  refine lc_sd197 C (pc' := 65) (jj := 5) (M' := (va_up M 22 s7)) (va_up_self _ _ _) (by decide) (by decide) es7 (lc_up_up _ _ _ _) dL_round_64 rfl ?_
  obtain ⟨x3_65, e3_65, h⟩ := lc_let2 h
  refine lc_iinc C (pc' := 68) (lo' := [(3, .int x3_65), (4, .int t0), (0, .ref (lc_ad S 197)), (1, .ref (lc_ad S 198)), (2, .ref (lc_ad S 199))]) (q := 4) dL_round_65 rfl (by rw [← e3_65]; rfl) (Nat.le_of_ble_eq_true rfl) rfl rfl ?_
  refine lc_goto C (tgt := 2) dL_round_68 (by decide) ?_
  refine lc_sub (lo' := [(0, .ref (lc_ad S 197)), (1, .ref (lc_ad S 198)), (2, .ref (lc_ad S 199)), (3, .int x3_65)]) [2, 3, 4, 0] rfl ?_
  exact hK2 x3_65 s7 h
def P_L_round_2  : Nat → Int32 → lc_St → Option (Int32 × lc_St)
  | 0, _, _ => none
  | n + 1, x3, s =>
    if (s 0 1) ≤ x3 then P_L_round_76  lc_FU (0 : Int32) (0 : Int32) s else lc_if (lc_ok (((5 : Int32) * x3) + (1 : Int32)) 30) (lc_if (lc_ok (((5 : Int32) * x3) + (2 : Int32)) 30) (if (s 1 (((5 : Int32) * x3) + (1 : Int32)).toNatClampNeg) ≤ (s 1 (((5 : Int32) * x3) + (2 : Int32)).toNatClampNeg) then lc_if (lc_ok (((5 : Int32) * x3) + (1 : Int32)) 30) (P_L_round_43 (fun x3 s => P_L_round_2  n x3 s)  x3 (s 1 (((5 : Int32) * x3) + (1 : Int32)).toNatClampNeg) s) else lc_if (lc_ok (((5 : Int32) * x3) + (2 : Int32)) 30) (P_L_round_43 (fun x3 s => P_L_round_2  n x3 s)  x3 (s 1 (((5 : Int32) * x3) + (2 : Int32)).toNatClampNeg) s)))
set_option maxRecDepth 100000 in
set_option maxHeartbeats 4000000 in
theorem w_L_round_2 {S : lc_Se} {X : lc_X} (C : lc_C X cL_round RL 7 (some .int) rm_L_round) {M : lc_MM}  (out : Int32 × lc_St)  : ∀ (n : Nat) (x3 : Int32) (s : lc_St), P_L_round_2  n x3 s = some out → lc_J S X 7 0 0 (lc_QI S X 0 0 out.1 (va_up M 22 out.2)) 2 [(0, .ref (lc_ad S 197)), (1, .ref (lc_ad S 198)), (2, .ref (lc_ad S 199)), (3, .int x3)] [] (va_up M 22 s) := by
  intro n
  induction n with
  | zero =>
    intro x3 s h
    rw [P_L_round_2] at h
    cases h
  | succ n ih =>
    intro x3 s h
    rw [P_L_round_2] at h
    refine lc_iload_n C (pc' := 3) 3 dL_round_2 rfl rfl ?_
    refine lc_aload_n C (pc' := 4) 0 dL_round_3 rfl rfl ?_
    refine lc_iconst C (pc' := 5) (v := (1 : Int32)) dL_round_4 (by decide) rfl ?_
    refine lc_ld197 C (pc' := 6) (jj := 1) (va_up_self _ _ _) (by decide) (by decide) dL_round_5 rfl ?_
    refine lc_icmp_ge C (pc' := 9) (tgt := 71) dL_round_6 (by decide) rfl (fun c6 => ?_) (fun c6 => ?_)
    · have h := (lc_if2 h).1 c6
      refine lc_iconst C (pc' := 72) (v := (0 : Int32)) dL_round_71 (by decide) rfl ?_
      refine lc_istore_n C (pc' := 73) (lo' := [(3, .int (0 : Int32)), (0, .ref (lc_ad S 197)), (1, .ref (lc_ad S 198)), (2, .ref (lc_ad S 199))]) dL_round_72 (Nat.le_of_ble_eq_true rfl) rfl rfl ?_
      refine lc_iconst C (pc' := 74) (v := (0 : Int32)) dL_round_73 (by decide) rfl ?_
      refine lc_istore C (pc' := 76) (lo' := [(4, .int (0 : Int32)), (3, .int (0 : Int32)), (0, .ref (lc_ad S 197)), (1, .ref (lc_ad S 198)), (2, .ref (lc_ad S 199))]) dL_round_74 (Nat.le_of_ble_eq_true rfl) rfl rfl ?_
      refine lc_sub (lo' := [(0, .ref (lc_ad S 197)), (1, .ref (lc_ad S 198)), (2, .ref (lc_ad S 199)), (3, .int (0 : Int32)), (4, .int (0 : Int32))]) [2, 3, 4, 1, 0] rfl ?_
      exact w_L_round_76 C   out  lc_FU (0 : Int32) (0 : Int32) s h
    · have h := (lc_if2 h).2 c6
      refine lc_aload_n C (pc' := 10) 1 dL_round_9 rfl rfl ?_
      refine lc_iconst C (pc' := 11) (v := (5 : Int32)) dL_round_10 (by decide) rfl ?_
      refine lc_iload_n C (pc' := 12) 3 dL_round_11 rfl rfl ?_
      refine lc_imul C (pc' := 13) dL_round_12 rfl ?_
      refine lc_iconst C (pc' := 14) (v := (1 : Int32)) dL_round_13 (by decide) rfl ?_
      refine lc_iadd C (pc' := 15) dL_round_14 rfl ?_
      obtain ⟨hi15, h⟩ := lc_ife h
      refine lc_ld198 C (pc' := 16) (jj := (((5 : Int32) * x3) + (1 : Int32)).toNatClampNeg) (va_up_self _ _ _) hi15 rfl dL_round_15 rfl ?_
      refine lc_aload_n C (pc' := 17) 1 dL_round_16 rfl rfl ?_
      refine lc_iconst C (pc' := 18) (v := (5 : Int32)) dL_round_17 (by decide) rfl ?_
      refine lc_iload_n C (pc' := 19) 3 dL_round_18 rfl rfl ?_
      refine lc_imul C (pc' := 20) dL_round_19 rfl ?_
      refine lc_iconst C (pc' := 21) (v := (2 : Int32)) dL_round_20 (by decide) rfl ?_
      refine lc_iadd C (pc' := 22) dL_round_21 rfl ?_
      obtain ⟨hi22, h⟩ := lc_ife h
      refine lc_ld198 C (pc' := 23) (jj := (((5 : Int32) * x3) + (2 : Int32)).toNatClampNeg) (va_up_self _ _ _) hi22 rfl dL_round_22 rfl ?_
      refine lc_icmp_le C (pc' := 26) (tgt := 36) dL_round_23 (by decide) rfl (fun c23 => ?_) (fun c23 => ?_)
      · have h := (lc_if2 h).1 c23
        refine lc_aload_n C (pc' := 37) 1 dL_round_36 rfl rfl ?_
        refine lc_iconst C (pc' := 38) (v := (5 : Int32)) dL_round_37 (by decide) rfl ?_
        refine lc_iload_n C (pc' := 39) 3 dL_round_38 rfl rfl ?_
        refine lc_imul C (pc' := 40) dL_round_39 rfl ?_
        refine lc_iconst C (pc' := 41) (v := (1 : Int32)) dL_round_40 (by decide) rfl ?_
        refine lc_iadd C (pc' := 42) dL_round_41 rfl ?_
        obtain ⟨hi42, h⟩ := lc_ife h
        refine lc_ld198 C (pc' := 43) (jj := (((5 : Int32) * x3) + (1 : Int32)).toNatClampNeg) (va_up_self _ _ _) hi42 rfl dL_round_42 rfl ?_
        exact w_L_round_43 C   out (fun x3 s => P_L_round_2  n x3 s) ih  x3 (s 1 (((5 : Int32) * x3) + (1 : Int32)).toNatClampNeg) s h
      · have h := (lc_if2 h).2 c23
        refine lc_aload_n C (pc' := 27) 1 dL_round_26 rfl rfl ?_
        refine lc_iconst C (pc' := 28) (v := (5 : Int32)) dL_round_27 (by decide) rfl ?_
        refine lc_iload_n C (pc' := 29) 3 dL_round_28 rfl rfl ?_
        refine lc_imul C (pc' := 30) dL_round_29 rfl ?_
        refine lc_iconst C (pc' := 31) (v := (2 : Int32)) dL_round_30 (by decide) rfl ?_
        refine lc_iadd C (pc' := 32) dL_round_31 rfl ?_
        obtain ⟨hi32, h⟩ := lc_ife h
        refine lc_ld198 C (pc' := 33) (jj := (((5 : Int32) * x3) + (2 : Int32)).toNatClampNeg) (va_up_self _ _ _) hi32 rfl dL_round_32 rfl ?_
        refine lc_goto C (tgt := 43) dL_round_33 (by decide) ?_
        exact w_L_round_43 C   out (fun x3 s => P_L_round_2  n x3 s) ih  x3 (s 1 (((5 : Int32) * x3) + (2 : Int32)).toNatClampNeg) s h
def P_L_round   (s : lc_St) : Option (Int32 × lc_St) :=
  P_L_round_2  lc_FU (0 : Int32) s
set_option maxRecDepth 100000 in
set_option maxHeartbeats 4000000 in
theorem c_L_round (S : lc_Se) (l : Launch) (M : lc_MM)   (s : lc_St) (out : Int32 × lc_St) (h : P_L_round  s = some out) : lc_MI S l yL_round cL_round 7 (some .int) rm_L_round [.ref (lc_ad S 197), .ref (lc_ad S 198), .ref (lc_ad S 199)] (va_up M 22 s) out.1 (va_up M 22 out.2) := by
  refine lc_mkI (own := RL) pn_RL rfl (Nat.le_of_ble_eq_true rfl) (lo := [(0, .ref (lc_ad S 197)), (1, .ref (lc_ad S 198)), (2, .ref (lc_ad S 199))]) rfl (fun X hX C => ?_)
  rw [P_L_round] at h
  refine lc_iconst C (pc' := 1) (v := (0 : Int32)) dL_round_0 (by decide) rfl ?_
  refine lc_istore_n C (pc' := 2) (lo' := [(3, .int (0 : Int32)), (0, .ref (lc_ad S 197)), (1, .ref (lc_ad S 198)), (2, .ref (lc_ad S 199))]) dL_round_1 (Nat.le_of_ble_eq_true rfl) rfl rfl ?_
  refine lc_sub (lo' := [(0, .ref (lc_ad S 197)), (1, .ref (lc_ad S 198)), (2, .ref (lc_ad S 199)), (3, .int (0 : Int32))]) [1, 2, 3, 0] rfl ?_
  exact w_L_round_2 C   out  lc_FU (0 : Int32) s h
abbrev rm_L_areCells : Room := { frames := 4, cells := 0, slots := 0, locals := 87 }
def P_L_areCells_459  (x4 : Int32) (x5 : Int32) (x6 : Int32) (t0 : Int32) (M : lc_MM) : Option (Int32 × lc_MM) :=
  if t0 = 0 then some ((0 : Int32), M) else lc_bd2 (P_X3_about (7 : Int32) M) (fun r469 M2 => if r469 = x6 then lc_bd2 (P_X3_about (8 : Int32) M2) (fun r480 M3 => if r480 = ((M3 22) 0 6) then lc_bd2 (P_X3_about (9 : Int32) M3) (fun r493 M4 => if r493 = x5 then if ((x4 + ((M4 22) 0 4)) + ((M4 22) 0 5)) = ((M4 22) 0 3) then some ((1 : Int32), M4) else some ((0 : Int32), M4) else some ((0 : Int32), M4)) else some ((0 : Int32), M3)) else some ((0 : Int32), M2))
set_option maxRecDepth 100000 in
set_option maxHeartbeats 4000000 in
theorem w_L_areCells_459 {S : lc_Se} {X : lc_X} (C : lc_C X cL_areCells RL 11 (some .boolean) rm_L_areCells)   (out : Int32 × lc_MM)  : ∀ (x4 : Int32) (x5 : Int32) (x6 : Int32) (t0 : Int32) (M : lc_MM), P_L_areCells_459  x4 x5 x6 t0 M = some out → lc_J S X 11 0 0 (lc_QI S X 0 0 out.1 out.2) 459 [(0, .ref (lc_ad S 194)), (1, .ref (lc_ad S 197)), (4, .int x4), (5, .int x5), (6, .int x6)] [.int t0] M := by
  intro x4 x5 x6 t0 M h
  rw [P_L_areCells_459] at h
  refine lc_istore C (pc' := 461) (lo' := [(7, .int t0), (0, .ref (lc_ad S 194)), (1, .ref (lc_ad S 197)), (4, .int x4), (5, .int x5), (6, .int x6)]) dL_areCells_459 (Nat.le_of_ble_eq_true rfl) rfl rfl ?_
  refine lc_iload C (pc' := 463) 0 dL_areCells_461 rfl rfl ?_
  refine lc_if_eq C (pc' := 466) (tgt := 521) dL_areCells_463 (by decide) rfl (fun c463 => ?_) (fun c463 => ?_)
  · have h := (lc_if2 h).1 c463
    refine lc_iconst C (pc' := 522) (v := (0 : Int32)) dL_areCells_521 (by decide) rfl ?_
    obtain rfl := Option.some.inj h
    exact lc_zret C rfl (Or.inl rfl) dL_areCells_522
  · have h := (lc_if2 h).2 c463
    refine lc_aload_n C (pc' := 467) 1 dL_areCells_466 rfl rfl ?_
    refine lc_bipush C (pc' := 469) (v := (7 : Int32)) dL_areCells_467 (by decide) rfl ?_
    obtain ⟨r469, M2, h469, h⟩ := lc_bd2e h
    refine lc_cvi C (pc' := 472) (r := r469) (M' := M2) (As := [.int (7 : Int32)]) (rest := []) (c_X3_about S X.2.1  (7 : Int32) M (r469, M2) h469) kl_RL_77 (lc_at194 S _) rfl rfl rfl rfl (Nat.le_of_ble_eq_true rfl) ⟨Nat.le_of_ble_eq_true rfl, Nat.le_of_ble_eq_true rfl⟩ ⟨rfl, rfl⟩ (lc_z2 _ _) dL_areCells_469 rfl ?_
    refine lc_iload C (pc' := 474) 5 dL_areCells_472 rfl rfl ?_
    refine lc_icmp_ne C (pc' := 477) (tgt := 521) dL_areCells_474 (by decide) rfl (fun c474 => ?_) (fun c474 => ?_)
    · have h := (lc_if2 h).2 c474
      refine lc_iconst C (pc' := 522) (v := (0 : Int32)) dL_areCells_521 (by decide) rfl ?_
      obtain rfl := Option.some.inj h
      exact lc_zret C rfl (Or.inl rfl) dL_areCells_522
    · have h := (lc_if2 h).1 c474
      refine lc_aload_n C (pc' := 478) 1 dL_areCells_477 rfl rfl ?_
      refine lc_bipush C (pc' := 480) (v := (8 : Int32)) dL_areCells_478 (by decide) rfl ?_
      obtain ⟨r480, M3, h480, h⟩ := lc_bd2e h
      refine lc_cvi C (pc' := 483) (r := r480) (M' := M3) (As := [.int (8 : Int32)]) (rest := []) (c_X3_about S X.2.1  (8 : Int32) M2 (r480, M3) h480) kl_RL_77 (lc_at194 S _) rfl rfl rfl rfl (Nat.le_of_ble_eq_true rfl) ⟨Nat.le_of_ble_eq_true rfl, Nat.le_of_ble_eq_true rfl⟩ ⟨rfl, rfl⟩ (lc_z2 _ _) dL_areCells_480 rfl ?_
      refine lc_aload_n C (pc' := 484) 2 dL_areCells_483 rfl rfl ?_
      refine lc_bipush C (pc' := 486) (v := (6 : Int32)) dL_areCells_484 (by decide) rfl ?_
      refine lc_ld197 C (pc' := 487) (jj := 6) rfl (by decide) (by decide) dL_areCells_486 rfl ?_
      refine lc_icmp_ne C (pc' := 490) (tgt := 521) dL_areCells_487 (by decide) rfl (fun c487 => ?_) (fun c487 => ?_)
      · have h := (lc_if2 h).2 c487
        refine lc_iconst C (pc' := 522) (v := (0 : Int32)) dL_areCells_521 (by decide) rfl ?_
        obtain rfl := Option.some.inj h
        exact lc_zret C rfl (Or.inl rfl) dL_areCells_522
      · have h := (lc_if2 h).1 c487
        refine lc_aload_n C (pc' := 491) 1 dL_areCells_490 rfl rfl ?_
        refine lc_bipush C (pc' := 493) (v := (9 : Int32)) dL_areCells_491 (by decide) rfl ?_
        obtain ⟨r493, M4, h493, h⟩ := lc_bd2e h
        refine lc_cvi C (pc' := 496) (r := r493) (M' := M4) (As := [.int (9 : Int32)]) (rest := []) (c_X3_about S X.2.1  (9 : Int32) M3 (r493, M4) h493) kl_RL_77 (lc_at194 S _) rfl rfl rfl rfl (Nat.le_of_ble_eq_true rfl) ⟨Nat.le_of_ble_eq_true rfl, Nat.le_of_ble_eq_true rfl⟩ ⟨rfl, rfl⟩ (lc_z2 _ _) dL_areCells_493 rfl ?_
        refine lc_iload C (pc' := 498) 4 dL_areCells_496 rfl rfl ?_
        refine lc_icmp_ne C (pc' := 501) (tgt := 521) dL_areCells_498 (by decide) rfl (fun c498 => ?_) (fun c498 => ?_)
        · have h := (lc_if2 h).2 c498
          refine lc_iconst C (pc' := 522) (v := (0 : Int32)) dL_areCells_521 (by decide) rfl ?_
          obtain rfl := Option.some.inj h
          exact lc_zret C rfl (Or.inl rfl) dL_areCells_522
        · have h := (lc_if2 h).1 c498
          refine lc_iload C (pc' := 503) 3 dL_areCells_501 rfl rfl ?_
          refine lc_aload_n C (pc' := 504) 2 dL_areCells_503 rfl rfl ?_
          refine lc_iconst C (pc' := 505) (v := (4 : Int32)) dL_areCells_504 (by decide) rfl ?_
          refine lc_ld197 C (pc' := 506) (jj := 4) rfl (by decide) (by decide) dL_areCells_505 rfl ?_
          refine lc_iadd C (pc' := 507) dL_areCells_506 rfl ?_
          refine lc_aload_n C (pc' := 508) 2 dL_areCells_507 rfl rfl ?_
          refine lc_iconst C (pc' := 509) (v := (5 : Int32)) dL_areCells_508 (by decide) rfl ?_
          refine lc_ld197 C (pc' := 510) (jj := 5) rfl (by decide) (by decide) dL_areCells_509 rfl ?_
          refine lc_iadd C (pc' := 511) dL_areCells_510 rfl ?_
          refine lc_aload_n C (pc' := 512) 2 dL_areCells_511 rfl rfl ?_
          refine lc_iconst C (pc' := 513) (v := (3 : Int32)) dL_areCells_512 (by decide) rfl ?_
          refine lc_ld197 C (pc' := 514) (jj := 3) rfl (by decide) (by decide) dL_areCells_513 rfl ?_
          refine lc_icmp_ne C (pc' := 517) (tgt := 521) dL_areCells_514 (by decide) rfl (fun c514 => ?_) (fun c514 => ?_)
          · have h := (lc_if2 h).2 c514
            refine lc_iconst C (pc' := 522) (v := (0 : Int32)) dL_areCells_521 (by decide) rfl ?_
            obtain rfl := Option.some.inj h
            exact lc_zret C rfl (Or.inl rfl) dL_areCells_522
          · have h := (lc_if2 h).1 c514
            refine lc_iconst C (pc' := 518) (v := (1 : Int32)) dL_areCells_517 (by decide) rfl ?_
            refine lc_goto C (tgt := 522) dL_areCells_518 (by decide) ?_
            obtain rfl := Option.some.inj h
            exact lc_zret C rfl (Or.inr rfl) dL_areCells_522
def P_L_areCells_458  (x4 : Int32) (x5 : Int32) (x6 : Int32) (M : lc_MM) : Option (Int32 × lc_MM) :=
  P_L_areCells_459   x4 x5 x6 (0 : Int32) M
set_option maxRecDepth 100000 in
set_option maxHeartbeats 4000000 in
theorem w_L_areCells_458 {S : lc_Se} {X : lc_X} (C : lc_C X cL_areCells RL 11 (some .boolean) rm_L_areCells)   (out : Int32 × lc_MM)  : ∀ (x4 : Int32) (x5 : Int32) (x6 : Int32) (M : lc_MM), P_L_areCells_458  x4 x5 x6 M = some out → lc_J S X 11 0 0 (lc_QI S X 0 0 out.1 out.2) 458 [(0, .ref (lc_ad S 194)), (1, .ref (lc_ad S 197)), (4, .int x4), (5, .int x5), (6, .int x6)] [] M := by
  intro x4 x5 x6 M h
  rw [P_L_areCells_458] at h
  refine lc_iconst C (pc' := 459) (v := (0 : Int32)) dL_areCells_458 (by decide) rfl ?_
  exact w_L_areCells_459 C   out   x4 x5 x6 (0 : Int32) M h
def P_L_areCells_288 (K277 : Int32 → Int32 → Int32 → Int32 → lc_MM → Option (Int32 × lc_MM)) : Nat → Int32 → Int32 → Int32 → Int32 → Int32 → lc_MM → Option (Int32 × lc_MM)
  | 0, _, _, _, _, _, _ => none
  | n + 1, x4, x5, x6, x7, x8, M =>
    if (4 : Int32) ≤ x8 then lc_bd2 (P_X3_loan x7 (4 : Int32) M) (fun r326 M11 => lc_bd (P_L_interest x7 (M11 22)) (fun r332 => if r326 = r332 then lc_bd2 (P_X3_loan x7 (5 : Int32) M11) (fun r342 M12 => lc_if (lc_ok (((5 : Int32) * x7) + (4 : Int32)) 60) (if r342 = ((M12 22) 2 (((5 : Int32) * x7) + (4 : Int32)).toNatClampNeg) then lc_if (lc_ok (((5 : Int32) * x7) + (2 : Int32)) 60) (lc_let (x6 + ((M12 22) 2 (((5 : Int32) * x7) + (2 : Int32)).toNatClampNeg)) (fun x6_369 => lc_let (x7 + (1 : Int32)) (fun x7_371 => K277 x4 x5 x6_369 x7_371 M12))) else some ((0 : Int32), M12))) else some ((0 : Int32), M11))) else lc_bd2 (P_X3_loan x7 x8 M) (fun r299 M13 => lc_if (lc_ok (((5 : Int32) * x7) + x8) 60) (if r299 = ((M13 22) 2 (((5 : Int32) * x7) + x8).toNatClampNeg) then lc_let (x8 + (1 : Int32)) (fun x8_316 => P_L_areCells_288 K277 n x4 x5 x6 x7 x8_316 M13) else some ((0 : Int32), M13)))
set_option maxRecDepth 100000 in
set_option maxHeartbeats 4000000 in
theorem w_L_areCells_288 {S : lc_Se} {X : lc_X} (C : lc_C X cL_areCells RL 11 (some .boolean) rm_L_areCells)   (out : Int32 × lc_MM) (K277 : Int32 → Int32 → Int32 → Int32 → lc_MM → Option (Int32 × lc_MM)) (hK277 : ∀ (x4 : Int32) (x5 : Int32) (x6 : Int32) (x7 : Int32) (M : lc_MM), K277 x4 x5 x6 x7 M = some out → lc_J S X 11 0 0 (lc_QI S X 0 0 out.1 out.2) 277 [(0, .ref (lc_ad S 194)), (1, .ref (lc_ad S 197)), (3, .ref (lc_ad S 199)), (4, .int x4), (5, .int x5), (6, .int x6), (7, .int x7)] [] M) : ∀ (n : Nat) (x4 : Int32) (x5 : Int32) (x6 : Int32) (x7 : Int32) (x8 : Int32) (M : lc_MM), P_L_areCells_288 K277 n x4 x5 x6 x7 x8 M = some out → lc_J S X 11 0 0 (lc_QI S X 0 0 out.1 out.2) 288 [(0, .ref (lc_ad S 194)), (1, .ref (lc_ad S 197)), (3, .ref (lc_ad S 199)), (4, .int x4), (5, .int x5), (6, .int x6), (7, .int x7), (8, .int x8)] [] M := by
  intro n
  induction n with
  | zero =>
    intro x4 x5 x6 x7 x8 M h
    rw [P_L_areCells_288] at h
    cases h
  | succ n ih =>
    intro x4 x5 x6 x7 x8 M h
    rw [P_L_areCells_288] at h
    refine lc_iload C (pc' := 290) 7 dL_areCells_288 rfl rfl ?_
    refine lc_iconst C (pc' := 291) (v := (4 : Int32)) dL_areCells_290 (by decide) rfl ?_
    refine lc_icmp_ge C (pc' := 294) (tgt := 322) dL_areCells_291 (by decide) rfl (fun c291 => ?_) (fun c291 => ?_)
    · have h := (lc_if2 h).1 c291
      refine lc_aload_n C (pc' := 323) 0 dL_areCells_322 rfl rfl ?_
      refine lc_iload C (pc' := 325) 6 dL_areCells_323 rfl rfl ?_
      refine lc_iconst C (pc' := 326) (v := (4 : Int32)) dL_areCells_325 (by decide) rfl ?_
      obtain ⟨r326, M11, h326, h⟩ := lc_bd2e h
      refine lc_cvi C (pc' := 329) (r := r326) (M' := M11) (As := [.int x7, .int (4 : Int32)]) (rest := []) (c_X3_loan S X.2.1  x7 (4 : Int32) M (r326, M11) h326) kl_RL_74 (lc_at194 S _) rfl rfl rfl rfl (Nat.le_of_ble_eq_true rfl) ⟨Nat.le_of_ble_eq_true rfl, Nat.le_of_ble_eq_true rfl⟩ ⟨rfl, rfl⟩ (lc_z2 _ _) dL_areCells_326 rfl ?_
      refine lc_aload_n C (pc' := 330) 2 dL_areCells_329 rfl rfl ?_
      refine lc_iload C (pc' := 332) 6 dL_areCells_330 rfl rfl ?_
      refine lc_meq (lc_up_self M11 22).symm ?_
      obtain ⟨r332, h332, h⟩ := lc_bde h
      refine lc_csi C (pc' := 335) (r := r332) (M' := (va_up M11 22 (M11 22))) (As := [.ref (lc_ad S 199), .int x7]) (rest := [.int r326]) (c_L_interest S X.2.1 M11   x7 (M11 22) r332 h332) kl_RL_59 rfl rfl (Nat.le_of_ble_eq_true rfl) ⟨Nat.le_of_ble_eq_true rfl, Nat.le_of_ble_eq_true rfl⟩ ⟨rfl, rfl⟩ (lc_z2 _ _) dL_areCells_332 rfl ?_
      refine lc_meq (lc_up_self M11 22) ?_
      refine lc_icmp_ne C (pc' := 338) (tgt := 356) dL_areCells_335 (by decide) rfl (fun c335 => ?_) (fun c335 => ?_)
      · have h := (lc_if2 h).2 c335
        refine lc_iconst C (pc' := 357) (v := (0 : Int32)) dL_areCells_356 (by decide) rfl ?_
        obtain rfl := Option.some.inj h
        exact lc_zret C rfl (Or.inl rfl) dL_areCells_357
      · have h := (lc_if2 h).1 c335
        refine lc_aload_n C (pc' := 339) 0 dL_areCells_338 rfl rfl ?_
        refine lc_iload C (pc' := 341) 6 dL_areCells_339 rfl rfl ?_
        refine lc_iconst C (pc' := 342) (v := (5 : Int32)) dL_areCells_341 (by decide) rfl ?_
        obtain ⟨r342, M12, h342, h⟩ := lc_bd2e h
        refine lc_cvi C (pc' := 345) (r := r342) (M' := M12) (As := [.int x7, .int (5 : Int32)]) (rest := []) (c_X3_loan S X.2.1  x7 (5 : Int32) M11 (r342, M12) h342) kl_RL_74 (lc_at194 S _) rfl rfl rfl rfl (Nat.le_of_ble_eq_true rfl) ⟨Nat.le_of_ble_eq_true rfl, Nat.le_of_ble_eq_true rfl⟩ ⟨rfl, rfl⟩ (lc_z2 _ _) dL_areCells_342 rfl ?_
        refine lc_aload_n C (pc' := 346) 2 dL_areCells_345 rfl rfl ?_
        refine lc_iconst C (pc' := 347) (v := (5 : Int32)) dL_areCells_346 (by decide) rfl ?_
        refine lc_iload C (pc' := 349) 6 dL_areCells_347 rfl rfl ?_
        refine lc_imul C (pc' := 350) dL_areCells_349 rfl ?_
        refine lc_iconst C (pc' := 351) (v := (4 : Int32)) dL_areCells_350 (by decide) rfl ?_
        refine lc_iadd C (pc' := 352) dL_areCells_351 rfl ?_
        obtain ⟨hi352, h⟩ := lc_ife h
        refine lc_ld199 C (pc' := 353) (jj := (((5 : Int32) * x7) + (4 : Int32)).toNatClampNeg) rfl hi352 rfl dL_areCells_352 rfl ?_
        refine lc_icmp_eq C (pc' := 356) (tgt := 358) dL_areCells_353 (by decide) rfl (fun c353 => ?_) (fun c353 => ?_)
        · have h := (lc_if2 h).1 c353
          refine lc_iload C (pc' := 360) 5 dL_areCells_358 rfl rfl ?_
          refine lc_aload_n C (pc' := 361) 2 dL_areCells_360 rfl rfl ?_
          refine lc_iconst C (pc' := 362) (v := (5 : Int32)) dL_areCells_361 (by decide) rfl ?_
          refine lc_iload C (pc' := 364) 6 dL_areCells_362 rfl rfl ?_
          refine lc_imul C (pc' := 365) dL_areCells_364 rfl ?_
          refine lc_iconst C (pc' := 366) (v := (2 : Int32)) dL_areCells_365 (by decide) rfl ?_
          refine lc_iadd C (pc' := 367) dL_areCells_366 rfl ?_
          obtain ⟨hi367, h⟩ := lc_ife h
          refine lc_ld199 C (pc' := 368) (jj := (((5 : Int32) * x7) + (2 : Int32)).toNatClampNeg) rfl hi367 rfl dL_areCells_367 rfl ?_
          refine lc_iadd C (pc' := 369) dL_areCells_368 rfl ?_
          obtain ⟨x6_369, e6_369, h⟩ := lc_let2 h
          rw [e6_369]
          refine lc_istore C (pc' := 371) (lo' := [(6, .int x6_369), (0, .ref (lc_ad S 194)), (1, .ref (lc_ad S 197)), (3, .ref (lc_ad S 199)), (4, .int x4), (5, .int x5), (7, .int x7), (8, .int x8)]) dL_areCells_369 (Nat.le_of_ble_eq_true rfl) rfl rfl ?_
          obtain ⟨x7_371, e7_371, h⟩ := lc_let2 h
          refine lc_iinc C (pc' := 374) (lo' := [(7, .int x7_371), (6, .int x6_369), (0, .ref (lc_ad S 194)), (1, .ref (lc_ad S 197)), (3, .ref (lc_ad S 199)), (4, .int x4), (5, .int x5), (8, .int x8)]) (q := 6) dL_areCells_371 rfl (by rw [← e7_371]; rfl) (Nat.le_of_ble_eq_true rfl) rfl rfl ?_
          refine lc_goto C (tgt := 277) dL_areCells_374 (by decide) ?_
          refine lc_sub (lo' := [(0, .ref (lc_ad S 194)), (1, .ref (lc_ad S 197)), (3, .ref (lc_ad S 199)), (4, .int x4), (5, .int x5), (6, .int x6_369), (7, .int x7_371)]) [2, 3, 4, 5, 6, 1, 0] rfl ?_
          exact hK277 x4 x5 x6_369 x7_371 M12 h
        · have h := (lc_if2 h).2 c353
          refine lc_iconst C (pc' := 357) (v := (0 : Int32)) dL_areCells_356 (by decide) rfl ?_
          obtain rfl := Option.some.inj h
          exact lc_zret C rfl (Or.inl rfl) dL_areCells_357
    · have h := (lc_if2 h).2 c291
      refine lc_aload_n C (pc' := 295) 0 dL_areCells_294 rfl rfl ?_
      refine lc_iload C (pc' := 297) 6 dL_areCells_295 rfl rfl ?_
      refine lc_iload C (pc' := 299) 7 dL_areCells_297 rfl rfl ?_
      obtain ⟨r299, M13, h299, h⟩ := lc_bd2e h
      refine lc_cvi C (pc' := 302) (r := r299) (M' := M13) (As := [.int x7, .int x8]) (rest := []) (c_X3_loan S X.2.1  x7 x8 M (r299, M13) h299) kl_RL_74 (lc_at194 S _) rfl rfl rfl rfl (Nat.le_of_ble_eq_true rfl) ⟨Nat.le_of_ble_eq_true rfl, Nat.le_of_ble_eq_true rfl⟩ ⟨rfl, rfl⟩ (lc_z2 _ _) dL_areCells_299 rfl ?_
      refine lc_aload_n C (pc' := 303) 2 dL_areCells_302 rfl rfl ?_
      refine lc_iconst C (pc' := 304) (v := (5 : Int32)) dL_areCells_303 (by decide) rfl ?_
      refine lc_iload C (pc' := 306) 6 dL_areCells_304 rfl rfl ?_
      refine lc_imul C (pc' := 307) dL_areCells_306 rfl ?_
      refine lc_iload C (pc' := 309) 7 dL_areCells_307 rfl rfl ?_
      refine lc_iadd C (pc' := 310) dL_areCells_309 rfl ?_
      obtain ⟨hi310, h⟩ := lc_ife h
      refine lc_ld199 C (pc' := 311) (jj := (((5 : Int32) * x7) + x8).toNatClampNeg) rfl hi310 rfl dL_areCells_310 rfl ?_
      refine lc_icmp_eq C (pc' := 314) (tgt := 316) dL_areCells_311 (by decide) rfl (fun c311 => ?_) (fun c311 => ?_)
      · have h := (lc_if2 h).1 c311
        obtain ⟨x8_316, e8_316, h⟩ := lc_let2 h
        refine lc_iinc C (pc' := 319) (lo' := [(8, .int x8_316), (0, .ref (lc_ad S 194)), (1, .ref (lc_ad S 197)), (3, .ref (lc_ad S 199)), (4, .int x4), (5, .int x5), (6, .int x6), (7, .int x7)]) (q := 7) dL_areCells_316 rfl (by rw [← e8_316]; rfl) (Nat.le_of_ble_eq_true rfl) rfl rfl ?_
        refine lc_goto C (tgt := 288) dL_areCells_319 (by decide) ?_
        refine lc_sub (lo' := [(0, .ref (lc_ad S 194)), (1, .ref (lc_ad S 197)), (3, .ref (lc_ad S 199)), (4, .int x4), (5, .int x5), (6, .int x6), (7, .int x7), (8, .int x8_316)]) [1, 2, 3, 4, 5, 6, 7, 0] rfl ?_
        exact ih x4 x5 x6 x7 x8_316 M13 h
      · have h := (lc_if2 h).2 c311
        refine lc_iconst C (pc' := 315) (v := (0 : Int32)) dL_areCells_314 (by decide) rfl ?_
        obtain rfl := Option.some.inj h
        exact lc_zret C rfl (Or.inl rfl) dL_areCells_315
def P_L_areCells_277  : Nat → Int32 → Int32 → Int32 → Int32 → lc_MM → Option (Int32 × lc_MM)
  | 0, _, _, _, _, _ => none
  | n + 1, x4, x5, x6, x7, M =>
    if ((M 22) 0 2) ≤ x7 then lc_bd2 (P_X3_about (0 : Int32) M) (fun r379 M1 => if r379 = ((M1 22) 0 1) then lc_bd2 (P_X3_about (1 : Int32) M1) (fun r390 M5 => if r390 = ((M5 22) 0 2) then lc_bd2 (P_X3_about (2 : Int32) M5) (fun r401 M6 => if r401 = ((M6 22) 0 0) then lc_bd2 (P_X3_about (3 : Int32) M6) (fun r412 M7 => if r412 = x4 then lc_bd2 (P_X3_about (4 : Int32) M7) (fun r422 M8 => if r422 = ((M8 22) 0 3) then lc_bd2 (P_X3_about (5 : Int32) M8) (fun r433 M9 => if r433 = ((M9 22) 0 4) then lc_bd2 (P_X3_about (6 : Int32) M9) (fun r445 M10 => if r445 = ((M10 22) 0 5) then P_L_areCells_459   x4 x5 x6 (1 : Int32) M10 else P_L_areCells_458   x4 x5 x6 M10) else P_L_areCells_458   x4 x5 x6 M9) else P_L_areCells_458   x4 x5 x6 M8) else P_L_areCells_458   x4 x5 x6 M7) else P_L_areCells_458   x4 x5 x6 M6) else P_L_areCells_458   x4 x5 x6 M5) else P_L_areCells_458   x4 x5 x6 M1) else P_L_areCells_288 (fun x4 x5 x6 x7 M => P_L_areCells_277  n x4 x5 x6 x7 M) lc_FU x4 x5 x6 x7 (0 : Int32) M
set_option maxRecDepth 100000 in
set_option maxHeartbeats 4000000 in
theorem w_L_areCells_277 {S : lc_Se} {X : lc_X} (C : lc_C X cL_areCells RL 11 (some .boolean) rm_L_areCells)   (out : Int32 × lc_MM)  : ∀ (n : Nat) (x4 : Int32) (x5 : Int32) (x6 : Int32) (x7 : Int32) (M : lc_MM), P_L_areCells_277  n x4 x5 x6 x7 M = some out → lc_J S X 11 0 0 (lc_QI S X 0 0 out.1 out.2) 277 [(0, .ref (lc_ad S 194)), (1, .ref (lc_ad S 197)), (3, .ref (lc_ad S 199)), (4, .int x4), (5, .int x5), (6, .int x6), (7, .int x7)] [] M := by
  intro n
  induction n with
  | zero =>
    intro x4 x5 x6 x7 M h
    rw [P_L_areCells_277] at h
    cases h
  | succ n ih =>
    intro x4 x5 x6 x7 M h
    rw [P_L_areCells_277] at h
    refine lc_iload C (pc' := 279) 6 dL_areCells_277 rfl rfl ?_
    refine lc_aload_n C (pc' := 280) 1 dL_areCells_279 rfl rfl ?_
    refine lc_iconst C (pc' := 281) (v := (2 : Int32)) dL_areCells_280 (by decide) rfl ?_
    refine lc_ld197 C (pc' := 282) (jj := 2) rfl (by decide) (by decide) dL_areCells_281 rfl ?_
    refine lc_icmp_ge C (pc' := 285) (tgt := 377) dL_areCells_282 (by decide) rfl (fun c282 => ?_) (fun c282 => ?_)
    · have h := (lc_if2 h).1 c282
      refine lc_aload_n C (pc' := 378) 0 dL_areCells_377 rfl rfl ?_
      refine lc_iconst C (pc' := 379) (v := (0 : Int32)) dL_areCells_378 (by decide) rfl ?_
      obtain ⟨r379, M1, h379, h⟩ := lc_bd2e h
      refine lc_cvi C (pc' := 382) (r := r379) (M' := M1) (As := [.int (0 : Int32)]) (rest := []) (c_X3_about S X.2.1  (0 : Int32) M (r379, M1) h379) kl_RL_77 (lc_at194 S _) rfl rfl rfl rfl (Nat.le_of_ble_eq_true rfl) ⟨Nat.le_of_ble_eq_true rfl, Nat.le_of_ble_eq_true rfl⟩ ⟨rfl, rfl⟩ (lc_z2 _ _) dL_areCells_379 rfl ?_
      refine lc_aload_n C (pc' := 383) 1 dL_areCells_382 rfl rfl ?_
      refine lc_iconst C (pc' := 384) (v := (1 : Int32)) dL_areCells_383 (by decide) rfl ?_
      refine lc_ld197 C (pc' := 385) (jj := 1) rfl (by decide) (by decide) dL_areCells_384 rfl ?_
      refine lc_icmp_ne C (pc' := 388) (tgt := 458) dL_areCells_385 (by decide) rfl (fun c385 => ?_) (fun c385 => ?_)
      · have h := (lc_if2 h).2 c385
        refine lc_sub (lo' := [(0, .ref (lc_ad S 194)), (1, .ref (lc_ad S 197)), (4, .int x4), (5, .int x5), (6, .int x6)]) [0, 1, 3, 4, 5] rfl ?_
        exact w_L_areCells_458 C   out   x4 x5 x6 M1 h
      · have h := (lc_if2 h).1 c385
        refine lc_aload_n C (pc' := 389) 0 dL_areCells_388 rfl rfl ?_
        refine lc_iconst C (pc' := 390) (v := (1 : Int32)) dL_areCells_389 (by decide) rfl ?_
        obtain ⟨r390, M5, h390, h⟩ := lc_bd2e h
        refine lc_cvi C (pc' := 393) (r := r390) (M' := M5) (As := [.int (1 : Int32)]) (rest := []) (c_X3_about S X.2.1  (1 : Int32) M1 (r390, M5) h390) kl_RL_77 (lc_at194 S _) rfl rfl rfl rfl (Nat.le_of_ble_eq_true rfl) ⟨Nat.le_of_ble_eq_true rfl, Nat.le_of_ble_eq_true rfl⟩ ⟨rfl, rfl⟩ (lc_z2 _ _) dL_areCells_390 rfl ?_
        refine lc_aload_n C (pc' := 394) 1 dL_areCells_393 rfl rfl ?_
        refine lc_iconst C (pc' := 395) (v := (2 : Int32)) dL_areCells_394 (by decide) rfl ?_
        refine lc_ld197 C (pc' := 396) (jj := 2) rfl (by decide) (by decide) dL_areCells_395 rfl ?_
        refine lc_icmp_ne C (pc' := 399) (tgt := 458) dL_areCells_396 (by decide) rfl (fun c396 => ?_) (fun c396 => ?_)
        · have h := (lc_if2 h).2 c396
          refine lc_sub (lo' := [(0, .ref (lc_ad S 194)), (1, .ref (lc_ad S 197)), (4, .int x4), (5, .int x5), (6, .int x6)]) [0, 1, 3, 4, 5] rfl ?_
          exact w_L_areCells_458 C   out   x4 x5 x6 M5 h
        · have h := (lc_if2 h).1 c396
          refine lc_aload_n C (pc' := 400) 0 dL_areCells_399 rfl rfl ?_
          refine lc_iconst C (pc' := 401) (v := (2 : Int32)) dL_areCells_400 (by decide) rfl ?_
          obtain ⟨r401, M6, h401, h⟩ := lc_bd2e h
          refine lc_cvi C (pc' := 404) (r := r401) (M' := M6) (As := [.int (2 : Int32)]) (rest := []) (c_X3_about S X.2.1  (2 : Int32) M5 (r401, M6) h401) kl_RL_77 (lc_at194 S _) rfl rfl rfl rfl (Nat.le_of_ble_eq_true rfl) ⟨Nat.le_of_ble_eq_true rfl, Nat.le_of_ble_eq_true rfl⟩ ⟨rfl, rfl⟩ (lc_z2 _ _) dL_areCells_401 rfl ?_
          refine lc_aload_n C (pc' := 405) 1 dL_areCells_404 rfl rfl ?_
          refine lc_iconst C (pc' := 406) (v := (0 : Int32)) dL_areCells_405 (by decide) rfl ?_
          refine lc_ld197 C (pc' := 407) (jj := 0) rfl (by decide) (by decide) dL_areCells_406 rfl ?_
          refine lc_icmp_ne C (pc' := 410) (tgt := 458) dL_areCells_407 (by decide) rfl (fun c407 => ?_) (fun c407 => ?_)
          · have h := (lc_if2 h).2 c407
            refine lc_sub (lo' := [(0, .ref (lc_ad S 194)), (1, .ref (lc_ad S 197)), (4, .int x4), (5, .int x5), (6, .int x6)]) [0, 1, 3, 4, 5] rfl ?_
            exact w_L_areCells_458 C   out   x4 x5 x6 M6 h
          · have h := (lc_if2 h).1 c407
            refine lc_aload_n C (pc' := 411) 0 dL_areCells_410 rfl rfl ?_
            refine lc_iconst C (pc' := 412) (v := (3 : Int32)) dL_areCells_411 (by decide) rfl ?_
            obtain ⟨r412, M7, h412, h⟩ := lc_bd2e h
            refine lc_cvi C (pc' := 415) (r := r412) (M' := M7) (As := [.int (3 : Int32)]) (rest := []) (c_X3_about S X.2.1  (3 : Int32) M6 (r412, M7) h412) kl_RL_77 (lc_at194 S _) rfl rfl rfl rfl (Nat.le_of_ble_eq_true rfl) ⟨Nat.le_of_ble_eq_true rfl, Nat.le_of_ble_eq_true rfl⟩ ⟨rfl, rfl⟩ (lc_z2 _ _) dL_areCells_412 rfl ?_
            refine lc_iload C (pc' := 417) 3 dL_areCells_415 rfl rfl ?_
            refine lc_icmp_ne C (pc' := 420) (tgt := 458) dL_areCells_417 (by decide) rfl (fun c417 => ?_) (fun c417 => ?_)
            · have h := (lc_if2 h).2 c417
              refine lc_sub (lo' := [(0, .ref (lc_ad S 194)), (1, .ref (lc_ad S 197)), (4, .int x4), (5, .int x5), (6, .int x6)]) [0, 1, 3, 4, 5] rfl ?_
              exact w_L_areCells_458 C   out   x4 x5 x6 M7 h
            · have h := (lc_if2 h).1 c417
              refine lc_aload_n C (pc' := 421) 0 dL_areCells_420 rfl rfl ?_
              refine lc_iconst C (pc' := 422) (v := (4 : Int32)) dL_areCells_421 (by decide) rfl ?_
              obtain ⟨r422, M8, h422, h⟩ := lc_bd2e h
              refine lc_cvi C (pc' := 425) (r := r422) (M' := M8) (As := [.int (4 : Int32)]) (rest := []) (c_X3_about S X.2.1  (4 : Int32) M7 (r422, M8) h422) kl_RL_77 (lc_at194 S _) rfl rfl rfl rfl (Nat.le_of_ble_eq_true rfl) ⟨Nat.le_of_ble_eq_true rfl, Nat.le_of_ble_eq_true rfl⟩ ⟨rfl, rfl⟩ (lc_z2 _ _) dL_areCells_422 rfl ?_
              refine lc_aload_n C (pc' := 426) 1 dL_areCells_425 rfl rfl ?_
              refine lc_iconst C (pc' := 427) (v := (3 : Int32)) dL_areCells_426 (by decide) rfl ?_
              refine lc_ld197 C (pc' := 428) (jj := 3) rfl (by decide) (by decide) dL_areCells_427 rfl ?_
              refine lc_icmp_ne C (pc' := 431) (tgt := 458) dL_areCells_428 (by decide) rfl (fun c428 => ?_) (fun c428 => ?_)
              · have h := (lc_if2 h).2 c428
                refine lc_sub (lo' := [(0, .ref (lc_ad S 194)), (1, .ref (lc_ad S 197)), (4, .int x4), (5, .int x5), (6, .int x6)]) [0, 1, 3, 4, 5] rfl ?_
                exact w_L_areCells_458 C   out   x4 x5 x6 M8 h
              · have h := (lc_if2 h).1 c428
                refine lc_aload_n C (pc' := 432) 0 dL_areCells_431 rfl rfl ?_
                refine lc_iconst C (pc' := 433) (v := (5 : Int32)) dL_areCells_432 (by decide) rfl ?_
                obtain ⟨r433, M9, h433, h⟩ := lc_bd2e h
                refine lc_cvi C (pc' := 436) (r := r433) (M' := M9) (As := [.int (5 : Int32)]) (rest := []) (c_X3_about S X.2.1  (5 : Int32) M8 (r433, M9) h433) kl_RL_77 (lc_at194 S _) rfl rfl rfl rfl (Nat.le_of_ble_eq_true rfl) ⟨Nat.le_of_ble_eq_true rfl, Nat.le_of_ble_eq_true rfl⟩ ⟨rfl, rfl⟩ (lc_z2 _ _) dL_areCells_433 rfl ?_
                refine lc_aload_n C (pc' := 437) 1 dL_areCells_436 rfl rfl ?_
                refine lc_iconst C (pc' := 438) (v := (4 : Int32)) dL_areCells_437 (by decide) rfl ?_
                refine lc_ld197 C (pc' := 439) (jj := 4) rfl (by decide) (by decide) dL_areCells_438 rfl ?_
                refine lc_icmp_ne C (pc' := 442) (tgt := 458) dL_areCells_439 (by decide) rfl (fun c439 => ?_) (fun c439 => ?_)
                · have h := (lc_if2 h).2 c439
                  refine lc_sub (lo' := [(0, .ref (lc_ad S 194)), (1, .ref (lc_ad S 197)), (4, .int x4), (5, .int x5), (6, .int x6)]) [0, 1, 3, 4, 5] rfl ?_
                  exact w_L_areCells_458 C   out   x4 x5 x6 M9 h
                · have h := (lc_if2 h).1 c439
                  refine lc_aload_n C (pc' := 443) 0 dL_areCells_442 rfl rfl ?_
                  refine lc_bipush C (pc' := 445) (v := (6 : Int32)) dL_areCells_443 (by decide) rfl ?_
                  obtain ⟨r445, M10, h445, h⟩ := lc_bd2e h
                  refine lc_cvi C (pc' := 448) (r := r445) (M' := M10) (As := [.int (6 : Int32)]) (rest := []) (c_X3_about S X.2.1  (6 : Int32) M9 (r445, M10) h445) kl_RL_77 (lc_at194 S _) rfl rfl rfl rfl (Nat.le_of_ble_eq_true rfl) ⟨Nat.le_of_ble_eq_true rfl, Nat.le_of_ble_eq_true rfl⟩ ⟨rfl, rfl⟩ (lc_z2 _ _) dL_areCells_445 rfl ?_
                  refine lc_aload_n C (pc' := 449) 1 dL_areCells_448 rfl rfl ?_
                  refine lc_iconst C (pc' := 450) (v := (5 : Int32)) dL_areCells_449 (by decide) rfl ?_
                  refine lc_ld197 C (pc' := 451) (jj := 5) rfl (by decide) (by decide) dL_areCells_450 rfl ?_
                  refine lc_icmp_ne C (pc' := 454) (tgt := 458) dL_areCells_451 (by decide) rfl (fun c451 => ?_) (fun c451 => ?_)
                  · have h := (lc_if2 h).2 c451
                    refine lc_sub (lo' := [(0, .ref (lc_ad S 194)), (1, .ref (lc_ad S 197)), (4, .int x4), (5, .int x5), (6, .int x6)]) [0, 1, 3, 4, 5] rfl ?_
                    exact w_L_areCells_458 C   out   x4 x5 x6 M10 h
                  · have h := (lc_if2 h).1 c451
                    refine lc_iconst C (pc' := 455) (v := (1 : Int32)) dL_areCells_454 (by decide) rfl ?_
                    refine lc_goto C (tgt := 459) dL_areCells_455 (by decide) ?_
                    refine lc_sub (lo' := [(0, .ref (lc_ad S 194)), (1, .ref (lc_ad S 197)), (4, .int x4), (5, .int x5), (6, .int x6)]) [0, 1, 3, 4, 5] rfl ?_
                    exact w_L_areCells_459 C   out   x4 x5 x6 (1 : Int32) M10 h
    · have h := (lc_if2 h).2 c282
      refine lc_iconst C (pc' := 286) (v := (0 : Int32)) dL_areCells_285 (by decide) rfl ?_
      refine lc_istore C (pc' := 288) (lo' := [(8, .int (0 : Int32)), (0, .ref (lc_ad S 194)), (1, .ref (lc_ad S 197)), (3, .ref (lc_ad S 199)), (4, .int x4), (5, .int x5), (6, .int x6), (7, .int x7)]) dL_areCells_286 (Nat.le_of_ble_eq_true rfl) rfl rfl ?_
      refine lc_sub (lo' := [(0, .ref (lc_ad S 194)), (1, .ref (lc_ad S 197)), (3, .ref (lc_ad S 199)), (4, .int x4), (5, .int x5), (6, .int x6), (7, .int x7), (8, .int (0 : Int32))]) [1, 2, 3, 4, 5, 6, 7, 0] rfl ?_
      exact w_L_areCells_288 C   out (fun x4 x5 x6 x7 M => P_L_areCells_277  n x4 x5 x6 x7 M) ih lc_FU x4 x5 x6 x7 (0 : Int32) M h
def P_L_areCells_118 (K9 : Int32 → Int32 → Int32 → lc_MM → Option (Int32 × lc_MM)) (x4 : Int32) (x5 : Int32) (x6 : Int32) (x7 : Int32) (x8 : Int32) (x9 : Int32) (t0 : Int32) (M : lc_MM) : Option (Int32 × lc_MM) :=
  lc_bd2 (P_X3_cell x6 (0 : Int32) M) (fun r124 M14 => lc_if (lc_ok x7 30) (if r124 = ((M14 22) 1 x7.toNatClampNeg) then lc_bd2 (P_X3_cell x6 (1 : Int32) M14) (fun r138 M15 => lc_if (lc_ok (x7 + (1 : Int32)) 30) (if r138 = ((M15 22) 1 (x7 + (1 : Int32)).toNatClampNeg) then lc_bd2 (P_X3_cell x6 (2 : Int32) M15) (fun r154 M16 => lc_if (lc_ok (x7 + (2 : Int32)) 30) (if r154 = ((M16 22) 1 (x7 + (2 : Int32)).toNatClampNeg) then lc_bd2 (P_X3_cell x6 (3 : Int32) M16) (fun r170 M17 => lc_if (lc_ok (x7 + (3 : Int32)) 30) (if r170 = ((M17 22) 1 (x7 + (3 : Int32)).toNatClampNeg) then lc_bd2 (P_X3_cell x6 (4 : Int32) M17) (fun r186 M18 => if r186 = x8 then lc_bd2 (P_X3_cell x6 (5 : Int32) M18) (fun r198 M19 => lc_bd (P_L_owed x6 (0 : Int32) (M19 22)) (fun r206 => if r198 = r206 then lc_bd2 (P_X3_cell x6 (6 : Int32) M19) (fun r217 M20 => if r217 = x9 then lc_bd2 (P_X3_cell x6 (7 : Int32) M20) (fun r230 M21 => if r230 = t0 then lc_if (lc_ok (x7 + (1 : Int32)) 30) (lc_let (x4 + ((M21 22) 1 (x7 + (1 : Int32)).toNatClampNeg)) (fun x4_249 => lc_if (lc_ok (x7 + (4 : Int32)) 30) (lc_let (x5 ||| (((M21 22) 1 (x7 + (4 : Int32)).toNatClampNeg) <<< (x6 &&& 31))) (fun x5_263 => lc_let (x6 + (1 : Int32)) (fun x6_265 => K9 x4_249 x5_263 x6_265 M21))))) else some ((0 : Int32), M21)) else some ((0 : Int32), M20)) else some ((0 : Int32), M19))) else some ((0 : Int32), M18)) else some ((0 : Int32), M17))) else some ((0 : Int32), M16))) else some ((0 : Int32), M15))) else some ((0 : Int32), M14)))
set_option maxRecDepth 100000 in
set_option maxHeartbeats 4000000 in
theorem w_L_areCells_118 {S : lc_Se} {X : lc_X} (C : lc_C X cL_areCells RL 11 (some .boolean) rm_L_areCells)   (out : Int32 × lc_MM) (K9 : Int32 → Int32 → Int32 → lc_MM → Option (Int32 × lc_MM)) (hK9 : ∀ (x4 : Int32) (x5 : Int32) (x6 : Int32) (M : lc_MM), K9 x4 x5 x6 M = some out → lc_J S X 11 0 0 (lc_QI S X 0 0 out.1 out.2) 9 [(0, .ref (lc_ad S 194)), (1, .ref (lc_ad S 197)), (2, .ref (lc_ad S 198)), (3, .ref (lc_ad S 199)), (4, .int x4), (5, .int x5), (6, .int x6)] [] M) : ∀ (x4 : Int32) (x5 : Int32) (x6 : Int32) (x7 : Int32) (x8 : Int32) (x9 : Int32) (t0 : Int32) (M : lc_MM), P_L_areCells_118 K9 x4 x5 x6 x7 x8 x9 t0 M = some out → lc_J S X 11 0 0 (lc_QI S X 0 0 out.1 out.2) 118 [(0, .ref (lc_ad S 194)), (1, .ref (lc_ad S 197)), (2, .ref (lc_ad S 198)), (3, .ref (lc_ad S 199)), (4, .int x4), (5, .int x5), (6, .int x6), (7, .int x7), (8, .int x8), (9, .int x9)] [.int t0] M := by
  intro x4 x5 x6 x7 x8 x9 t0 M h
  rw [P_L_areCells_118] at h
  refine lc_istore C (pc' := 120) (lo' := [(10, .int t0), (0, .ref (lc_ad S 194)), (1, .ref (lc_ad S 197)), (2, .ref (lc_ad S 198)), (3, .ref (lc_ad S 199)), (4, .int x4), (5, .int x5), (6, .int x6), (7, .int x7), (8, .int x8), (9, .int x9)]) dL_areCells_118 (Nat.le_of_ble_eq_true rfl) rfl rfl ?_
  refine lc_aload_n C (pc' := 121) 1 dL_areCells_120 rfl rfl ?_
  refine lc_iload C (pc' := 123) 7 dL_areCells_121 rfl rfl ?_
  refine lc_iconst C (pc' := 124) (v := (0 : Int32)) dL_areCells_123 (by decide) rfl ?_
  obtain ⟨r124, M14, h124, h⟩ := lc_bd2e h
  refine lc_cvi C (pc' := 127) (r := r124) (M' := M14) (As := [.int x6, .int (0 : Int32)]) (rest := []) (c_X3_cell S X.2.1  x6 (0 : Int32) M (r124, M14) h124) kl_RL_71 (lc_at194 S _) rfl rfl rfl rfl (Nat.le_of_ble_eq_true rfl) ⟨Nat.le_of_ble_eq_true rfl, Nat.le_of_ble_eq_true rfl⟩ ⟨rfl, rfl⟩ (lc_z2 _ _) dL_areCells_124 rfl ?_
  refine lc_aload_n C (pc' := 128) 3 dL_areCells_127 rfl rfl ?_
  refine lc_iload C (pc' := 130) 8 dL_areCells_128 rfl rfl ?_
  obtain ⟨hi130, h⟩ := lc_ife h
  refine lc_ld198 C (pc' := 131) (jj := x7.toNatClampNeg) rfl hi130 rfl dL_areCells_130 rfl ?_
  refine lc_icmp_ne C (pc' := 134) (tgt := 238) dL_areCells_131 (by decide) rfl (fun c131 => ?_) (fun c131 => ?_)
  · have h := (lc_if2 h).2 c131
    refine lc_iconst C (pc' := 239) (v := (0 : Int32)) dL_areCells_238 (by decide) rfl ?_
    obtain rfl := Option.some.inj h
    exact lc_zret C rfl (Or.inl rfl) dL_areCells_239
  · have h := (lc_if2 h).1 c131
    refine lc_aload_n C (pc' := 135) 1 dL_areCells_134 rfl rfl ?_
    refine lc_iload C (pc' := 137) 7 dL_areCells_135 rfl rfl ?_
    refine lc_iconst C (pc' := 138) (v := (1 : Int32)) dL_areCells_137 (by decide) rfl ?_
    obtain ⟨r138, M15, h138, h⟩ := lc_bd2e h
    refine lc_cvi C (pc' := 141) (r := r138) (M' := M15) (As := [.int x6, .int (1 : Int32)]) (rest := []) (c_X3_cell S X.2.1  x6 (1 : Int32) M14 (r138, M15) h138) kl_RL_71 (lc_at194 S _) rfl rfl rfl rfl (Nat.le_of_ble_eq_true rfl) ⟨Nat.le_of_ble_eq_true rfl, Nat.le_of_ble_eq_true rfl⟩ ⟨rfl, rfl⟩ (lc_z2 _ _) dL_areCells_138 rfl ?_
    refine lc_aload_n C (pc' := 142) 3 dL_areCells_141 rfl rfl ?_
    refine lc_iload C (pc' := 144) 8 dL_areCells_142 rfl rfl ?_
    refine lc_iconst C (pc' := 145) (v := (1 : Int32)) dL_areCells_144 (by decide) rfl ?_
    refine lc_iadd C (pc' := 146) dL_areCells_145 rfl ?_
    obtain ⟨hi146, h⟩ := lc_ife h
    refine lc_ld198 C (pc' := 147) (jj := (x7 + (1 : Int32)).toNatClampNeg) rfl hi146 rfl dL_areCells_146 rfl ?_
    refine lc_icmp_ne C (pc' := 150) (tgt := 238) dL_areCells_147 (by decide) rfl (fun c147 => ?_) (fun c147 => ?_)
    · have h := (lc_if2 h).2 c147
      refine lc_iconst C (pc' := 239) (v := (0 : Int32)) dL_areCells_238 (by decide) rfl ?_
      obtain rfl := Option.some.inj h
      exact lc_zret C rfl (Or.inl rfl) dL_areCells_239
    · have h := (lc_if2 h).1 c147
      refine lc_aload_n C (pc' := 151) 1 dL_areCells_150 rfl rfl ?_
      refine lc_iload C (pc' := 153) 7 dL_areCells_151 rfl rfl ?_
      refine lc_iconst C (pc' := 154) (v := (2 : Int32)) dL_areCells_153 (by decide) rfl ?_
      obtain ⟨r154, M16, h154, h⟩ := lc_bd2e h
      refine lc_cvi C (pc' := 157) (r := r154) (M' := M16) (As := [.int x6, .int (2 : Int32)]) (rest := []) (c_X3_cell S X.2.1  x6 (2 : Int32) M15 (r154, M16) h154) kl_RL_71 (lc_at194 S _) rfl rfl rfl rfl (Nat.le_of_ble_eq_true rfl) ⟨Nat.le_of_ble_eq_true rfl, Nat.le_of_ble_eq_true rfl⟩ ⟨rfl, rfl⟩ (lc_z2 _ _) dL_areCells_154 rfl ?_
      refine lc_aload_n C (pc' := 158) 3 dL_areCells_157 rfl rfl ?_
      refine lc_iload C (pc' := 160) 8 dL_areCells_158 rfl rfl ?_
      refine lc_iconst C (pc' := 161) (v := (2 : Int32)) dL_areCells_160 (by decide) rfl ?_
      refine lc_iadd C (pc' := 162) dL_areCells_161 rfl ?_
      obtain ⟨hi162, h⟩ := lc_ife h
      refine lc_ld198 C (pc' := 163) (jj := (x7 + (2 : Int32)).toNatClampNeg) rfl hi162 rfl dL_areCells_162 rfl ?_
      refine lc_icmp_ne C (pc' := 166) (tgt := 238) dL_areCells_163 (by decide) rfl (fun c163 => ?_) (fun c163 => ?_)
      · have h := (lc_if2 h).2 c163
        refine lc_iconst C (pc' := 239) (v := (0 : Int32)) dL_areCells_238 (by decide) rfl ?_
        obtain rfl := Option.some.inj h
        exact lc_zret C rfl (Or.inl rfl) dL_areCells_239
      · have h := (lc_if2 h).1 c163
        refine lc_aload_n C (pc' := 167) 1 dL_areCells_166 rfl rfl ?_
        refine lc_iload C (pc' := 169) 7 dL_areCells_167 rfl rfl ?_
        refine lc_iconst C (pc' := 170) (v := (3 : Int32)) dL_areCells_169 (by decide) rfl ?_
        obtain ⟨r170, M17, h170, h⟩ := lc_bd2e h
        refine lc_cvi C (pc' := 173) (r := r170) (M' := M17) (As := [.int x6, .int (3 : Int32)]) (rest := []) (c_X3_cell S X.2.1  x6 (3 : Int32) M16 (r170, M17) h170) kl_RL_71 (lc_at194 S _) rfl rfl rfl rfl (Nat.le_of_ble_eq_true rfl) ⟨Nat.le_of_ble_eq_true rfl, Nat.le_of_ble_eq_true rfl⟩ ⟨rfl, rfl⟩ (lc_z2 _ _) dL_areCells_170 rfl ?_
        refine lc_aload_n C (pc' := 174) 3 dL_areCells_173 rfl rfl ?_
        refine lc_iload C (pc' := 176) 8 dL_areCells_174 rfl rfl ?_
        refine lc_iconst C (pc' := 177) (v := (3 : Int32)) dL_areCells_176 (by decide) rfl ?_
        refine lc_iadd C (pc' := 178) dL_areCells_177 rfl ?_
        obtain ⟨hi178, h⟩ := lc_ife h
        refine lc_ld198 C (pc' := 179) (jj := (x7 + (3 : Int32)).toNatClampNeg) rfl hi178 rfl dL_areCells_178 rfl ?_
        refine lc_icmp_ne C (pc' := 182) (tgt := 238) dL_areCells_179 (by decide) rfl (fun c179 => ?_) (fun c179 => ?_)
        · have h := (lc_if2 h).2 c179
          refine lc_iconst C (pc' := 239) (v := (0 : Int32)) dL_areCells_238 (by decide) rfl ?_
          obtain rfl := Option.some.inj h
          exact lc_zret C rfl (Or.inl rfl) dL_areCells_239
        · have h := (lc_if2 h).1 c179
          refine lc_aload_n C (pc' := 183) 1 dL_areCells_182 rfl rfl ?_
          refine lc_iload C (pc' := 185) 7 dL_areCells_183 rfl rfl ?_
          refine lc_iconst C (pc' := 186) (v := (4 : Int32)) dL_areCells_185 (by decide) rfl ?_
          obtain ⟨r186, M18, h186, h⟩ := lc_bd2e h
          refine lc_cvi C (pc' := 189) (r := r186) (M' := M18) (As := [.int x6, .int (4 : Int32)]) (rest := []) (c_X3_cell S X.2.1  x6 (4 : Int32) M17 (r186, M18) h186) kl_RL_71 (lc_at194 S _) rfl rfl rfl rfl (Nat.le_of_ble_eq_true rfl) ⟨Nat.le_of_ble_eq_true rfl, Nat.le_of_ble_eq_true rfl⟩ ⟨rfl, rfl⟩ (lc_z2 _ _) dL_areCells_186 rfl ?_
          refine lc_iload C (pc' := 191) 9 dL_areCells_189 rfl rfl ?_
          refine lc_icmp_ne C (pc' := 194) (tgt := 238) dL_areCells_191 (by decide) rfl (fun c191 => ?_) (fun c191 => ?_)
          · have h := (lc_if2 h).2 c191
            refine lc_iconst C (pc' := 239) (v := (0 : Int32)) dL_areCells_238 (by decide) rfl ?_
            obtain rfl := Option.some.inj h
            exact lc_zret C rfl (Or.inl rfl) dL_areCells_239
          · have h := (lc_if2 h).1 c191
            refine lc_aload_n C (pc' := 195) 1 dL_areCells_194 rfl rfl ?_
            refine lc_iload C (pc' := 197) 7 dL_areCells_195 rfl rfl ?_
            refine lc_iconst C (pc' := 198) (v := (5 : Int32)) dL_areCells_197 (by decide) rfl ?_
            obtain ⟨r198, M19, h198, h⟩ := lc_bd2e h
            refine lc_cvi C (pc' := 201) (r := r198) (M' := M19) (As := [.int x6, .int (5 : Int32)]) (rest := []) (c_X3_cell S X.2.1  x6 (5 : Int32) M18 (r198, M19) h198) kl_RL_71 (lc_at194 S _) rfl rfl rfl rfl (Nat.le_of_ble_eq_true rfl) ⟨Nat.le_of_ble_eq_true rfl, Nat.le_of_ble_eq_true rfl⟩ ⟨rfl, rfl⟩ (lc_z2 _ _) dL_areCells_198 rfl ?_
            refine lc_aload_n C (pc' := 202) 2 dL_areCells_201 rfl rfl ?_
            refine lc_aload_n C (pc' := 203) 4 dL_areCells_202 rfl rfl ?_
            refine lc_iload C (pc' := 205) 7 dL_areCells_203 rfl rfl ?_
            refine lc_iconst C (pc' := 206) (v := (0 : Int32)) dL_areCells_205 (by decide) rfl ?_
            refine lc_meq (lc_up_self M19 22).symm ?_
            obtain ⟨r206, h206, h⟩ := lc_bde h
            refine lc_csi C (pc' := 209) (r := r206) (M' := (va_up M19 22 (M19 22))) (As := [.ref (lc_ad S 197), .ref (lc_ad S 199), .int x6, .int (0 : Int32)]) (rest := [.int r198]) (c_L_owed S X.2.1 M19   x6 (0 : Int32) (M19 22) r206 h206) kl_RL_51 rfl rfl (Nat.le_of_ble_eq_true rfl) ⟨Nat.le_of_ble_eq_true rfl, Nat.le_of_ble_eq_true rfl⟩ ⟨rfl, rfl⟩ (lc_z2 _ _) dL_areCells_206 rfl ?_
            refine lc_meq (lc_up_self M19 22) ?_
            refine lc_icmp_ne C (pc' := 212) (tgt := 238) dL_areCells_209 (by decide) rfl (fun c209 => ?_) (fun c209 => ?_)
            · have h := (lc_if2 h).2 c209
              refine lc_iconst C (pc' := 239) (v := (0 : Int32)) dL_areCells_238 (by decide) rfl ?_
              obtain rfl := Option.some.inj h
              exact lc_zret C rfl (Or.inl rfl) dL_areCells_239
            · have h := (lc_if2 h).1 c209
              refine lc_aload_n C (pc' := 213) 1 dL_areCells_212 rfl rfl ?_
              refine lc_iload C (pc' := 215) 7 dL_areCells_213 rfl rfl ?_
              refine lc_bipush C (pc' := 217) (v := (6 : Int32)) dL_areCells_215 (by decide) rfl ?_
              obtain ⟨r217, M20, h217, h⟩ := lc_bd2e h
              refine lc_cvi C (pc' := 220) (r := r217) (M' := M20) (As := [.int x6, .int (6 : Int32)]) (rest := []) (c_X3_cell S X.2.1  x6 (6 : Int32) M19 (r217, M20) h217) kl_RL_71 (lc_at194 S _) rfl rfl rfl rfl (Nat.le_of_ble_eq_true rfl) ⟨Nat.le_of_ble_eq_true rfl, Nat.le_of_ble_eq_true rfl⟩ ⟨rfl, rfl⟩ (lc_z2 _ _) dL_areCells_217 rfl ?_
              refine lc_iload C (pc' := 222) 10 dL_areCells_220 rfl rfl ?_
              refine lc_icmp_ne C (pc' := 225) (tgt := 238) dL_areCells_222 (by decide) rfl (fun c222 => ?_) (fun c222 => ?_)
              · have h := (lc_if2 h).2 c222
                refine lc_iconst C (pc' := 239) (v := (0 : Int32)) dL_areCells_238 (by decide) rfl ?_
                obtain rfl := Option.some.inj h
                exact lc_zret C rfl (Or.inl rfl) dL_areCells_239
              · have h := (lc_if2 h).1 c222
                refine lc_aload_n C (pc' := 226) 1 dL_areCells_225 rfl rfl ?_
                refine lc_iload C (pc' := 228) 7 dL_areCells_226 rfl rfl ?_
                refine lc_bipush C (pc' := 230) (v := (7 : Int32)) dL_areCells_228 (by decide) rfl ?_
                obtain ⟨r230, M21, h230, h⟩ := lc_bd2e h
                refine lc_cvi C (pc' := 233) (r := r230) (M' := M21) (As := [.int x6, .int (7 : Int32)]) (rest := []) (c_X3_cell S X.2.1  x6 (7 : Int32) M20 (r230, M21) h230) kl_RL_71 (lc_at194 S _) rfl rfl rfl rfl (Nat.le_of_ble_eq_true rfl) ⟨Nat.le_of_ble_eq_true rfl, Nat.le_of_ble_eq_true rfl⟩ ⟨rfl, rfl⟩ (lc_z2 _ _) dL_areCells_230 rfl ?_
                refine lc_iload C (pc' := 235) 0 dL_areCells_233 rfl rfl ?_
                refine lc_icmp_eq C (pc' := 238) (tgt := 240) dL_areCells_235 (by decide) rfl (fun c235 => ?_) (fun c235 => ?_)
                · have h := (lc_if2 h).1 c235
                  refine lc_iload C (pc' := 242) 5 dL_areCells_240 rfl rfl ?_
                  refine lc_aload_n C (pc' := 243) 3 dL_areCells_242 rfl rfl ?_
                  refine lc_iload C (pc' := 245) 8 dL_areCells_243 rfl rfl ?_
                  refine lc_iconst C (pc' := 246) (v := (1 : Int32)) dL_areCells_245 (by decide) rfl ?_
                  refine lc_iadd C (pc' := 247) dL_areCells_246 rfl ?_
                  obtain ⟨hi247, h⟩ := lc_ife h
                  refine lc_ld198 C (pc' := 248) (jj := (x7 + (1 : Int32)).toNatClampNeg) rfl hi247 rfl dL_areCells_247 rfl ?_
                  refine lc_iadd C (pc' := 249) dL_areCells_248 rfl ?_
                  obtain ⟨x4_249, e4_249, h⟩ := lc_let2 h
                  rw [e4_249]
                  refine lc_istore C (pc' := 251) (lo' := [(4, .int x4_249), (10, .int t0), (0, .ref (lc_ad S 194)), (1, .ref (lc_ad S 197)), (2, .ref (lc_ad S 198)), (3, .ref (lc_ad S 199)), (5, .int x5), (6, .int x6), (7, .int x7), (8, .int x8), (9, .int x9)]) dL_areCells_249 (Nat.le_of_ble_eq_true rfl) rfl rfl ?_
                  refine lc_iload C (pc' := 253) 6 dL_areCells_251 rfl rfl ?_
                  refine lc_aload_n C (pc' := 254) 4 dL_areCells_253 rfl rfl ?_
                  refine lc_iload C (pc' := 256) 8 dL_areCells_254 rfl rfl ?_
                  refine lc_iconst C (pc' := 257) (v := (4 : Int32)) dL_areCells_256 (by decide) rfl ?_
                  refine lc_iadd C (pc' := 258) dL_areCells_257 rfl ?_
                  obtain ⟨hi258, h⟩ := lc_ife h
                  refine lc_ld198 C (pc' := 259) (jj := (x7 + (4 : Int32)).toNatClampNeg) rfl hi258 rfl dL_areCells_258 rfl ?_
                  refine lc_iload C (pc' := 261) 7 dL_areCells_259 rfl rfl ?_
                  refine lc_ishl C (pc' := 262) dL_areCells_261 rfl ?_
                  refine lc_ior C (pc' := 263) dL_areCells_262 rfl ?_
                  obtain ⟨x5_263, e5_263, h⟩ := lc_let2 h
                  rw [e5_263]
                  refine lc_istore C (pc' := 265) (lo' := [(5, .int x5_263), (4, .int x4_249), (10, .int t0), (0, .ref (lc_ad S 194)), (1, .ref (lc_ad S 197)), (2, .ref (lc_ad S 198)), (3, .ref (lc_ad S 199)), (6, .int x6), (7, .int x7), (8, .int x8), (9, .int x9)]) dL_areCells_263 (Nat.le_of_ble_eq_true rfl) rfl rfl ?_
                  obtain ⟨x6_265, e6_265, h⟩ := lc_let2 h
                  refine lc_iinc C (pc' := 268) (lo' := [(6, .int x6_265), (5, .int x5_263), (4, .int x4_249), (10, .int t0), (0, .ref (lc_ad S 194)), (1, .ref (lc_ad S 197)), (2, .ref (lc_ad S 198)), (3, .ref (lc_ad S 199)), (7, .int x7), (8, .int x8), (9, .int x9)]) (q := 7) dL_areCells_265 rfl (by rw [← e6_265]; rfl) (Nat.le_of_ble_eq_true rfl) rfl rfl ?_
                  refine lc_goto C (tgt := 9) dL_areCells_268 (by decide) ?_
                  refine lc_sub (lo' := [(0, .ref (lc_ad S 194)), (1, .ref (lc_ad S 197)), (2, .ref (lc_ad S 198)), (3, .ref (lc_ad S 199)), (4, .int x4_249), (5, .int x5_263), (6, .int x6_265)]) [4, 5, 6, 7, 2, 1, 0] rfl ?_
                  exact hK9 x4_249 x5_263 x6_265 M21 h
                · have h := (lc_if2 h).2 c235
                  refine lc_iconst C (pc' := 239) (v := (0 : Int32)) dL_areCells_238 (by decide) rfl ?_
                  obtain rfl := Option.some.inj h
                  exact lc_zret C rfl (Or.inl rfl) dL_areCells_239
def P_L_areCells_72 (K39 : Int32 → Int32 → Int32 → Int32 → Int32 → Int32 → Int32 → lc_MM → Option (Int32 × lc_MM)) (x4 : Int32) (x5 : Int32) (x6 : Int32) (x7 : Int32) (x8 : Int32) (x10 : Int32) (t0 : Int32) (t1 : Int32) (M : lc_MM) : Option (Int32 × lc_MM) :=
  lc_let (t0 + t1) (fun x9_73 => lc_let (x10 + (1 : Int32)) (fun x10_75 => K39 x4 x5 x6 x7 x8 x9_73 x10_75 M))
set_option maxRecDepth 100000 in
set_option maxHeartbeats 4000000 in
theorem w_L_areCells_72 {S : lc_Se} {X : lc_X} (C : lc_C X cL_areCells RL 11 (some .boolean) rm_L_areCells)   (out : Int32 × lc_MM) (K39 : Int32 → Int32 → Int32 → Int32 → Int32 → Int32 → Int32 → lc_MM → Option (Int32 × lc_MM)) (hK39 : ∀ (x4 : Int32) (x5 : Int32) (x6 : Int32) (x7 : Int32) (x8 : Int32) (x9 : Int32) (x10 : Int32) (M : lc_MM), K39 x4 x5 x6 x7 x8 x9 x10 M = some out → lc_J S X 11 0 0 (lc_QI S X 0 0 out.1 out.2) 39 [(0, .ref (lc_ad S 194)), (1, .ref (lc_ad S 197)), (2, .ref (lc_ad S 198)), (3, .ref (lc_ad S 199)), (4, .int x4), (5, .int x5), (6, .int x6), (7, .int x7), (8, .int x8), (9, .int x9), (10, .int x10)] [] M) : ∀ (x4 : Int32) (x5 : Int32) (x6 : Int32) (x7 : Int32) (x8 : Int32) (x10 : Int32) (t0 : Int32) (t1 : Int32) (M : lc_MM), P_L_areCells_72 K39 x4 x5 x6 x7 x8 x10 t0 t1 M = some out → lc_J S X 11 0 0 (lc_QI S X 0 0 out.1 out.2) 72 [(0, .ref (lc_ad S 194)), (1, .ref (lc_ad S 197)), (2, .ref (lc_ad S 198)), (3, .ref (lc_ad S 199)), (4, .int x4), (5, .int x5), (6, .int x6), (7, .int x7), (8, .int x8), (10, .int x10)] [.int t1, .int t0] M := by
  intro x4 x5 x6 x7 x8 x10 t0 t1 M h
  rw [P_L_areCells_72] at h
  refine lc_iadd C (pc' := 73) dL_areCells_72 rfl ?_
  obtain ⟨x9_73, e9_73, h⟩ := lc_let2 h
  rw [e9_73]
  refine lc_istore C (pc' := 75) (lo' := [(9, .int x9_73), (0, .ref (lc_ad S 194)), (1, .ref (lc_ad S 197)), (2, .ref (lc_ad S 198)), (3, .ref (lc_ad S 199)), (4, .int x4), (5, .int x5), (6, .int x6), (7, .int x7), (8, .int x8), (10, .int x10)]) dL_areCells_73 (Nat.le_of_ble_eq_true rfl) rfl rfl ?_
  obtain ⟨x10_75, e10_75, h⟩ := lc_let2 h
  refine lc_iinc C (pc' := 78) (lo' := [(10, .int x10_75), (9, .int x9_73), (0, .ref (lc_ad S 194)), (1, .ref (lc_ad S 197)), (2, .ref (lc_ad S 198)), (3, .ref (lc_ad S 199)), (4, .int x4), (5, .int x5), (6, .int x6), (7, .int x7), (8, .int x8)]) (q := 10) dL_areCells_75 rfl (by rw [← e10_75]; rfl) (Nat.le_of_ble_eq_true rfl) rfl rfl ?_
  refine lc_goto C (tgt := 39) dL_areCells_78 (by decide) ?_
  refine lc_sub (lo' := [(0, .ref (lc_ad S 194)), (1, .ref (lc_ad S 197)), (2, .ref (lc_ad S 198)), (3, .ref (lc_ad S 199)), (4, .int x4), (5, .int x5), (6, .int x6), (7, .int x7), (8, .int x8), (9, .int x9_73), (10, .int x10_75)]) [2, 3, 4, 5, 6, 7, 8, 9, 10, 1, 0] rfl ?_
  exact hK39 x4 x5 x6 x7 x8 x9_73 x10_75 M h
def P_L_areCells_39 (K9 : Int32 → Int32 → Int32 → lc_MM → Option (Int32 × lc_MM)) : Nat → Int32 → Int32 → Int32 → Int32 → Int32 → Int32 → Int32 → lc_MM → Option (Int32 × lc_MM)
  | 0, _, _, _, _, _, _, _, _ => none
  | n + 1, x4, x5, x6, x7, x8, x9, x10, M =>
    if ((M 22) 0 2) ≤ x10 then lc_if (lc_ok (x7 + (4 : Int32)) 30) (if ((M 22) 1 (x7 + (4 : Int32)).toNatClampNeg) = (1 : Int32) then P_L_areCells_118 K9  x4 x5 x6 x7 x8 x9 (3 : Int32) M else lc_if (lc_ok (x7 + (3 : Int32)) 30) (if ((M 22) 1 (x7 + (3 : Int32)).toNatClampNeg) ≤ 0 then if x8 ≤ 0 then P_L_areCells_118 K9  x4 x5 x6 x7 x8 x9 (0 : Int32) M else P_L_areCells_118 K9  x4 x5 x6 x7 x8 x9 (1 : Int32) M else P_L_areCells_118 K9  x4 x5 x6 x7 x8 x9 (2 : Int32) M)) else lc_if (lc_ok (((5 : Int32) * x10) + (1 : Int32)) 60) (if ((M 22) 2 (((5 : Int32) * x10) + (1 : Int32)).toNatClampNeg) = x6 then lc_bd (P_L_interest x10 (M 22)) (fun r65 => P_L_areCells_72 (fun x4 x5 x6 x7 x8 x9 x10 M => P_L_areCells_39 K9 n x4 x5 x6 x7 x8 x9 x10 M)  x4 x5 x6 x7 x8 x10 x9 r65 M) else P_L_areCells_72 (fun x4 x5 x6 x7 x8 x9 x10 M => P_L_areCells_39 K9 n x4 x5 x6 x7 x8 x9 x10 M)  x4 x5 x6 x7 x8 x10 x9 (0 : Int32) M)
set_option maxRecDepth 100000 in
set_option maxHeartbeats 4000000 in
theorem w_L_areCells_39 {S : lc_Se} {X : lc_X} (C : lc_C X cL_areCells RL 11 (some .boolean) rm_L_areCells)   (out : Int32 × lc_MM) (K9 : Int32 → Int32 → Int32 → lc_MM → Option (Int32 × lc_MM)) (hK9 : ∀ (x4 : Int32) (x5 : Int32) (x6 : Int32) (M : lc_MM), K9 x4 x5 x6 M = some out → lc_J S X 11 0 0 (lc_QI S X 0 0 out.1 out.2) 9 [(0, .ref (lc_ad S 194)), (1, .ref (lc_ad S 197)), (2, .ref (lc_ad S 198)), (3, .ref (lc_ad S 199)), (4, .int x4), (5, .int x5), (6, .int x6)] [] M) : ∀ (n : Nat) (x4 : Int32) (x5 : Int32) (x6 : Int32) (x7 : Int32) (x8 : Int32) (x9 : Int32) (x10 : Int32) (M : lc_MM), P_L_areCells_39 K9 n x4 x5 x6 x7 x8 x9 x10 M = some out → lc_J S X 11 0 0 (lc_QI S X 0 0 out.1 out.2) 39 [(0, .ref (lc_ad S 194)), (1, .ref (lc_ad S 197)), (2, .ref (lc_ad S 198)), (3, .ref (lc_ad S 199)), (4, .int x4), (5, .int x5), (6, .int x6), (7, .int x7), (8, .int x8), (9, .int x9), (10, .int x10)] [] M := by
  intro n
  induction n with
  | zero =>
    intro x4 x5 x6 x7 x8 x9 x10 M h
    rw [P_L_areCells_39] at h
    cases h
  | succ n ih =>
    intro x4 x5 x6 x7 x8 x9 x10 M h
    rw [P_L_areCells_39] at h
    refine lc_iload C (pc' := 41) 10 dL_areCells_39 rfl rfl ?_
    refine lc_aload_n C (pc' := 42) 1 dL_areCells_41 rfl rfl ?_
    refine lc_iconst C (pc' := 43) (v := (2 : Int32)) dL_areCells_42 (by decide) rfl ?_
    refine lc_ld197 C (pc' := 44) (jj := 2) rfl (by decide) (by decide) dL_areCells_43 rfl ?_
    refine lc_icmp_ge C (pc' := 47) (tgt := 81) dL_areCells_44 (by decide) rfl (fun c44 => ?_) (fun c44 => ?_)
    · have h := (lc_if2 h).1 c44
      refine lc_aload_n C (pc' := 82) 2 dL_areCells_81 rfl rfl ?_
      refine lc_iload C (pc' := 84) 7 dL_areCells_82 rfl rfl ?_
      refine lc_iconst C (pc' := 85) (v := (4 : Int32)) dL_areCells_84 (by decide) rfl ?_
      refine lc_iadd C (pc' := 86) dL_areCells_85 rfl ?_
      obtain ⟨hi86, h⟩ := lc_ife h
      refine lc_ld198 C (pc' := 87) (jj := (x7 + (4 : Int32)).toNatClampNeg) rfl hi86 rfl dL_areCells_86 rfl ?_
      refine lc_iconst C (pc' := 88) (v := (1 : Int32)) dL_areCells_87 (by decide) rfl ?_
      refine lc_icmp_ne C (pc' := 91) (tgt := 95) dL_areCells_88 (by decide) rfl (fun c88 => ?_) (fun c88 => ?_)
      · have h := (lc_if2 h).2 c88
        refine lc_aload_n C (pc' := 96) 2 dL_areCells_95 rfl rfl ?_
        refine lc_iload C (pc' := 98) 7 dL_areCells_96 rfl rfl ?_
        refine lc_iconst C (pc' := 99) (v := (3 : Int32)) dL_areCells_98 (by decide) rfl ?_
        refine lc_iadd C (pc' := 100) dL_areCells_99 rfl ?_
        obtain ⟨hi100, h⟩ := lc_ife h
        refine lc_ld198 C (pc' := 101) (jj := (x7 + (3 : Int32)).toNatClampNeg) rfl hi100 rfl dL_areCells_100 rfl ?_
        refine lc_if_le C (pc' := 104) (tgt := 108) dL_areCells_101 (by decide) rfl (fun c101 => ?_) (fun c101 => ?_)
        · have h := (lc_if2 h).1 c101
          refine lc_iload C (pc' := 110) 8 dL_areCells_108 rfl rfl ?_
          refine lc_if_le C (pc' := 113) (tgt := 117) dL_areCells_110 (by decide) rfl (fun c110 => ?_) (fun c110 => ?_)
          · have h := (lc_if2 h).1 c110
            refine lc_iconst C (pc' := 118) (v := (0 : Int32)) dL_areCells_117 (by decide) rfl ?_
            refine lc_sub (lo' := [(0, .ref (lc_ad S 194)), (1, .ref (lc_ad S 197)), (2, .ref (lc_ad S 198)), (3, .ref (lc_ad S 199)), (4, .int x4), (5, .int x5), (6, .int x6), (7, .int x7), (8, .int x8), (9, .int x9)]) [0, 1, 2, 3, 4, 5, 6, 7, 8, 9] rfl ?_
            exact w_L_areCells_118 C   out K9 hK9  x4 x5 x6 x7 x8 x9 (0 : Int32) M h
          · have h := (lc_if2 h).2 c110
            refine lc_iconst C (pc' := 114) (v := (1 : Int32)) dL_areCells_113 (by decide) rfl ?_
            refine lc_goto C (tgt := 118) dL_areCells_114 (by decide) ?_
            refine lc_sub (lo' := [(0, .ref (lc_ad S 194)), (1, .ref (lc_ad S 197)), (2, .ref (lc_ad S 198)), (3, .ref (lc_ad S 199)), (4, .int x4), (5, .int x5), (6, .int x6), (7, .int x7), (8, .int x8), (9, .int x9)]) [0, 1, 2, 3, 4, 5, 6, 7, 8, 9] rfl ?_
            exact w_L_areCells_118 C   out K9 hK9  x4 x5 x6 x7 x8 x9 (1 : Int32) M h
        · have h := (lc_if2 h).2 c101
          refine lc_iconst C (pc' := 105) (v := (2 : Int32)) dL_areCells_104 (by decide) rfl ?_
          refine lc_goto C (tgt := 118) dL_areCells_105 (by decide) ?_
          refine lc_sub (lo' := [(0, .ref (lc_ad S 194)), (1, .ref (lc_ad S 197)), (2, .ref (lc_ad S 198)), (3, .ref (lc_ad S 199)), (4, .int x4), (5, .int x5), (6, .int x6), (7, .int x7), (8, .int x8), (9, .int x9)]) [0, 1, 2, 3, 4, 5, 6, 7, 8, 9] rfl ?_
          exact w_L_areCells_118 C   out K9 hK9  x4 x5 x6 x7 x8 x9 (2 : Int32) M h
      · have h := (lc_if2 h).1 c88
        refine lc_iconst C (pc' := 92) (v := (3 : Int32)) dL_areCells_91 (by decide) rfl ?_
        refine lc_goto C (tgt := 118) dL_areCells_92 (by decide) ?_
        refine lc_sub (lo' := [(0, .ref (lc_ad S 194)), (1, .ref (lc_ad S 197)), (2, .ref (lc_ad S 198)), (3, .ref (lc_ad S 199)), (4, .int x4), (5, .int x5), (6, .int x6), (7, .int x7), (8, .int x8), (9, .int x9)]) [0, 1, 2, 3, 4, 5, 6, 7, 8, 9] rfl ?_
        exact w_L_areCells_118 C   out K9 hK9  x4 x5 x6 x7 x8 x9 (3 : Int32) M h
    · have h := (lc_if2 h).2 c44
      refine lc_iload C (pc' := 49) 9 dL_areCells_47 rfl rfl ?_
      refine lc_aload_n C (pc' := 50) 3 dL_areCells_49 rfl rfl ?_
      refine lc_iconst C (pc' := 51) (v := (5 : Int32)) dL_areCells_50 (by decide) rfl ?_
      refine lc_iload C (pc' := 53) 10 dL_areCells_51 rfl rfl ?_
      refine lc_imul C (pc' := 54) dL_areCells_53 rfl ?_
      refine lc_iconst C (pc' := 55) (v := (1 : Int32)) dL_areCells_54 (by decide) rfl ?_
      refine lc_iadd C (pc' := 56) dL_areCells_55 rfl ?_
      obtain ⟨hi56, h⟩ := lc_ife h
      refine lc_ld199 C (pc' := 57) (jj := (((5 : Int32) * x10) + (1 : Int32)).toNatClampNeg) rfl hi56 rfl dL_areCells_56 rfl ?_
      refine lc_iload C (pc' := 59) 6 dL_areCells_57 rfl rfl ?_
      refine lc_icmp_ne C (pc' := 62) (tgt := 71) dL_areCells_59 (by decide) rfl (fun c59 => ?_) (fun c59 => ?_)
      · have h := (lc_if2 h).2 c59
        refine lc_iconst C (pc' := 72) (v := (0 : Int32)) dL_areCells_71 (by decide) rfl ?_
        refine lc_sub (lo' := [(0, .ref (lc_ad S 194)), (1, .ref (lc_ad S 197)), (2, .ref (lc_ad S 198)), (3, .ref (lc_ad S 199)), (4, .int x4), (5, .int x5), (6, .int x6), (7, .int x7), (8, .int x8), (10, .int x10)]) [0, 1, 2, 3, 4, 5, 6, 7, 8, 10] rfl ?_
        exact w_L_areCells_72 C   out (fun x4 x5 x6 x7 x8 x9 x10 M => P_L_areCells_39 K9 n x4 x5 x6 x7 x8 x9 x10 M) ih  x4 x5 x6 x7 x8 x10 x9 (0 : Int32) M h
      · have h := (lc_if2 h).1 c59
        refine lc_aload_n C (pc' := 63) 3 dL_areCells_62 rfl rfl ?_
        refine lc_iload C (pc' := 65) 10 dL_areCells_63 rfl rfl ?_
        refine lc_meq (lc_up_self M 22).symm ?_
        obtain ⟨r65, h65, h⟩ := lc_bde h
        refine lc_csi C (pc' := 68) (r := r65) (M' := (va_up M 22 (M 22))) (As := [.ref (lc_ad S 199), .int x10]) (rest := [.int x9]) (c_L_interest S X.2.1 M   x10 (M 22) r65 h65) kl_RL_59 rfl rfl (Nat.le_of_ble_eq_true rfl) ⟨Nat.le_of_ble_eq_true rfl, Nat.le_of_ble_eq_true rfl⟩ ⟨rfl, rfl⟩ (lc_z2 _ _) dL_areCells_65 rfl ?_
        refine lc_meq (lc_up_self M 22) ?_
        refine lc_goto C (tgt := 72) dL_areCells_68 (by decide) ?_
        refine lc_sub (lo' := [(0, .ref (lc_ad S 194)), (1, .ref (lc_ad S 197)), (2, .ref (lc_ad S 198)), (3, .ref (lc_ad S 199)), (4, .int x4), (5, .int x5), (6, .int x6), (7, .int x7), (8, .int x8), (10, .int x10)]) [0, 1, 2, 3, 4, 5, 6, 7, 8, 10] rfl ?_
        exact w_L_areCells_72 C   out (fun x4 x5 x6 x7 x8 x9 x10 M => P_L_areCells_39 K9 n x4 x5 x6 x7 x8 x9 x10 M) ih  x4 x5 x6 x7 x8 x10 x9 r65 M h
def P_L_areCells_9  : Nat → Int32 → Int32 → Int32 → lc_MM → Option (Int32 × lc_MM)
  | 0, _, _, _, _ => none
  | n + 1, x4, x5, x6, M =>
    if ((M 22) 0 1) ≤ x6 then P_L_areCells_277  lc_FU x4 x5 (0 : Int32) (0 : Int32) M else lc_let ((5 : Int32) * x6) (fun x7_21 => lc_bd (P_L_owed x6 (1 : Int32) (M 22)) (fun r28 => P_L_areCells_39 (fun x4 x5 x6 M => P_L_areCells_9  n x4 x5 x6 M) lc_FU x4 x5 x6 x7_21 r28 (0 : Int32) (0 : Int32) M))
set_option maxRecDepth 100000 in
set_option maxHeartbeats 4000000 in
theorem w_L_areCells_9 {S : lc_Se} {X : lc_X} (C : lc_C X cL_areCells RL 11 (some .boolean) rm_L_areCells)   (out : Int32 × lc_MM)  : ∀ (n : Nat) (x4 : Int32) (x5 : Int32) (x6 : Int32) (M : lc_MM), P_L_areCells_9  n x4 x5 x6 M = some out → lc_J S X 11 0 0 (lc_QI S X 0 0 out.1 out.2) 9 [(0, .ref (lc_ad S 194)), (1, .ref (lc_ad S 197)), (2, .ref (lc_ad S 198)), (3, .ref (lc_ad S 199)), (4, .int x4), (5, .int x5), (6, .int x6)] [] M := by
  intro n
  induction n with
  | zero =>
    intro x4 x5 x6 M h
    rw [P_L_areCells_9] at h
    cases h
  | succ n ih =>
    intro x4 x5 x6 M h
    rw [P_L_areCells_9] at h
    refine lc_iload C (pc' := 11) 6 dL_areCells_9 rfl rfl ?_
    refine lc_aload_n C (pc' := 12) 1 dL_areCells_11 rfl rfl ?_
    refine lc_iconst C (pc' := 13) (v := (1 : Int32)) dL_areCells_12 (by decide) rfl ?_
    refine lc_ld197 C (pc' := 14) (jj := 1) rfl (by decide) (by decide) dL_areCells_13 rfl ?_
    refine lc_icmp_ge C (pc' := 17) (tgt := 271) dL_areCells_14 (by decide) rfl (fun c14 => ?_) (fun c14 => ?_)
    · have h := (lc_if2 h).1 c14
      refine lc_iconst C (pc' := 272) (v := (0 : Int32)) dL_areCells_271 (by decide) rfl ?_
      refine lc_istore C (pc' := 274) (lo' := [(6, .int (0 : Int32)), (0, .ref (lc_ad S 194)), (1, .ref (lc_ad S 197)), (2, .ref (lc_ad S 198)), (3, .ref (lc_ad S 199)), (4, .int x4), (5, .int x5)]) dL_areCells_272 (Nat.le_of_ble_eq_true rfl) rfl rfl ?_
      refine lc_iconst C (pc' := 275) (v := (0 : Int32)) dL_areCells_274 (by decide) rfl ?_
      refine lc_istore C (pc' := 277) (lo' := [(7, .int (0 : Int32)), (6, .int (0 : Int32)), (0, .ref (lc_ad S 194)), (1, .ref (lc_ad S 197)), (2, .ref (lc_ad S 198)), (3, .ref (lc_ad S 199)), (4, .int x4), (5, .int x5)]) dL_areCells_275 (Nat.le_of_ble_eq_true rfl) rfl rfl ?_
      refine lc_sub (lo' := [(0, .ref (lc_ad S 194)), (1, .ref (lc_ad S 197)), (3, .ref (lc_ad S 199)), (4, .int x4), (5, .int x5), (6, .int (0 : Int32)), (7, .int (0 : Int32))]) [2, 3, 5, 6, 7, 1, 0] rfl ?_
      exact w_L_areCells_277 C   out  lc_FU x4 x5 (0 : Int32) (0 : Int32) M h
    · have h := (lc_if2 h).2 c14
      refine lc_iconst C (pc' := 18) (v := (5 : Int32)) dL_areCells_17 (by decide) rfl ?_
      refine lc_iload C (pc' := 20) 6 dL_areCells_18 rfl rfl ?_
      refine lc_imul C (pc' := 21) dL_areCells_20 rfl ?_
      obtain ⟨x7_21, e7_21, h⟩ := lc_let2 h
      rw [e7_21]
      refine lc_istore C (pc' := 23) (lo' := [(7, .int x7_21), (0, .ref (lc_ad S 194)), (1, .ref (lc_ad S 197)), (2, .ref (lc_ad S 198)), (3, .ref (lc_ad S 199)), (4, .int x4), (5, .int x5), (6, .int x6)]) dL_areCells_21 (Nat.le_of_ble_eq_true rfl) rfl rfl ?_
      refine lc_aload_n C (pc' := 24) 2 dL_areCells_23 rfl rfl ?_
      refine lc_aload_n C (pc' := 25) 4 dL_areCells_24 rfl rfl ?_
      refine lc_iload C (pc' := 27) 7 dL_areCells_25 rfl rfl ?_
      refine lc_iconst C (pc' := 28) (v := (1 : Int32)) dL_areCells_27 (by decide) rfl ?_
      refine lc_meq (lc_up_self M 22).symm ?_
      obtain ⟨r28, h28, h⟩ := lc_bde h
      refine lc_csi C (pc' := 31) (r := r28) (M' := (va_up M 22 (M 22))) (As := [.ref (lc_ad S 197), .ref (lc_ad S 199), .int x6, .int (1 : Int32)]) (rest := []) (c_L_owed S X.2.1 M   x6 (1 : Int32) (M 22) r28 h28) kl_RL_51 rfl rfl (Nat.le_of_ble_eq_true rfl) ⟨Nat.le_of_ble_eq_true rfl, Nat.le_of_ble_eq_true rfl⟩ ⟨rfl, rfl⟩ (lc_z2 _ _) dL_areCells_28 rfl ?_
      refine lc_meq (lc_up_self M 22) ?_
      refine lc_istore C (pc' := 33) (lo' := [(8, .int r28), (7, .int x7_21), (0, .ref (lc_ad S 194)), (1, .ref (lc_ad S 197)), (2, .ref (lc_ad S 198)), (3, .ref (lc_ad S 199)), (4, .int x4), (5, .int x5), (6, .int x6)]) dL_areCells_31 (Nat.le_of_ble_eq_true rfl) rfl rfl ?_
      refine lc_iconst C (pc' := 34) (v := (0 : Int32)) dL_areCells_33 (by decide) rfl ?_
      refine lc_istore C (pc' := 36) (lo' := [(9, .int (0 : Int32)), (8, .int r28), (7, .int x7_21), (0, .ref (lc_ad S 194)), (1, .ref (lc_ad S 197)), (2, .ref (lc_ad S 198)), (3, .ref (lc_ad S 199)), (4, .int x4), (5, .int x5), (6, .int x6)]) dL_areCells_34 (Nat.le_of_ble_eq_true rfl) rfl rfl ?_
      refine lc_iconst C (pc' := 37) (v := (0 : Int32)) dL_areCells_36 (by decide) rfl ?_
      refine lc_istore C (pc' := 39) (lo' := [(10, .int (0 : Int32)), (9, .int (0 : Int32)), (8, .int r28), (7, .int x7_21), (0, .ref (lc_ad S 194)), (1, .ref (lc_ad S 197)), (2, .ref (lc_ad S 198)), (3, .ref (lc_ad S 199)), (4, .int x4), (5, .int x5), (6, .int x6)]) dL_areCells_37 (Nat.le_of_ble_eq_true rfl) rfl rfl ?_
      refine lc_sub (lo' := [(0, .ref (lc_ad S 194)), (1, .ref (lc_ad S 197)), (2, .ref (lc_ad S 198)), (3, .ref (lc_ad S 199)), (4, .int x4), (5, .int x5), (6, .int x6), (7, .int x7_21), (8, .int r28), (9, .int (0 : Int32)), (10, .int (0 : Int32))]) [4, 5, 6, 7, 8, 9, 10, 3, 2, 1, 0] rfl ?_
      exact w_L_areCells_39 C   out (fun x4 x5 x6 M => P_L_areCells_9  n x4 x5 x6 M) ih lc_FU x4 x5 x6 x7_21 r28 (0 : Int32) (0 : Int32) M h
def P_L_areCells   (M : lc_MM) : Option (Int32 × lc_MM) :=
  P_L_areCells_9  lc_FU (0 : Int32) (0 : Int32) (0 : Int32) M
set_option maxRecDepth 100000 in
set_option maxHeartbeats 4000000 in
theorem c_L_areCells (S : lc_Se) (l : Launch)    (M : lc_MM) (out : Int32 × lc_MM) (h : P_L_areCells  M = some out) : lc_MI S l yL_areCells cL_areCells 11 (some .boolean) rm_L_areCells [.ref (lc_ad S 194), .ref (lc_ad S 197), .ref (lc_ad S 198), .ref (lc_ad S 199)] M out.1 out.2 := by
  refine lc_mkI (own := RL) pn_RL rfl (Nat.le_of_ble_eq_true rfl) (lo := [(0, .ref (lc_ad S 194)), (1, .ref (lc_ad S 197)), (2, .ref (lc_ad S 198)), (3, .ref (lc_ad S 199))]) rfl (fun X hX C => ?_)
  rw [P_L_areCells] at h
  refine lc_iconst C (pc' := 1) (v := (0 : Int32)) dL_areCells_0 (by decide) rfl ?_
  refine lc_istore C (pc' := 3) (lo' := [(4, .int (0 : Int32)), (0, .ref (lc_ad S 194)), (1, .ref (lc_ad S 197)), (2, .ref (lc_ad S 198)), (3, .ref (lc_ad S 199))]) dL_areCells_1 (Nat.le_of_ble_eq_true rfl) rfl rfl ?_
  refine lc_iconst C (pc' := 4) (v := (0 : Int32)) dL_areCells_3 (by decide) rfl ?_
  refine lc_istore C (pc' := 6) (lo' := [(5, .int (0 : Int32)), (4, .int (0 : Int32)), (0, .ref (lc_ad S 194)), (1, .ref (lc_ad S 197)), (2, .ref (lc_ad S 198)), (3, .ref (lc_ad S 199))]) dL_areCells_4 (Nat.le_of_ble_eq_true rfl) rfl rfl ?_
  refine lc_iconst C (pc' := 7) (v := (0 : Int32)) dL_areCells_6 (by decide) rfl ?_
  refine lc_istore C (pc' := 9) (lo' := [(6, .int (0 : Int32)), (5, .int (0 : Int32)), (4, .int (0 : Int32)), (0, .ref (lc_ad S 194)), (1, .ref (lc_ad S 197)), (2, .ref (lc_ad S 198)), (3, .ref (lc_ad S 199))]) dL_areCells_7 (Nat.le_of_ble_eq_true rfl) rfl rfl ?_
  refine lc_sub (lo' := [(0, .ref (lc_ad S 194)), (1, .ref (lc_ad S 197)), (2, .ref (lc_ad S 198)), (3, .ref (lc_ad S 199)), (4, .int (0 : Int32)), (5, .int (0 : Int32)), (6, .int (0 : Int32))]) [3, 4, 5, 6, 2, 1, 0] rfl ?_
  exact w_L_areCells_9 C   out  lc_FU (0 : Int32) (0 : Int32) (0 : Int32) M h
abbrev rm_L_isAdded : Room := { frames := 8, cells := 3, slots := 18, locals := 143 }
def P_L_isAdded  (x4 : Int32) (M : lc_MM) : Option (Int32 × lc_MM) :=
  lc_let ((M 22) 0 1) (fun x5_3 => if x5_3 = (6 : Int32) then lc_bd2 (P_L_addCell (10 : Int32) (11 : Int32) (0 : Int32) M) (fun r19 M12 => if r19 = (1 : Int32) then lc_bd2 (P_L_addCell (9 : Int32) (0 : Int32) (0 : Int32) M12) (fun r32 M13 => if r32 = (1 : Int32) then lc_bd2 (P_L_addCell (10 : Int32) (0 : Int32) (4 : Int32) M13) (fun r45 M14 => if r45 = (1 : Int32) then some ((1 : Int32), M14) else some ((0 : Int32), M14)) else some ((0 : Int32), M13)) else some ((0 : Int32), M12)) else lc_bd (P_L_low x4 (90 : Int32)) (fun r69 => lc_if (lc_ok ((5 : Int32) * x5_3) 30) (lc_let (lc_ss (M 22) 1 (((5 : Int32) * x5_3).toNatClampNeg) ((10 : Int32) + r69)) (fun s1 => lc_let (va_up M 22 s1) (fun M2 => lc_if (lc_ok ((5 : Int32) * x5_3) 30) (lc_bd (P_L_low (x4 >>> ((7 : Int32) &&& 31)) (((M2 22) 1 ((5 : Int32) * x5_3).toNatClampNeg) + (1 : Int32))) (fun r94 => lc_if (lc_ok (((5 : Int32) * x5_3) + (1 : Int32)) 30) (lc_let (lc_ss (M2 22) 1 ((((5 : Int32) * x5_3) + (1 : Int32)).toNatClampNeg) r94) (fun s3 => lc_let (va_up M2 22 s3) (fun M4 => lc_bd (P_L_low (x4 >>> ((14 : Int32) &&& 31)) (4 : Int32)) (fun r111 => lc_if (lc_ok (((5 : Int32) * x5_3) + (2 : Int32)) 30) (lc_let (lc_ss (M4 22) 1 ((((5 : Int32) * x5_3) + (2 : Int32)).toNatClampNeg) r111) (fun s5 => lc_let (va_up M4 22 s5) (fun M6 => lc_let (lc_ss (M6 22) 0 1 (((M6 22) 0 1) + (1 : Int32))) (fun s7 => lc_let (va_up M6 22 s7) (fun M8 => lc_if (lc_ok (((5 : Int32) * x5_3) + (1 : Int32)) 30) (lc_let (lc_ss (M8 22) 0 3 (((M8 22) 0 3) + ((M8 22) 1 (((5 : Int32) * x5_3) + (1 : Int32)).toNatClampNeg))) (fun s9 => lc_let (va_up M8 22 s9) (fun M10 => lc_if (lc_ok ((5 : Int32) * x5_3) 30) (lc_if (lc_ok (((5 : Int32) * x5_3) + (1 : Int32)) 30) (lc_if (lc_ok (((5 : Int32) * x5_3) + (2 : Int32)) 30) (lc_bd2 (P_L_addCell ((M10 22) 1 ((5 : Int32) * x5_3).toNatClampNeg) ((M10 22) 1 (((5 : Int32) * x5_3) + (1 : Int32)).toNatClampNeg) ((M10 22) 1 (((5 : Int32) * x5_3) + (2 : Int32)).toNatClampNeg) M10) (fun r160 M11 => if r160 = 0 then if ((M11 24) 0 0) = x5_3 then some ((1 : Int32), M11) else some ((0 : Int32), M11) else some ((0 : Int32), M11))))))))))))))))))))))))
set_option maxRecDepth 100000 in
set_option maxHeartbeats 4000000 in
theorem c_L_isAdded (S : lc_Se) (l : Launch) (hl : l.stackTraces = false)   (x4 : Int32) (M : lc_MM) (out : Int32 × lc_MM) (h : P_L_isAdded x4 M = some out) : lc_MI S l yL_isAdded cL_isAdded 6 (some .boolean) rm_L_isAdded [.ref (lc_ad S 194), .ref (lc_ad S 197), .ref (lc_ad S 198), .ref (lc_ad S 203), .int x4] M out.1 out.2 := by
  refine lc_mkI (own := RL) pn_RL rfl (Nat.le_of_ble_eq_true rfl) (lo := [(0, .ref (lc_ad S 194)), (1, .ref (lc_ad S 197)), (2, .ref (lc_ad S 198)), (3, .ref (lc_ad S 203)), (4, .int x4)]) rfl (fun X hX C => ?_)
  rw [P_L_isAdded] at h
  subst hX
  refine lc_aload_n C (pc' := 1) 1 dL_isAdded_0 rfl rfl ?_
  refine lc_iconst C (pc' := 2) (v := (1 : Int32)) dL_isAdded_1 (by decide) rfl ?_
  refine lc_ld197 C (pc' := 3) (jj := 1) rfl (by decide) (by decide) dL_isAdded_2 rfl ?_
  obtain ⟨x5_3, e5_3, h⟩ := lc_let2 h
  rw [e5_3]
  refine lc_istore C (pc' := 5) (lo' := [(5, .int x5_3), (0, .ref (lc_ad S 194)), (1, .ref (lc_ad S 197)), (2, .ref (lc_ad S 198)), (3, .ref (lc_ad S 203)), (4, .int x4)]) dL_isAdded_3 (Nat.le_of_ble_eq_true rfl) rfl rfl ?_
  refine lc_iload C (pc' := 7) 0 dL_isAdded_5 rfl rfl ?_
  refine lc_bipush C (pc' := 9) (v := (6 : Int32)) dL_isAdded_7 (by decide) rfl ?_
  refine lc_icmp_ne C (pc' := 12) (tgt := 58) dL_isAdded_9 (by decide) rfl (fun c9 => ?_) (fun c9 => ?_)
  · have h := (lc_if2 h).2 c9
    refine lc_aload_n C (pc' := 59) 3 dL_isAdded_58 rfl rfl ?_
    refine lc_iconst C (pc' := 60) (v := (5 : Int32)) dL_isAdded_59 (by decide) rfl ?_
    refine lc_iload C (pc' := 62) 0 dL_isAdded_60 rfl rfl ?_
    refine lc_imul C (pc' := 63) dL_isAdded_62 rfl ?_
    refine lc_bipush C (pc' := 65) (v := (10 : Int32)) dL_isAdded_63 (by decide) rfl ?_
    refine lc_iload C (pc' := 67) 5 dL_isAdded_65 rfl rfl ?_
    refine lc_bipush C (pc' := 69) (v := (90 : Int32)) dL_isAdded_67 (by decide) rfl ?_
    obtain ⟨r69, h69, h⟩ := lc_bde h
    refine lc_csi C (pc' := 72) (r := r69) (M' := M) (As := [.int x4, .int (90 : Int32)]) (rest := [.int (10 : Int32), .int ((5 : Int32) * x5_3), .ref (lc_ad S 198)]) (c_L_low S X.2.1 M   x4 (90 : Int32)  r69 h69) kl_RL_83 rfl rfl (Nat.le_of_ble_eq_true rfl) ⟨Nat.le_of_ble_eq_true rfl, Nat.le_of_ble_eq_true rfl⟩ ⟨rfl, rfl⟩ ⟨Nat.le_of_ble_eq_true rfl, Nat.le_of_ble_eq_true rfl⟩ dL_isAdded_69 rfl ?_
    refine lc_iadd C (pc' := 73) dL_isAdded_72 rfl ?_
    obtain ⟨hi73, h⟩ := lc_ife h
    obtain ⟨s1, es1, h⟩ := lc_let2 h
    obtain ⟨M2, eM2, h⟩ := lc_let2 h
    refine lc_sd198 C (pc' := 74) (jj := ((5 : Int32) * x5_3).toNatClampNeg) (M' := M2) rfl hi73 rfl es1 eM2 dL_isAdded_73 rfl ?_
    refine lc_aload_n C (pc' := 75) 3 dL_isAdded_74 rfl rfl ?_
    refine lc_iconst C (pc' := 76) (v := (5 : Int32)) dL_isAdded_75 (by decide) rfl ?_
    refine lc_iload C (pc' := 78) 0 dL_isAdded_76 rfl rfl ?_
    refine lc_imul C (pc' := 79) dL_isAdded_78 rfl ?_
    refine lc_iconst C (pc' := 80) (v := (1 : Int32)) dL_isAdded_79 (by decide) rfl ?_
    refine lc_iadd C (pc' := 81) dL_isAdded_80 rfl ?_
    refine lc_iload C (pc' := 83) 5 dL_isAdded_81 rfl rfl ?_
    refine lc_bipush C (pc' := 85) (v := (7 : Int32)) dL_isAdded_83 (by decide) rfl ?_
    refine lc_ishr C (pc' := 86) dL_isAdded_85 rfl ?_
    refine lc_aload_n C (pc' := 87) 3 dL_isAdded_86 rfl rfl ?_
    refine lc_iconst C (pc' := 88) (v := (5 : Int32)) dL_isAdded_87 (by decide) rfl ?_
    refine lc_iload C (pc' := 90) 0 dL_isAdded_88 rfl rfl ?_
    refine lc_imul C (pc' := 91) dL_isAdded_90 rfl ?_
    obtain ⟨hi91, h⟩ := lc_ife h
    refine lc_ld198 C (pc' := 92) (jj := ((5 : Int32) * x5_3).toNatClampNeg) rfl hi91 rfl dL_isAdded_91 rfl ?_
    refine lc_iconst C (pc' := 93) (v := (1 : Int32)) dL_isAdded_92 (by decide) rfl ?_
    refine lc_iadd C (pc' := 94) dL_isAdded_93 rfl ?_
    obtain ⟨r94, h94, h⟩ := lc_bde h
    refine lc_csi C (pc' := 97) (r := r94) (M' := M2) (As := [.int (x4 >>> ((7 : Int32) &&& 31)), .int (((M2 22) 1 ((5 : Int32) * x5_3).toNatClampNeg) + (1 : Int32))]) (rest := [.int (((5 : Int32) * x5_3) + (1 : Int32)), .ref (lc_ad S 198)]) (c_L_low S X.2.1 M2   (x4 >>> ((7 : Int32) &&& 31)) (((M2 22) 1 ((5 : Int32) * x5_3).toNatClampNeg) + (1 : Int32))  r94 h94) kl_RL_83 rfl rfl (Nat.le_of_ble_eq_true rfl) ⟨Nat.le_of_ble_eq_true rfl, Nat.le_of_ble_eq_true rfl⟩ ⟨rfl, rfl⟩ ⟨Nat.le_of_ble_eq_true rfl, Nat.le_of_ble_eq_true rfl⟩ dL_isAdded_94 rfl ?_
    obtain ⟨hi97, h⟩ := lc_ife h
    obtain ⟨s3, es3, h⟩ := lc_let2 h
    obtain ⟨M4, eM4, h⟩ := lc_let2 h
    refine lc_sd198 C (pc' := 98) (jj := (((5 : Int32) * x5_3) + (1 : Int32)).toNatClampNeg) (M' := M4) rfl hi97 rfl es3 eM4 dL_isAdded_97 rfl ?_
    refine lc_aload_n C (pc' := 99) 3 dL_isAdded_98 rfl rfl ?_
    refine lc_iconst C (pc' := 100) (v := (5 : Int32)) dL_isAdded_99 (by decide) rfl ?_
    refine lc_iload C (pc' := 102) 0 dL_isAdded_100 rfl rfl ?_
    refine lc_imul C (pc' := 103) dL_isAdded_102 rfl ?_
    refine lc_iconst C (pc' := 104) (v := (2 : Int32)) dL_isAdded_103 (by decide) rfl ?_
    refine lc_iadd C (pc' := 105) dL_isAdded_104 rfl ?_
    refine lc_iload C (pc' := 107) 5 dL_isAdded_105 rfl rfl ?_
    refine lc_bipush C (pc' := 109) (v := (14 : Int32)) dL_isAdded_107 (by decide) rfl ?_
    refine lc_ishr C (pc' := 110) dL_isAdded_109 rfl ?_
    refine lc_iconst C (pc' := 111) (v := (4 : Int32)) dL_isAdded_110 (by decide) rfl ?_
    obtain ⟨r111, h111, h⟩ := lc_bde h
    refine lc_csi C (pc' := 114) (r := r111) (M' := M4) (As := [.int (x4 >>> ((14 : Int32) &&& 31)), .int (4 : Int32)]) (rest := [.int (((5 : Int32) * x5_3) + (2 : Int32)), .ref (lc_ad S 198)]) (c_L_low S X.2.1 M4   (x4 >>> ((14 : Int32) &&& 31)) (4 : Int32)  r111 h111) kl_RL_83 rfl rfl (Nat.le_of_ble_eq_true rfl) ⟨Nat.le_of_ble_eq_true rfl, Nat.le_of_ble_eq_true rfl⟩ ⟨rfl, rfl⟩ ⟨Nat.le_of_ble_eq_true rfl, Nat.le_of_ble_eq_true rfl⟩ dL_isAdded_111 rfl ?_
    obtain ⟨hi114, h⟩ := lc_ife h
    obtain ⟨s5, es5, h⟩ := lc_let2 h
    obtain ⟨M6, eM6, h⟩ := lc_let2 h
    refine lc_sd198 C (pc' := 115) (jj := (((5 : Int32) * x5_3) + (2 : Int32)).toNatClampNeg) (M' := M6) rfl hi114 rfl es5 eM6 dL_isAdded_114 rfl ?_
    refine lc_aload_n C (pc' := 116) 2 dL_isAdded_115 rfl rfl ?_
    refine lc_iconst C (pc' := 117) (v := (1 : Int32)) dL_isAdded_116 (by decide) rfl ?_
    refine lc_dup2 C (pc' := 118) dL_isAdded_117 rfl rfl rfl ?_
    refine lc_ld197 C (pc' := 119) (jj := 1) rfl (by decide) (by decide) dL_isAdded_118 rfl ?_
    refine lc_iconst C (pc' := 120) (v := (1 : Int32)) dL_isAdded_119 (by decide) rfl ?_
    refine lc_iadd C (pc' := 121) dL_isAdded_120 rfl ?_
    obtain ⟨s7, es7, h⟩ := lc_let2 h
    obtain ⟨M8, eM8, h⟩ := lc_let2 h
    refine lc_sd197 C (pc' := 122) (jj := 1) (M' := M8) rfl (by decide) (by decide) es7 eM8 dL_isAdded_121 rfl ?_
    refine lc_aload_n C (pc' := 123) 2 dL_isAdded_122 rfl rfl ?_
    refine lc_iconst C (pc' := 124) (v := (3 : Int32)) dL_isAdded_123 (by decide) rfl ?_
    refine lc_dup2 C (pc' := 125) dL_isAdded_124 rfl rfl rfl ?_
    refine lc_ld197 C (pc' := 126) (jj := 3) rfl (by decide) (by decide) dL_isAdded_125 rfl ?_
    refine lc_aload_n C (pc' := 127) 3 dL_isAdded_126 rfl rfl ?_
    refine lc_iconst C (pc' := 128) (v := (5 : Int32)) dL_isAdded_127 (by decide) rfl ?_
    refine lc_iload C (pc' := 130) 0 dL_isAdded_128 rfl rfl ?_
    refine lc_imul C (pc' := 131) dL_isAdded_130 rfl ?_
    refine lc_iconst C (pc' := 132) (v := (1 : Int32)) dL_isAdded_131 (by decide) rfl ?_
    refine lc_iadd C (pc' := 133) dL_isAdded_132 rfl ?_
    obtain ⟨hi133, h⟩ := lc_ife h
    refine lc_ld198 C (pc' := 134) (jj := (((5 : Int32) * x5_3) + (1 : Int32)).toNatClampNeg) rfl hi133 rfl dL_isAdded_133 rfl ?_
    refine lc_iadd C (pc' := 135) dL_isAdded_134 rfl ?_
    obtain ⟨s9, es9, h⟩ := lc_let2 h
    obtain ⟨M10, eM10, h⟩ := lc_let2 h
    refine lc_sd197 C (pc' := 136) (jj := 3) (M' := M10) rfl (by decide) (by decide) es9 eM10 dL_isAdded_135 rfl ?_
    refine lc_aload_n C (pc' := 137) 1 dL_isAdded_136 rfl rfl ?_
    refine lc_aload_n C (pc' := 138) 3 dL_isAdded_137 rfl rfl ?_
    refine lc_iconst C (pc' := 139) (v := (5 : Int32)) dL_isAdded_138 (by decide) rfl ?_
    refine lc_iload C (pc' := 141) 0 dL_isAdded_139 rfl rfl ?_
    refine lc_imul C (pc' := 142) dL_isAdded_141 rfl ?_
    obtain ⟨hi142, h⟩ := lc_ife h
    refine lc_ld198 C (pc' := 143) (jj := ((5 : Int32) * x5_3).toNatClampNeg) rfl hi142 rfl dL_isAdded_142 rfl ?_
    refine lc_aload_n C (pc' := 144) 3 dL_isAdded_143 rfl rfl ?_
    refine lc_iconst C (pc' := 145) (v := (5 : Int32)) dL_isAdded_144 (by decide) rfl ?_
    refine lc_iload C (pc' := 147) 0 dL_isAdded_145 rfl rfl ?_
    refine lc_imul C (pc' := 148) dL_isAdded_147 rfl ?_
    refine lc_iconst C (pc' := 149) (v := (1 : Int32)) dL_isAdded_148 (by decide) rfl ?_
    refine lc_iadd C (pc' := 150) dL_isAdded_149 rfl ?_
    obtain ⟨hi150, h⟩ := lc_ife h
    refine lc_ld198 C (pc' := 151) (jj := (((5 : Int32) * x5_3) + (1 : Int32)).toNatClampNeg) rfl hi150 rfl dL_isAdded_150 rfl ?_
    refine lc_aload_n C (pc' := 152) 3 dL_isAdded_151 rfl rfl ?_
    refine lc_iconst C (pc' := 153) (v := (5 : Int32)) dL_isAdded_152 (by decide) rfl ?_
    refine lc_iload C (pc' := 155) 0 dL_isAdded_153 rfl rfl ?_
    refine lc_imul C (pc' := 156) dL_isAdded_155 rfl ?_
    refine lc_iconst C (pc' := 157) (v := (2 : Int32)) dL_isAdded_156 (by decide) rfl ?_
    refine lc_iadd C (pc' := 158) dL_isAdded_157 rfl ?_
    obtain ⟨hi158, h⟩ := lc_ife h
    refine lc_ld198 C (pc' := 159) (jj := (((5 : Int32) * x5_3) + (2 : Int32)).toNatClampNeg) rfl hi158 rfl dL_isAdded_158 rfl ?_
    refine lc_aload_n C (pc' := 160) 4 dL_isAdded_159 rfl rfl ?_
    obtain ⟨r160, M11, h160, h⟩ := lc_bd2e h
    refine lc_csW C (pc' := 163) (r := r160) (M' := M11) (As := [.ref (lc_ad S 194), .int ((M10 22) 1 ((5 : Int32) * x5_3).toNatClampNeg), .int ((M10 22) 1 (((5 : Int32) * x5_3) + (1 : Int32)).toNatClampNeg), .int ((M10 22) 1 (((5 : Int32) * x5_3) + (2 : Int32)).toNatClampNeg), .ref (lc_ad S 203)]) (rest := []) (c_L_addCell S X.2.1 hl ((M10 22) 1 ((5 : Int32) * x5_3).toNatClampNeg) ((M10 22) 1 (((5 : Int32) * x5_3) + (1 : Int32)).toNatClampNeg) ((M10 22) 1 (((5 : Int32) * x5_3) + (2 : Int32)).toNatClampNeg) M10 (r160, M11) h160) kw_L_addCell rfl rfl (Nat.le_of_ble_eq_true rfl) ⟨Nat.le_of_ble_eq_true rfl, Nat.le_of_ble_eq_true rfl⟩ ⟨Nat.le_of_ble_eq_true rfl, Nat.le_of_ble_eq_true rfl⟩ dL_isAdded_160 rfl ?_
    refine lc_if_ne C (pc' := 166) (tgt := 178) dL_isAdded_163 (by decide) rfl (fun c163 => ?_) (fun c163 => ?_)
    · have h := (lc_if2 h).2 c163
      refine lc_iconst C (pc' := 179) (v := (0 : Int32)) dL_isAdded_178 (by decide) rfl ?_
      obtain rfl := Option.some.inj h
      refine lc_wid (k' := 3) (j' := 18) (Nat.le_of_ble_eq_true rfl) (Nat.le_of_ble_eq_true rfl) ?_
      exact lc_zret C rfl (Or.inl rfl) dL_isAdded_179
    · have h := (lc_if2 h).1 c163
      refine lc_aload_n C (pc' := 167) 4 dL_isAdded_166 rfl rfl ?_
      refine lc_iconst C (pc' := 168) (v := (0 : Int32)) dL_isAdded_167 (by decide) rfl ?_
      refine lc_ld203 C (pc' := 169) (jj := 0) rfl (by decide) (by decide) dL_isAdded_168 rfl ?_
      refine lc_iload C (pc' := 171) 0 dL_isAdded_169 rfl rfl ?_
      refine lc_icmp_ne C (pc' := 174) (tgt := 178) dL_isAdded_171 (by decide) rfl (fun c171 => ?_) (fun c171 => ?_)
      · have h := (lc_if2 h).2 c171
        refine lc_iconst C (pc' := 179) (v := (0 : Int32)) dL_isAdded_178 (by decide) rfl ?_
        obtain rfl := Option.some.inj h
        refine lc_wid (k' := 3) (j' := 18) (Nat.le_of_ble_eq_true rfl) (Nat.le_of_ble_eq_true rfl) ?_
        exact lc_zret C rfl (Or.inl rfl) dL_isAdded_179
      · have h := (lc_if2 h).1 c171
        refine lc_iconst C (pc' := 175) (v := (1 : Int32)) dL_isAdded_174 (by decide) rfl ?_
        refine lc_goto C (tgt := 179) dL_isAdded_175 (by decide) ?_
        obtain rfl := Option.some.inj h
        refine lc_wid (k' := 3) (j' := 18) (Nat.le_of_ble_eq_true rfl) (Nat.le_of_ble_eq_true rfl) ?_
        exact lc_zret C rfl (Or.inr rfl) dL_isAdded_179
  · have h := (lc_if2 h).1 c9
    refine lc_aload_n C (pc' := 13) 1 dL_isAdded_12 rfl rfl ?_
    refine lc_bipush C (pc' := 15) (v := (10 : Int32)) dL_isAdded_13 (by decide) rfl ?_
    refine lc_bipush C (pc' := 17) (v := (11 : Int32)) dL_isAdded_15 (by decide) rfl ?_
    refine lc_iconst C (pc' := 18) (v := (0 : Int32)) dL_isAdded_17 (by decide) rfl ?_
    refine lc_aload_n C (pc' := 19) 4 dL_isAdded_18 rfl rfl ?_
    obtain ⟨r19, M12, h19, h⟩ := lc_bd2e h
    refine lc_csW C (pc' := 22) (r := r19) (M' := M12) (As := [.ref (lc_ad S 194), .int (10 : Int32), .int (11 : Int32), .int (0 : Int32), .ref (lc_ad S 203)]) (rest := []) (c_L_addCell S X.2.1 hl (10 : Int32) (11 : Int32) (0 : Int32) M (r19, M12) h19) kw_L_addCell rfl rfl (Nat.le_of_ble_eq_true rfl) ⟨Nat.le_of_ble_eq_true rfl, Nat.le_of_ble_eq_true rfl⟩ ⟨Nat.le_of_ble_eq_true rfl, Nat.le_of_ble_eq_true rfl⟩ dL_isAdded_19 rfl ?_
    refine lc_iconst C (pc' := 23) (v := (1 : Int32)) dL_isAdded_22 (by decide) rfl ?_
    refine lc_icmp_ne C (pc' := 26) (tgt := 56) dL_isAdded_23 (by decide) rfl (fun c23 => ?_) (fun c23 => ?_)
    · have h := (lc_if2 h).2 c23
      refine lc_iconst C (pc' := 57) (v := (0 : Int32)) dL_isAdded_56 (by decide) rfl ?_
      obtain rfl := Option.some.inj h
      refine lc_wid (k' := 3) (j' := 18) (Nat.le_of_ble_eq_true rfl) (Nat.le_of_ble_eq_true rfl) ?_
      exact lc_zret C rfl (Or.inl rfl) dL_isAdded_57
    · have h := (lc_if2 h).1 c23
      refine lc_aload_n C (pc' := 27) 1 dL_isAdded_26 rfl rfl ?_
      refine lc_bipush C (pc' := 29) (v := (9 : Int32)) dL_isAdded_27 (by decide) rfl ?_
      refine lc_iconst C (pc' := 30) (v := (0 : Int32)) dL_isAdded_29 (by decide) rfl ?_
      refine lc_iconst C (pc' := 31) (v := (0 : Int32)) dL_isAdded_30 (by decide) rfl ?_
      refine lc_aload_n C (pc' := 32) 4 dL_isAdded_31 rfl rfl ?_
      obtain ⟨r32, M13, h32, h⟩ := lc_bd2e h
      refine lc_csW C (pc' := 35) (r := r32) (M' := M13) (As := [.ref (lc_ad S 194), .int (9 : Int32), .int (0 : Int32), .int (0 : Int32), .ref (lc_ad S 203)]) (rest := []) (c_L_addCell S X.2.1 hl (9 : Int32) (0 : Int32) (0 : Int32) M12 (r32, M13) h32) kw_L_addCell rfl rfl (Nat.le_of_ble_eq_true rfl) ⟨Nat.le_of_ble_eq_true rfl, Nat.le_of_ble_eq_true rfl⟩ ⟨Nat.le_of_ble_eq_true rfl, Nat.le_of_ble_eq_true rfl⟩ dL_isAdded_32 rfl ?_
      refine lc_iconst C (pc' := 36) (v := (1 : Int32)) dL_isAdded_35 (by decide) rfl ?_
      refine lc_icmp_ne C (pc' := 39) (tgt := 56) dL_isAdded_36 (by decide) rfl (fun c36 => ?_) (fun c36 => ?_)
      · have h := (lc_if2 h).2 c36
        refine lc_iconst C (pc' := 57) (v := (0 : Int32)) dL_isAdded_56 (by decide) rfl ?_
        obtain rfl := Option.some.inj h
        refine lc_wid (k' := 3) (j' := 18) (Nat.le_of_ble_eq_true rfl) (Nat.le_of_ble_eq_true rfl) ?_
        exact lc_zret C rfl (Or.inl rfl) dL_isAdded_57
      · have h := (lc_if2 h).1 c36
        refine lc_aload_n C (pc' := 40) 1 dL_isAdded_39 rfl rfl ?_
        refine lc_bipush C (pc' := 42) (v := (10 : Int32)) dL_isAdded_40 (by decide) rfl ?_
        refine lc_iconst C (pc' := 43) (v := (0 : Int32)) dL_isAdded_42 (by decide) rfl ?_
        refine lc_iconst C (pc' := 44) (v := (4 : Int32)) dL_isAdded_43 (by decide) rfl ?_
        refine lc_aload_n C (pc' := 45) 4 dL_isAdded_44 rfl rfl ?_
        obtain ⟨r45, M14, h45, h⟩ := lc_bd2e h
        refine lc_csW C (pc' := 48) (r := r45) (M' := M14) (As := [.ref (lc_ad S 194), .int (10 : Int32), .int (0 : Int32), .int (4 : Int32), .ref (lc_ad S 203)]) (rest := []) (c_L_addCell S X.2.1 hl (10 : Int32) (0 : Int32) (4 : Int32) M13 (r45, M14) h45) kw_L_addCell rfl rfl (Nat.le_of_ble_eq_true rfl) ⟨Nat.le_of_ble_eq_true rfl, Nat.le_of_ble_eq_true rfl⟩ ⟨Nat.le_of_ble_eq_true rfl, Nat.le_of_ble_eq_true rfl⟩ dL_isAdded_45 rfl ?_
        refine lc_iconst C (pc' := 49) (v := (1 : Int32)) dL_isAdded_48 (by decide) rfl ?_
        refine lc_icmp_ne C (pc' := 52) (tgt := 56) dL_isAdded_49 (by decide) rfl (fun c49 => ?_) (fun c49 => ?_)
        · have h := (lc_if2 h).2 c49
          refine lc_iconst C (pc' := 57) (v := (0 : Int32)) dL_isAdded_56 (by decide) rfl ?_
          obtain rfl := Option.some.inj h
          refine lc_wid (k' := 3) (j' := 18) (Nat.le_of_ble_eq_true rfl) (Nat.le_of_ble_eq_true rfl) ?_
          exact lc_zret C rfl (Or.inl rfl) dL_isAdded_57
        · have h := (lc_if2 h).1 c49
          refine lc_iconst C (pc' := 53) (v := (1 : Int32)) dL_isAdded_52 (by decide) rfl ?_
          refine lc_goto C (tgt := 57) dL_isAdded_53 (by decide) ?_
          obtain rfl := Option.some.inj h
          refine lc_wid (k' := 3) (j' := 18) (Nat.le_of_ble_eq_true rfl) (Nat.le_of_ble_eq_true rfl) ?_
          exact lc_zret C rfl (Or.inr rfl) dL_isAdded_57
set_option maxRecDepth 100000 in
set_option maxHeartbeats 4000000 in
theorem c_L_Zlends (S : lc_Se) (l : Launch) (M : lc_MM)  (x3 : Int32) (x4 : Int32) (x5 : Int32) (x6 : Int32) (s : lc_St) (out : Int32 × lc_St) (h : P_L_lends x3 x4 x5 x6 s = some out) : lc_MI S l yL_lends cL_lends 8 (some .int) rm_L_lends [.ref (lc_ad S 200), .ref (lc_ad S 201), .ref (lc_ad S 202), .int x3, .int x4, .int x5, .int x6] (va_up M 23 s) out.1 (va_up M 23 out.2) := by
  refine lc_mkI (own := RL) pn_RL rfl (Nat.le_of_ble_eq_true rfl) (lo := [(0, .ref (lc_ad S 200)), (1, .ref (lc_ad S 201)), (2, .ref (lc_ad S 202)), (3, .int x3), (4, .int x4), (5, .int x5), (6, .int x6)]) rfl (fun X hX C => ?_)
  rw [P_L_lends] at h
  refine lc_iconst C (pc' := 1) (v := (5 : Int32)) dL_lends_0 (by decide) rfl ?_
  refine lc_aload_n C (pc' := 2) 0 dL_lends_1 rfl rfl ?_
  refine lc_iconst C (pc' := 3) (v := (2 : Int32)) dL_lends_2 (by decide) rfl ?_
  refine lc_ld200 C (pc' := 4) (jj := 2) (va_up_self _ _ _) (by decide) (by decide) dL_lends_3 rfl ?_
  refine lc_imul C (pc' := 5) dL_lends_4 rfl ?_
  obtain ⟨x7_5, e7_5, h⟩ := lc_let2 h
  rw [e7_5]
  refine lc_istore C (pc' := 7) (lo' := [(7, .int x7_5), (0, .ref (lc_ad S 200)), (1, .ref (lc_ad S 201)), (2, .ref (lc_ad S 202)), (3, .int x3), (4, .int x4), (5, .int x5), (6, .int x6)]) dL_lends_5 (Nat.le_of_ble_eq_true rfl) rfl rfl ?_
  refine lc_aload_n C (pc' := 8) 3 dL_lends_7 rfl rfl ?_
  refine lc_iload C (pc' := 10) 0 dL_lends_8 rfl rfl ?_
  refine lc_iload_n C (pc' := 11) 4 dL_lends_10 rfl rfl ?_
  obtain ⟨hi11, h⟩ := lc_ife h
  obtain ⟨s1, es1, h⟩ := lc_let2 h
  refine lc_sd202 C (pc' := 12) (jj := x7_5.toNatClampNeg) (M' := (va_up M 23 s1)) (va_up_self _ _ _) hi11 rfl es1 (lc_up_up _ _ _ _) dL_lends_11 rfl ?_
  refine lc_aload_n C (pc' := 13) 3 dL_lends_12 rfl rfl ?_
  refine lc_iload C (pc' := 15) 0 dL_lends_13 rfl rfl ?_
  refine lc_iconst C (pc' := 16) (v := (1 : Int32)) dL_lends_15 (by decide) rfl ?_
  refine lc_iadd C (pc' := 17) dL_lends_16 rfl ?_
  refine lc_iload C (pc' := 19) 5 dL_lends_17 rfl rfl ?_
  obtain ⟨hi19, h⟩ := lc_ife h
  obtain ⟨s2, es2, h⟩ := lc_let2 h
  refine lc_sd202 C (pc' := 20) (jj := (x7_5 + (1 : Int32)).toNatClampNeg) (M' := (va_up M 23 s2)) (va_up_self _ _ _) hi19 rfl es2 (lc_up_up _ _ _ _) dL_lends_19 rfl ?_
  refine lc_aload_n C (pc' := 21) 3 dL_lends_20 rfl rfl ?_
  refine lc_iload C (pc' := 23) 0 dL_lends_21 rfl rfl ?_
  refine lc_iconst C (pc' := 24) (v := (2 : Int32)) dL_lends_23 (by decide) rfl ?_
  refine lc_iadd C (pc' := 25) dL_lends_24 rfl ?_
  refine lc_iload C (pc' := 27) 6 dL_lends_25 rfl rfl ?_
  obtain ⟨hi27, h⟩ := lc_ife h
  obtain ⟨s3, es3, h⟩ := lc_let2 h
  refine lc_sd202 C (pc' := 28) (jj := (x7_5 + (2 : Int32)).toNatClampNeg) (M' := (va_up M 23 s3)) (va_up_self _ _ _) hi27 rfl es3 (lc_up_up _ _ _ _) dL_lends_27 rfl ?_
  refine lc_aload_n C (pc' := 29) 3 dL_lends_28 rfl rfl ?_
  refine lc_iload C (pc' := 31) 0 dL_lends_29 rfl rfl ?_
  refine lc_iconst C (pc' := 32) (v := (3 : Int32)) dL_lends_31 (by decide) rfl ?_
  refine lc_iadd C (pc' := 33) dL_lends_32 rfl ?_
  refine lc_iload C (pc' := 35) 7 dL_lends_33 rfl rfl ?_
  obtain ⟨hi35, h⟩ := lc_ife h
  obtain ⟨s4, es4, h⟩ := lc_let2 h
  refine lc_sd202 C (pc' := 36) (jj := (x7_5 + (3 : Int32)).toNatClampNeg) (M' := (va_up M 23 s4)) (va_up_self _ _ _) hi35 rfl es4 (lc_up_up _ _ _ _) dL_lends_35 rfl ?_
  refine lc_aload_n C (pc' := 37) 3 dL_lends_36 rfl rfl ?_
  refine lc_iload C (pc' := 39) 0 dL_lends_37 rfl rfl ?_
  refine lc_iconst C (pc' := 40) (v := (4 : Int32)) dL_lends_39 (by decide) rfl ?_
  refine lc_iadd C (pc' := 41) dL_lends_40 rfl ?_
  refine lc_aload_n C (pc' := 42) 1 dL_lends_41 rfl rfl ?_
  refine lc_aload_n C (pc' := 43) 2 dL_lends_42 rfl rfl ?_
  refine lc_iload C (pc' := 45) 6 dL_lends_43 rfl rfl ?_
  refine lc_iload_n C (pc' := 46) 4 dL_lends_45 rfl rfl ?_
  refine lc_iload C (pc' := 48) 5 dL_lends_46 rfl rfl ?_
  obtain ⟨r48, s5, h48, h⟩ := lc_bd2e h
  refine lc_csi C (pc' := 51) (r := r48) (M' := (va_up M 23 s5)) (As := [.ref (lc_ad S 200), .ref (lc_ad S 201), .int x5, .int x3, .int x4]) (rest := [.int (x7_5 + (4 : Int32)), .ref (lc_ad S 202)]) (c_L_Zgoes S X.2.1 M   x5 x3 x4 s4 (r48, s5) h48) kl_RL_47 rfl rfl (Nat.le_of_ble_eq_true rfl) ⟨Nat.le_of_ble_eq_true rfl, Nat.le_of_ble_eq_true rfl⟩ ⟨rfl, rfl⟩ (lc_z2 _ _) dL_lends_48 rfl ?_
  obtain ⟨hi51, h⟩ := lc_ife h
  obtain ⟨s6, es6, h⟩ := lc_let2 h
  refine lc_sd202 C (pc' := 52) (jj := (x7_5 + (4 : Int32)).toNatClampNeg) (M' := (va_up M 23 s6)) (va_up_self _ _ _) hi51 rfl es6 (lc_up_up _ _ _ _) dL_lends_51 rfl ?_
  refine lc_aload_n C (pc' := 53) 1 dL_lends_52 rfl rfl ?_
  refine lc_iconst C (pc' := 54) (v := (2 : Int32)) dL_lends_53 (by decide) rfl ?_
  refine lc_dup2 C (pc' := 55) dL_lends_54 rfl rfl rfl ?_
  refine lc_ld200 C (pc' := 56) (jj := 2) (va_up_self _ _ _) (by decide) (by decide) dL_lends_55 rfl ?_
  refine lc_iconst C (pc' := 57) (v := (1 : Int32)) dL_lends_56 (by decide) rfl ?_
  refine lc_iadd C (pc' := 58) dL_lends_57 rfl ?_
  obtain ⟨s7, es7, h⟩ := lc_let2 h
  refine lc_sd200 C (pc' := 59) (jj := 2) (M' := (va_up M 23 s7)) (va_up_self _ _ _) (by decide) (by decide) es7 (lc_up_up _ _ _ _) dL_lends_58 rfl ?_
  refine lc_aload_n C (pc' := 60) 3 dL_lends_59 rfl rfl ?_
  refine lc_iload C (pc' := 62) 0 dL_lends_60 rfl rfl ?_
  refine lc_iconst C (pc' := 63) (v := (4 : Int32)) dL_lends_62 (by decide) rfl ?_
  refine lc_iadd C (pc' := 64) dL_lends_63 rfl ?_
  obtain ⟨hi64, h⟩ := lc_ife h
  refine lc_ld202 C (pc' := 65) (jj := (x7_5 + (4 : Int32)).toNatClampNeg) (va_up_self _ _ _) hi64 rfl dL_lends_64 rfl ?_
  obtain rfl := Option.some.inj h
  exact lc_iret C rfl dL_lends_65
abbrev rm_L_isLent : Room := { frames := 8, cells := 3, slots := 18, locals := 145 }
def P_L_isLent_193  (x6 : Int32) (x7 : Int32) (x8 : Int32) (x9 : Int32) (t0 : Int32) (M : lc_MM) : Option (Int32 × lc_MM) :=
  if t0 = 0 then lc_bd2 (P_L_lend x6 x7 x8 x9 M) (fun r211 M4 => if r211 = (3 : Int32) then lc_bd2 (P_L_lend x6 x7 (0 : Int32) x9 M4) (fun r228 M5 => if r228 = (2 : Int32) then lc_bd2 (P_L_lend x6 x7 x8 (51 : Int32) M5) (fun r246 M6 => if r246 = (2 : Int32) then some ((1 : Int32), M6) else some ((0 : Int32), M6)) else some ((0 : Int32), M5)) else some ((0 : Int32), M4)) else lc_bd2 (P_L_lends x6 x7 x8 x9 (M 22)) (fun r270 s1 => lc_let (va_up M 22 s1) (fun M2 => lc_bd2 (P_L_lend x6 x7 x8 x9 M2) (fun r286 M3 => if r286 = 0 then if ((M3 24) 0 0) = r270 then some ((1 : Int32), M3) else some ((0 : Int32), M3) else some ((0 : Int32), M3))))
set_option maxRecDepth 100000 in
set_option maxHeartbeats 4000000 in
theorem w_L_isLent_193 {S : lc_Se} {X : lc_X} (C : lc_C X cL_isLent RL 12 (some .boolean) rm_L_isLent) (hl : X.2.1.stackTraces = false)  (out : Int32 × lc_MM)  : ∀ (x6 : Int32) (x7 : Int32) (x8 : Int32) (x9 : Int32) (t0 : Int32) (M : lc_MM), P_L_isLent_193  x6 x7 x8 x9 t0 M = some out → lc_J S X 12 0 0 (lc_QI S X 3 18 out.1 out.2) 193 [(0, .ref (lc_ad S 194)), (1, .ref (lc_ad S 197)), (2, .ref (lc_ad S 198)), (3, .ref (lc_ad S 199)), (4, .ref (lc_ad S 203)), (6, .int x6), (7, .int x7), (8, .int x8), (9, .int x9)] [.int t0] M := by
  intro x6 x7 x8 x9 t0 M h
  rw [P_L_isLent_193] at h
  refine lc_istore C (pc' := 195) (lo' := [(10, .int t0), (0, .ref (lc_ad S 194)), (1, .ref (lc_ad S 197)), (2, .ref (lc_ad S 198)), (3, .ref (lc_ad S 199)), (4, .ref (lc_ad S 203)), (6, .int x6), (7, .int x7), (8, .int x8), (9, .int x9)]) dL_isLent_193 (Nat.le_of_ble_eq_true rfl) rfl rfl ?_
  refine lc_iload C (pc' := 197) 0 dL_isLent_195 rfl rfl ?_
  refine lc_if_ne C (pc' := 200) (tgt := 259) dL_isLent_197 (by decide) rfl (fun c197 => ?_) (fun c197 => ?_)
  · have h := (lc_if2 h).2 c197
    refine lc_aload_n C (pc' := 260) 2 dL_isLent_259 rfl rfl ?_
    refine lc_aload_n C (pc' := 261) 3 dL_isLent_260 rfl rfl ?_
    refine lc_aload_n C (pc' := 262) 4 dL_isLent_261 rfl rfl ?_
    refine lc_iload C (pc' := 264) 6 dL_isLent_262 rfl rfl ?_
    refine lc_iload C (pc' := 266) 7 dL_isLent_264 rfl rfl ?_
    refine lc_iload C (pc' := 268) 8 dL_isLent_266 rfl rfl ?_
    refine lc_iload C (pc' := 270) 9 dL_isLent_268 rfl rfl ?_
    refine lc_meq (lc_up_self M 22).symm ?_
    obtain ⟨r270, s1, h270, h⟩ := lc_bd2e h
    refine lc_csi C (pc' := 273) (r := r270) (M' := (va_up M 22 s1)) (As := [.ref (lc_ad S 197), .ref (lc_ad S 198), .ref (lc_ad S 199), .int x6, .int x7, .int x8, .int x9]) (rest := []) (c_L_lends S X.2.1 M   x6 x7 x8 x9 (M 22) (r270, s1) h270) kl_RL_67 rfl rfl (Nat.le_of_ble_eq_true rfl) ⟨Nat.le_of_ble_eq_true rfl, Nat.le_of_ble_eq_true rfl⟩ ⟨rfl, rfl⟩ ⟨Nat.le_of_ble_eq_true rfl, Nat.le_of_ble_eq_true rfl⟩ dL_isLent_270 rfl ?_
    obtain ⟨M2, eM2, h⟩ := lc_let2 h
    refine lc_meq eM2 ?_
    refine lc_istore C (pc' := 275) (lo' := [(11, .int r270), (10, .int t0), (0, .ref (lc_ad S 194)), (1, .ref (lc_ad S 197)), (2, .ref (lc_ad S 198)), (3, .ref (lc_ad S 199)), (4, .ref (lc_ad S 203)), (6, .int x6), (7, .int x7), (8, .int x8), (9, .int x9)]) dL_isLent_273 (Nat.le_of_ble_eq_true rfl) rfl rfl ?_
    refine lc_aload_n C (pc' := 276) 2 dL_isLent_275 rfl rfl ?_
    refine lc_iload C (pc' := 278) 7 dL_isLent_276 rfl rfl ?_
    refine lc_iload C (pc' := 280) 8 dL_isLent_278 rfl rfl ?_
    refine lc_iload C (pc' := 282) 9 dL_isLent_280 rfl rfl ?_
    refine lc_iload C (pc' := 284) 10 dL_isLent_282 rfl rfl ?_
    refine lc_aload C (pc' := 286) 6 dL_isLent_284 rfl rfl ?_
    obtain ⟨r286, M3, h286, h⟩ := lc_bd2e h
    refine lc_csW C (pc' := 289) (r := r286) (M' := M3) (As := [.ref (lc_ad S 194), .int x6, .int x7, .int x8, .int x9, .ref (lc_ad S 203)]) (rest := []) (c_L_lend S X.2.1 hl x6 x7 x8 x9 M2 (r286, M3) h286) kw_L_lend rfl rfl (Nat.le_of_ble_eq_true rfl) ⟨Nat.le_of_ble_eq_true rfl, Nat.le_of_ble_eq_true rfl⟩ ⟨Nat.le_of_ble_eq_true rfl, Nat.le_of_ble_eq_true rfl⟩ dL_isLent_286 rfl ?_
    refine lc_if_ne C (pc' := 292) (tgt := 305) dL_isLent_289 (by decide) rfl (fun c289 => ?_) (fun c289 => ?_)
    · have h := (lc_if2 h).2 c289
      refine lc_iconst C (pc' := 306) (v := (0 : Int32)) dL_isLent_305 (by decide) rfl ?_
      obtain rfl := Option.some.inj h
      refine lc_wid (k' := 3) (j' := 18) (Nat.le_of_ble_eq_true rfl) (Nat.le_of_ble_eq_true rfl) ?_
      exact lc_zret C rfl (Or.inl rfl) dL_isLent_306
    · have h := (lc_if2 h).1 c289
      refine lc_aload C (pc' := 294) 6 dL_isLent_292 rfl rfl ?_
      refine lc_iconst C (pc' := 295) (v := (0 : Int32)) dL_isLent_294 (by decide) rfl ?_
      refine lc_ld203 C (pc' := 296) (jj := 0) rfl (by decide) (by decide) dL_isLent_295 rfl ?_
      refine lc_iload C (pc' := 298) 0 dL_isLent_296 rfl rfl ?_
      refine lc_icmp_ne C (pc' := 301) (tgt := 305) dL_isLent_298 (by decide) rfl (fun c298 => ?_) (fun c298 => ?_)
      · have h := (lc_if2 h).2 c298
        refine lc_iconst C (pc' := 306) (v := (0 : Int32)) dL_isLent_305 (by decide) rfl ?_
        obtain rfl := Option.some.inj h
        refine lc_wid (k' := 3) (j' := 18) (Nat.le_of_ble_eq_true rfl) (Nat.le_of_ble_eq_true rfl) ?_
        exact lc_zret C rfl (Or.inl rfl) dL_isLent_306
      · have h := (lc_if2 h).1 c298
        refine lc_iconst C (pc' := 302) (v := (1 : Int32)) dL_isLent_301 (by decide) rfl ?_
        refine lc_goto C (tgt := 306) dL_isLent_302 (by decide) ?_
        obtain rfl := Option.some.inj h
        refine lc_wid (k' := 3) (j' := 18) (Nat.le_of_ble_eq_true rfl) (Nat.le_of_ble_eq_true rfl) ?_
        exact lc_zret C rfl (Or.inr rfl) dL_isLent_306
  · have h := (lc_if2 h).1 c197
    refine lc_aload_n C (pc' := 201) 1 dL_isLent_200 rfl rfl ?_
    refine lc_iload C (pc' := 203) 6 dL_isLent_201 rfl rfl ?_
    refine lc_iload C (pc' := 205) 7 dL_isLent_203 rfl rfl ?_
    refine lc_iload C (pc' := 207) 8 dL_isLent_205 rfl rfl ?_
    refine lc_iload C (pc' := 209) 9 dL_isLent_207 rfl rfl ?_
    refine lc_aload C (pc' := 211) 5 dL_isLent_209 rfl rfl ?_
    obtain ⟨r211, M4, h211, h⟩ := lc_bd2e h
    refine lc_csW C (pc' := 214) (r := r211) (M' := M4) (As := [.ref (lc_ad S 194), .int x6, .int x7, .int x8, .int x9, .ref (lc_ad S 203)]) (rest := []) (c_L_lend S X.2.1 hl x6 x7 x8 x9 M (r211, M4) h211) kw_L_lend rfl rfl (Nat.le_of_ble_eq_true rfl) ⟨Nat.le_of_ble_eq_true rfl, Nat.le_of_ble_eq_true rfl⟩ ⟨Nat.le_of_ble_eq_true rfl, Nat.le_of_ble_eq_true rfl⟩ dL_isLent_211 rfl ?_
    refine lc_iconst C (pc' := 215) (v := (3 : Int32)) dL_isLent_214 (by decide) rfl ?_
    refine lc_icmp_ne C (pc' := 218) (tgt := 257) dL_isLent_215 (by decide) rfl (fun c215 => ?_) (fun c215 => ?_)
    · have h := (lc_if2 h).2 c215
      refine lc_iconst C (pc' := 258) (v := (0 : Int32)) dL_isLent_257 (by decide) rfl ?_
      obtain rfl := Option.some.inj h
      refine lc_wid (k' := 3) (j' := 18) (Nat.le_of_ble_eq_true rfl) (Nat.le_of_ble_eq_true rfl) ?_
      exact lc_zret C rfl (Or.inl rfl) dL_isLent_258
    · have h := (lc_if2 h).1 c215
      refine lc_aload_n C (pc' := 219) 1 dL_isLent_218 rfl rfl ?_
      refine lc_iload C (pc' := 221) 6 dL_isLent_219 rfl rfl ?_
      refine lc_iload C (pc' := 223) 7 dL_isLent_221 rfl rfl ?_
      refine lc_iconst C (pc' := 224) (v := (0 : Int32)) dL_isLent_223 (by decide) rfl ?_
      refine lc_iload C (pc' := 226) 9 dL_isLent_224 rfl rfl ?_
      refine lc_aload C (pc' := 228) 5 dL_isLent_226 rfl rfl ?_
      obtain ⟨r228, M5, h228, h⟩ := lc_bd2e h
      refine lc_csW C (pc' := 231) (r := r228) (M' := M5) (As := [.ref (lc_ad S 194), .int x6, .int x7, .int (0 : Int32), .int x9, .ref (lc_ad S 203)]) (rest := []) (c_L_lend S X.2.1 hl x6 x7 (0 : Int32) x9 M4 (r228, M5) h228) kw_L_lend rfl rfl (Nat.le_of_ble_eq_true rfl) ⟨Nat.le_of_ble_eq_true rfl, Nat.le_of_ble_eq_true rfl⟩ ⟨Nat.le_of_ble_eq_true rfl, Nat.le_of_ble_eq_true rfl⟩ dL_isLent_228 rfl ?_
      refine lc_iconst C (pc' := 232) (v := (2 : Int32)) dL_isLent_231 (by decide) rfl ?_
      refine lc_icmp_ne C (pc' := 235) (tgt := 257) dL_isLent_232 (by decide) rfl (fun c232 => ?_) (fun c232 => ?_)
      · have h := (lc_if2 h).2 c232
        refine lc_iconst C (pc' := 258) (v := (0 : Int32)) dL_isLent_257 (by decide) rfl ?_
        obtain rfl := Option.some.inj h
        refine lc_wid (k' := 3) (j' := 18) (Nat.le_of_ble_eq_true rfl) (Nat.le_of_ble_eq_true rfl) ?_
        exact lc_zret C rfl (Or.inl rfl) dL_isLent_258
      · have h := (lc_if2 h).1 c232
        refine lc_aload_n C (pc' := 236) 1 dL_isLent_235 rfl rfl ?_
        refine lc_iload C (pc' := 238) 6 dL_isLent_236 rfl rfl ?_
        refine lc_iload C (pc' := 240) 7 dL_isLent_238 rfl rfl ?_
        refine lc_iload C (pc' := 242) 8 dL_isLent_240 rfl rfl ?_
        refine lc_bipush C (pc' := 244) (v := (51 : Int32)) dL_isLent_242 (by decide) rfl ?_
        refine lc_aload C (pc' := 246) 5 dL_isLent_244 rfl rfl ?_
        obtain ⟨r246, M6, h246, h⟩ := lc_bd2e h
        refine lc_csW C (pc' := 249) (r := r246) (M' := M6) (As := [.ref (lc_ad S 194), .int x6, .int x7, .int x8, .int (51 : Int32), .ref (lc_ad S 203)]) (rest := []) (c_L_lend S X.2.1 hl x6 x7 x8 (51 : Int32) M5 (r246, M6) h246) kw_L_lend rfl rfl (Nat.le_of_ble_eq_true rfl) ⟨Nat.le_of_ble_eq_true rfl, Nat.le_of_ble_eq_true rfl⟩ ⟨Nat.le_of_ble_eq_true rfl, Nat.le_of_ble_eq_true rfl⟩ dL_isLent_246 rfl ?_
        refine lc_iconst C (pc' := 250) (v := (2 : Int32)) dL_isLent_249 (by decide) rfl ?_
        refine lc_icmp_ne C (pc' := 253) (tgt := 257) dL_isLent_250 (by decide) rfl (fun c250 => ?_) (fun c250 => ?_)
        · have h := (lc_if2 h).2 c250
          refine lc_iconst C (pc' := 258) (v := (0 : Int32)) dL_isLent_257 (by decide) rfl ?_
          obtain rfl := Option.some.inj h
          refine lc_wid (k' := 3) (j' := 18) (Nat.le_of_ble_eq_true rfl) (Nat.le_of_ble_eq_true rfl) ?_
          exact lc_zret C rfl (Or.inl rfl) dL_isLent_258
        · have h := (lc_if2 h).1 c250
          refine lc_iconst C (pc' := 254) (v := (1 : Int32)) dL_isLent_253 (by decide) rfl ?_
          refine lc_goto C (tgt := 258) dL_isLent_254 (by decide) ?_
          obtain rfl := Option.some.inj h
          refine lc_wid (k' := 3) (j' := 18) (Nat.le_of_ble_eq_true rfl) (Nat.le_of_ble_eq_true rfl) ?_
          exact lc_zret C rfl (Or.inr rfl) dL_isLent_258
def P_L_isLent_192  (x6 : Int32) (x7 : Int32) (x8 : Int32) (x9 : Int32) (M : lc_MM) : Option (Int32 × lc_MM) :=
  P_L_isLent_193   x6 x7 x8 x9 (0 : Int32) M
set_option maxRecDepth 100000 in
set_option maxHeartbeats 4000000 in
theorem w_L_isLent_192 {S : lc_Se} {X : lc_X} (C : lc_C X cL_isLent RL 12 (some .boolean) rm_L_isLent) (hl : X.2.1.stackTraces = false)  (out : Int32 × lc_MM)  : ∀ (x6 : Int32) (x7 : Int32) (x8 : Int32) (x9 : Int32) (M : lc_MM), P_L_isLent_192  x6 x7 x8 x9 M = some out → lc_J S X 12 0 0 (lc_QI S X 3 18 out.1 out.2) 192 [(0, .ref (lc_ad S 194)), (1, .ref (lc_ad S 197)), (2, .ref (lc_ad S 198)), (3, .ref (lc_ad S 199)), (4, .ref (lc_ad S 203)), (6, .int x6), (7, .int x7), (8, .int x8), (9, .int x9)] [] M := by
  intro x6 x7 x8 x9 M h
  rw [P_L_isLent_192] at h
  refine lc_iconst C (pc' := 193) (v := (0 : Int32)) dL_isLent_192 (by decide) rfl ?_
  exact w_L_isLent_193 C hl  out   x6 x7 x8 x9 (0 : Int32) M h
def P_L_isLent_60  (x6 : Int32) (x7 : Int32) (x8 : Int32) (t0 : Int32) (t1 : Int32) (M : lc_MM) : Option (Int32 × lc_MM) :=
  lc_bd (P_L_low t0 t1) (fun r60 => if x6 = x7 then lc_bd2 (P_L_lend x6 x7 x8 r60 M) (fun r83 M7 => if r83 = (2 : Int32) then lc_bd2 (P_L_lend x6 ((M7 22) 0 1) x8 (51 : Int32) M7) (fun r102 M8 => if r102 = (1 : Int32) then some ((1 : Int32), M8) else some ((0 : Int32), M8)) else some ((0 : Int32), M7)) else lc_if (lc_ok (((5 : Int32) * x6) + (4 : Int32)) 30) (if ((M 22) 1 (((5 : Int32) * x6) + (4 : Int32)).toNatClampNeg) = 0 then lc_if (lc_ok (((5 : Int32) * x7) + (4 : Int32)) 30) (if ((M 22) 1 (((5 : Int32) * x7) + (4 : Int32)).toNatClampNeg) = 0 then lc_if (lc_ok (((5 : Int32) * x6) + (1 : Int32)) 30) (if ((M 22) 1 (((5 : Int32) * x6) + (1 : Int32)).toNatClampNeg) < x8 then P_L_isLent_192   x6 x7 x8 r60 M else lc_if (lc_ok (((5 : Int32) * x7) + (1 : Int32)) 30) (lc_bd (P_L_lost x8 x6 x7) (fun r167 => lc_if (lc_ok ((5 : Int32) * x7) 30) (if ((M 22) 1 ((5 : Int32) * x7).toNatClampNeg) < ((((M 22) 1 (((5 : Int32) * x7) + (1 : Int32)).toNatClampNeg) + x8) - r167) then P_L_isLent_192   x6 x7 x8 r60 M else if (12 : Int32) ≤ ((M 22) 0 2) then P_L_isLent_192   x6 x7 x8 r60 M else P_L_isLent_193   x6 x7 x8 r60 (1 : Int32) M)))) else P_L_isLent_192   x6 x7 x8 r60 M) else P_L_isLent_192   x6 x7 x8 r60 M))
set_option maxRecDepth 100000 in
set_option maxHeartbeats 4000000 in
theorem w_L_isLent_60 {S : lc_Se} {X : lc_X} (C : lc_C X cL_isLent RL 12 (some .boolean) rm_L_isLent) (hl : X.2.1.stackTraces = false)  (out : Int32 × lc_MM)  : ∀ (x6 : Int32) (x7 : Int32) (x8 : Int32) (t0 : Int32) (t1 : Int32) (M : lc_MM), P_L_isLent_60  x6 x7 x8 t0 t1 M = some out → lc_J S X 12 0 0 (lc_QI S X 3 18 out.1 out.2) 60 [(0, .ref (lc_ad S 194)), (1, .ref (lc_ad S 197)), (2, .ref (lc_ad S 198)), (3, .ref (lc_ad S 199)), (4, .ref (lc_ad S 203)), (6, .int x6), (7, .int x7), (8, .int x8)] [.int t1, .int t0] M := by
  intro x6 x7 x8 t0 t1 M h
  rw [P_L_isLent_60] at h
  obtain ⟨r60, h60, h⟩ := lc_bde h
  refine lc_csi C (pc' := 63) (r := r60) (M' := M) (As := [.int t0, .int t1]) (rest := []) (c_L_low S X.2.1 M   t0 t1  r60 h60) kl_RL_83 rfl rfl (Nat.le_of_ble_eq_true rfl) ⟨Nat.le_of_ble_eq_true rfl, Nat.le_of_ble_eq_true rfl⟩ ⟨rfl, rfl⟩ ⟨Nat.le_of_ble_eq_true rfl, Nat.le_of_ble_eq_true rfl⟩ dL_isLent_60 rfl ?_
  refine lc_istore C (pc' := 65) (lo' := [(9, .int r60), (0, .ref (lc_ad S 194)), (1, .ref (lc_ad S 197)), (2, .ref (lc_ad S 198)), (3, .ref (lc_ad S 199)), (4, .ref (lc_ad S 203)), (6, .int x6), (7, .int x7), (8, .int x8)]) dL_isLent_63 (Nat.le_of_ble_eq_true rfl) rfl rfl ?_
  refine lc_iload C (pc' := 67) 6 dL_isLent_65 rfl rfl ?_
  refine lc_iload C (pc' := 69) 7 dL_isLent_67 rfl rfl ?_
  refine lc_icmp_ne C (pc' := 72) (tgt := 115) dL_isLent_69 (by decide) rfl (fun c69 => ?_) (fun c69 => ?_)
  · have h := (lc_if2 h).2 c69
    refine lc_aload_n C (pc' := 116) 3 dL_isLent_115 rfl rfl ?_
    refine lc_iconst C (pc' := 117) (v := (5 : Int32)) dL_isLent_116 (by decide) rfl ?_
    refine lc_iload C (pc' := 119) 6 dL_isLent_117 rfl rfl ?_
    refine lc_imul C (pc' := 120) dL_isLent_119 rfl ?_
    refine lc_iconst C (pc' := 121) (v := (4 : Int32)) dL_isLent_120 (by decide) rfl ?_
    refine lc_iadd C (pc' := 122) dL_isLent_121 rfl ?_
    obtain ⟨hi122, h⟩ := lc_ife h
    refine lc_ld198 C (pc' := 123) (jj := (((5 : Int32) * x6) + (4 : Int32)).toNatClampNeg) rfl hi122 rfl dL_isLent_122 rfl ?_
    refine lc_if_ne C (pc' := 126) (tgt := 192) dL_isLent_123 (by decide) rfl (fun c123 => ?_) (fun c123 => ?_)
    · have h := (lc_if2 h).2 c123
      refine lc_sub (lo' := [(0, .ref (lc_ad S 194)), (1, .ref (lc_ad S 197)), (2, .ref (lc_ad S 198)), (3, .ref (lc_ad S 199)), (4, .ref (lc_ad S 203)), (6, .int x6), (7, .int x7), (8, .int x8), (9, .int r60)]) [1, 2, 3, 4, 5, 6, 7, 8, 0] rfl ?_
      exact w_L_isLent_192 C hl  out   x6 x7 x8 r60 M h
    · have h := (lc_if2 h).1 c123
      refine lc_aload_n C (pc' := 127) 3 dL_isLent_126 rfl rfl ?_
      refine lc_iconst C (pc' := 128) (v := (5 : Int32)) dL_isLent_127 (by decide) rfl ?_
      refine lc_iload C (pc' := 130) 7 dL_isLent_128 rfl rfl ?_
      refine lc_imul C (pc' := 131) dL_isLent_130 rfl ?_
      refine lc_iconst C (pc' := 132) (v := (4 : Int32)) dL_isLent_131 (by decide) rfl ?_
      refine lc_iadd C (pc' := 133) dL_isLent_132 rfl ?_
      obtain ⟨hi133, h⟩ := lc_ife h
      refine lc_ld198 C (pc' := 134) (jj := (((5 : Int32) * x7) + (4 : Int32)).toNatClampNeg) rfl hi133 rfl dL_isLent_133 rfl ?_
      refine lc_if_ne C (pc' := 137) (tgt := 192) dL_isLent_134 (by decide) rfl (fun c134 => ?_) (fun c134 => ?_)
      · have h := (lc_if2 h).2 c134
        refine lc_sub (lo' := [(0, .ref (lc_ad S 194)), (1, .ref (lc_ad S 197)), (2, .ref (lc_ad S 198)), (3, .ref (lc_ad S 199)), (4, .ref (lc_ad S 203)), (6, .int x6), (7, .int x7), (8, .int x8), (9, .int r60)]) [1, 2, 3, 4, 5, 6, 7, 8, 0] rfl ?_
        exact w_L_isLent_192 C hl  out   x6 x7 x8 r60 M h
      · have h := (lc_if2 h).1 c134
        refine lc_aload_n C (pc' := 138) 3 dL_isLent_137 rfl rfl ?_
        refine lc_iconst C (pc' := 139) (v := (5 : Int32)) dL_isLent_138 (by decide) rfl ?_
        refine lc_iload C (pc' := 141) 6 dL_isLent_139 rfl rfl ?_
        refine lc_imul C (pc' := 142) dL_isLent_141 rfl ?_
        refine lc_iconst C (pc' := 143) (v := (1 : Int32)) dL_isLent_142 (by decide) rfl ?_
        refine lc_iadd C (pc' := 144) dL_isLent_143 rfl ?_
        obtain ⟨hi144, h⟩ := lc_ife h
        refine lc_ld198 C (pc' := 145) (jj := (((5 : Int32) * x6) + (1 : Int32)).toNatClampNeg) rfl hi144 rfl dL_isLent_144 rfl ?_
        refine lc_iload C (pc' := 147) 8 dL_isLent_145 rfl rfl ?_
        refine lc_icmp_lt C (pc' := 150) (tgt := 192) dL_isLent_147 (by decide) rfl (fun c147 => ?_) (fun c147 => ?_)
        · have h := (lc_if2 h).1 c147
          refine lc_sub (lo' := [(0, .ref (lc_ad S 194)), (1, .ref (lc_ad S 197)), (2, .ref (lc_ad S 198)), (3, .ref (lc_ad S 199)), (4, .ref (lc_ad S 203)), (6, .int x6), (7, .int x7), (8, .int x8), (9, .int r60)]) [1, 2, 3, 4, 5, 6, 7, 8, 0] rfl ?_
          exact w_L_isLent_192 C hl  out   x6 x7 x8 r60 M h
        · have h := (lc_if2 h).2 c147
          refine lc_aload_n C (pc' := 151) 3 dL_isLent_150 rfl rfl ?_
          refine lc_iconst C (pc' := 152) (v := (5 : Int32)) dL_isLent_151 (by decide) rfl ?_
          refine lc_iload C (pc' := 154) 7 dL_isLent_152 rfl rfl ?_
          refine lc_imul C (pc' := 155) dL_isLent_154 rfl ?_
          refine lc_iconst C (pc' := 156) (v := (1 : Int32)) dL_isLent_155 (by decide) rfl ?_
          refine lc_iadd C (pc' := 157) dL_isLent_156 rfl ?_
          obtain ⟨hi157, h⟩ := lc_ife h
          refine lc_ld198 C (pc' := 158) (jj := (((5 : Int32) * x7) + (1 : Int32)).toNatClampNeg) rfl hi157 rfl dL_isLent_157 rfl ?_
          refine lc_iload C (pc' := 160) 8 dL_isLent_158 rfl rfl ?_
          refine lc_iadd C (pc' := 161) dL_isLent_160 rfl ?_
          refine lc_iload C (pc' := 163) 8 dL_isLent_161 rfl rfl ?_
          refine lc_iload C (pc' := 165) 6 dL_isLent_163 rfl rfl ?_
          refine lc_iload C (pc' := 167) 7 dL_isLent_165 rfl rfl ?_
          obtain ⟨r167, h167, h⟩ := lc_bde h
          refine lc_csi C (pc' := 170) (r := r167) (M' := M) (As := [.int x8, .int x6, .int x7]) (rest := [.int (((M 22) 1 (((5 : Int32) * x7) + (1 : Int32)).toNatClampNeg) + x8)]) (c_L_lost S X.2.1 M   x8 x6 x7  r167 h167) kl_RL_42 rfl rfl (Nat.le_of_ble_eq_true rfl) ⟨Nat.le_of_ble_eq_true rfl, Nat.le_of_ble_eq_true rfl⟩ ⟨rfl, rfl⟩ ⟨Nat.le_of_ble_eq_true rfl, Nat.le_of_ble_eq_true rfl⟩ dL_isLent_167 rfl ?_
          refine lc_isub C (pc' := 171) dL_isLent_170 rfl ?_
          refine lc_aload_n C (pc' := 172) 3 dL_isLent_171 rfl rfl ?_
          refine lc_iconst C (pc' := 173) (v := (5 : Int32)) dL_isLent_172 (by decide) rfl ?_
          refine lc_iload C (pc' := 175) 7 dL_isLent_173 rfl rfl ?_
          refine lc_imul C (pc' := 176) dL_isLent_175 rfl ?_
          obtain ⟨hi176, h⟩ := lc_ife h
          refine lc_ld198 C (pc' := 177) (jj := ((5 : Int32) * x7).toNatClampNeg) rfl hi176 rfl dL_isLent_176 rfl ?_
          refine lc_icmp_gt C (pc' := 180) (tgt := 192) dL_isLent_177 (by decide) rfl (fun c177 => ?_) (fun c177 => ?_)
          · have h := (lc_if2 h).1 c177
            refine lc_sub (lo' := [(0, .ref (lc_ad S 194)), (1, .ref (lc_ad S 197)), (2, .ref (lc_ad S 198)), (3, .ref (lc_ad S 199)), (4, .ref (lc_ad S 203)), (6, .int x6), (7, .int x7), (8, .int x8), (9, .int r60)]) [1, 2, 3, 4, 5, 6, 7, 8, 0] rfl ?_
            exact w_L_isLent_192 C hl  out   x6 x7 x8 r60 M h
          · have h := (lc_if2 h).2 c177
            refine lc_aload_n C (pc' := 181) 2 dL_isLent_180 rfl rfl ?_
            refine lc_iconst C (pc' := 182) (v := (2 : Int32)) dL_isLent_181 (by decide) rfl ?_
            refine lc_ld197 C (pc' := 183) (jj := 2) rfl (by decide) (by decide) dL_isLent_182 rfl ?_
            refine lc_bipush C (pc' := 185) (v := (12 : Int32)) dL_isLent_183 (by decide) rfl ?_
            refine lc_icmp_ge C (pc' := 188) (tgt := 192) dL_isLent_185 (by decide) rfl (fun c185 => ?_) (fun c185 => ?_)
            · have h := (lc_if2 h).1 c185
              refine lc_sub (lo' := [(0, .ref (lc_ad S 194)), (1, .ref (lc_ad S 197)), (2, .ref (lc_ad S 198)), (3, .ref (lc_ad S 199)), (4, .ref (lc_ad S 203)), (6, .int x6), (7, .int x7), (8, .int x8), (9, .int r60)]) [1, 2, 3, 4, 5, 6, 7, 8, 0] rfl ?_
              exact w_L_isLent_192 C hl  out   x6 x7 x8 r60 M h
            · have h := (lc_if2 h).2 c185
              refine lc_iconst C (pc' := 189) (v := (1 : Int32)) dL_isLent_188 (by decide) rfl ?_
              refine lc_goto C (tgt := 193) dL_isLent_189 (by decide) ?_
              refine lc_sub (lo' := [(0, .ref (lc_ad S 194)), (1, .ref (lc_ad S 197)), (2, .ref (lc_ad S 198)), (3, .ref (lc_ad S 199)), (4, .ref (lc_ad S 203)), (6, .int x6), (7, .int x7), (8, .int x8), (9, .int r60)]) [1, 2, 3, 4, 5, 6, 7, 8, 0] rfl ?_
              exact w_L_isLent_193 C hl  out   x6 x7 x8 r60 (1 : Int32) M h
  · have h := (lc_if2 h).1 c69
    refine lc_aload_n C (pc' := 73) 1 dL_isLent_72 rfl rfl ?_
    refine lc_iload C (pc' := 75) 6 dL_isLent_73 rfl rfl ?_
    refine lc_iload C (pc' := 77) 7 dL_isLent_75 rfl rfl ?_
    refine lc_iload C (pc' := 79) 8 dL_isLent_77 rfl rfl ?_
    refine lc_iload C (pc' := 81) 0 dL_isLent_79 rfl rfl ?_
    refine lc_aload C (pc' := 83) 5 dL_isLent_81 rfl rfl ?_
    obtain ⟨r83, M7, h83, h⟩ := lc_bd2e h
    refine lc_csW C (pc' := 86) (r := r83) (M' := M7) (As := [.ref (lc_ad S 194), .int x6, .int x7, .int x8, .int r60, .ref (lc_ad S 203)]) (rest := []) (c_L_lend S X.2.1 hl x6 x7 x8 r60 M (r83, M7) h83) kw_L_lend rfl rfl (Nat.le_of_ble_eq_true rfl) ⟨Nat.le_of_ble_eq_true rfl, Nat.le_of_ble_eq_true rfl⟩ ⟨Nat.le_of_ble_eq_true rfl, Nat.le_of_ble_eq_true rfl⟩ dL_isLent_83 rfl ?_
    refine lc_iconst C (pc' := 87) (v := (2 : Int32)) dL_isLent_86 (by decide) rfl ?_
    refine lc_icmp_ne C (pc' := 90) (tgt := 113) dL_isLent_87 (by decide) rfl (fun c87 => ?_) (fun c87 => ?_)
    · have h := (lc_if2 h).2 c87
      refine lc_iconst C (pc' := 114) (v := (0 : Int32)) dL_isLent_113 (by decide) rfl ?_
      obtain rfl := Option.some.inj h
      refine lc_wid (k' := 3) (j' := 18) (Nat.le_of_ble_eq_true rfl) (Nat.le_of_ble_eq_true rfl) ?_
      exact lc_zret C rfl (Or.inl rfl) dL_isLent_114
    · have h := (lc_if2 h).1 c87
      refine lc_aload_n C (pc' := 91) 1 dL_isLent_90 rfl rfl ?_
      refine lc_iload C (pc' := 93) 6 dL_isLent_91 rfl rfl ?_
      refine lc_aload_n C (pc' := 94) 2 dL_isLent_93 rfl rfl ?_
      refine lc_iconst C (pc' := 95) (v := (1 : Int32)) dL_isLent_94 (by decide) rfl ?_
      refine lc_ld197 C (pc' := 96) (jj := 1) rfl (by decide) (by decide) dL_isLent_95 rfl ?_
      refine lc_iload C (pc' := 98) 8 dL_isLent_96 rfl rfl ?_
      refine lc_bipush C (pc' := 100) (v := (51 : Int32)) dL_isLent_98 (by decide) rfl ?_
      refine lc_aload C (pc' := 102) 5 dL_isLent_100 rfl rfl ?_
      obtain ⟨r102, M8, h102, h⟩ := lc_bd2e h
      refine lc_csW C (pc' := 105) (r := r102) (M' := M8) (As := [.ref (lc_ad S 194), .int x6, .int ((M7 22) 0 1), .int x8, .int (51 : Int32), .ref (lc_ad S 203)]) (rest := []) (c_L_lend S X.2.1 hl x6 ((M7 22) 0 1) x8 (51 : Int32) M7 (r102, M8) h102) kw_L_lend rfl rfl (Nat.le_of_ble_eq_true rfl) ⟨Nat.le_of_ble_eq_true rfl, Nat.le_of_ble_eq_true rfl⟩ ⟨Nat.le_of_ble_eq_true rfl, Nat.le_of_ble_eq_true rfl⟩ dL_isLent_102 rfl ?_
      refine lc_iconst C (pc' := 106) (v := (1 : Int32)) dL_isLent_105 (by decide) rfl ?_
      refine lc_icmp_ne C (pc' := 109) (tgt := 113) dL_isLent_106 (by decide) rfl (fun c106 => ?_) (fun c106 => ?_)
      · have h := (lc_if2 h).2 c106
        refine lc_iconst C (pc' := 114) (v := (0 : Int32)) dL_isLent_113 (by decide) rfl ?_
        obtain rfl := Option.some.inj h
        refine lc_wid (k' := 3) (j' := 18) (Nat.le_of_ble_eq_true rfl) (Nat.le_of_ble_eq_true rfl) ?_
        exact lc_zret C rfl (Or.inl rfl) dL_isLent_114
      · have h := (lc_if2 h).1 c106
        refine lc_iconst C (pc' := 110) (v := (1 : Int32)) dL_isLent_109 (by decide) rfl ?_
        refine lc_goto C (tgt := 114) dL_isLent_110 (by decide) ?_
        obtain rfl := Option.some.inj h
        refine lc_wid (k' := 3) (j' := 18) (Nat.le_of_ble_eq_true rfl) (Nat.le_of_ble_eq_true rfl) ?_
        exact lc_zret C rfl (Or.inr rfl) dL_isLent_114
def P_L_isLent  (x5 : Int32) (M : lc_MM) : Option (Int32 × lc_MM) :=
  lc_bd (P_L_low x5 ((M 22) 0 1)) (fun r5 => lc_bd (P_L_low (x5 >>> ((3 : Int32) &&& 31)) ((M 22) 0 1)) (fun r17 => lc_bd (P_L_low (x5 >>> ((6 : Int32) &&& 31)) (40 : Int32)) (fun r30 => lc_let ((1 : Int32) + r30) (fun x8_34 => lc_bd (P_L_low (x5 >>> ((19 : Int32) &&& 31)) (2 : Int32)) (fun r47 => if r47 = 0 then P_L_isLent_60   r5 r17 x8_34 (x5 >>> ((12 : Int32) &&& 31)) (51 : Int32) M else P_L_isLent_60   r5 r17 x8_34 (x5 >>> ((12 : Int32) &&& 31)) (12 : Int32) M)))))
set_option maxRecDepth 100000 in
set_option maxHeartbeats 4000000 in
theorem c_L_isLent (S : lc_Se) (l : Launch) (hl : l.stackTraces = false)   (x5 : Int32) (M : lc_MM) (out : Int32 × lc_MM) (h : P_L_isLent x5 M = some out) : lc_MI S l yL_isLent cL_isLent 12 (some .boolean) rm_L_isLent [.ref (lc_ad S 194), .ref (lc_ad S 197), .ref (lc_ad S 198), .ref (lc_ad S 199), .ref (lc_ad S 203), .int x5] M out.1 out.2 := by
  refine lc_mkI (own := RL) pn_RL rfl (Nat.le_of_ble_eq_true rfl) (lo := [(0, .ref (lc_ad S 194)), (1, .ref (lc_ad S 197)), (2, .ref (lc_ad S 198)), (3, .ref (lc_ad S 199)), (4, .ref (lc_ad S 203)), (5, .int x5)]) rfl (fun X hX C => ?_)
  rw [P_L_isLent] at h
  subst hX
  refine lc_iload C (pc' := 2) 5 dL_isLent_0 rfl rfl ?_
  refine lc_aload_n C (pc' := 3) 1 dL_isLent_2 rfl rfl ?_
  refine lc_iconst C (pc' := 4) (v := (1 : Int32)) dL_isLent_3 (by decide) rfl ?_
  refine lc_ld197 C (pc' := 5) (jj := 1) rfl (by decide) (by decide) dL_isLent_4 rfl ?_
  obtain ⟨r5, h5, h⟩ := lc_bde h
  refine lc_csi C (pc' := 8) (r := r5) (M' := M) (As := [.int x5, .int ((M 22) 0 1)]) (rest := []) (c_L_low S X.2.1 M   x5 ((M 22) 0 1)  r5 h5) kl_RL_83 rfl rfl (Nat.le_of_ble_eq_true rfl) ⟨Nat.le_of_ble_eq_true rfl, Nat.le_of_ble_eq_true rfl⟩ ⟨rfl, rfl⟩ ⟨Nat.le_of_ble_eq_true rfl, Nat.le_of_ble_eq_true rfl⟩ dL_isLent_5 rfl ?_
  refine lc_istore C (pc' := 10) (lo' := [(6, .int r5), (0, .ref (lc_ad S 194)), (1, .ref (lc_ad S 197)), (2, .ref (lc_ad S 198)), (3, .ref (lc_ad S 199)), (4, .ref (lc_ad S 203)), (5, .int x5)]) dL_isLent_8 (Nat.le_of_ble_eq_true rfl) rfl rfl ?_
  refine lc_iload C (pc' := 12) 6 dL_isLent_10 rfl rfl ?_
  refine lc_iconst C (pc' := 13) (v := (3 : Int32)) dL_isLent_12 (by decide) rfl ?_
  refine lc_ishr C (pc' := 14) dL_isLent_13 rfl ?_
  refine lc_aload_n C (pc' := 15) 2 dL_isLent_14 rfl rfl ?_
  refine lc_iconst C (pc' := 16) (v := (1 : Int32)) dL_isLent_15 (by decide) rfl ?_
  refine lc_ld197 C (pc' := 17) (jj := 1) rfl (by decide) (by decide) dL_isLent_16 rfl ?_
  obtain ⟨r17, h17, h⟩ := lc_bde h
  refine lc_csi C (pc' := 20) (r := r17) (M' := M) (As := [.int (x5 >>> ((3 : Int32) &&& 31)), .int ((M 22) 0 1)]) (rest := []) (c_L_low S X.2.1 M   (x5 >>> ((3 : Int32) &&& 31)) ((M 22) 0 1)  r17 h17) kl_RL_83 rfl rfl (Nat.le_of_ble_eq_true rfl) ⟨Nat.le_of_ble_eq_true rfl, Nat.le_of_ble_eq_true rfl⟩ ⟨rfl, rfl⟩ ⟨Nat.le_of_ble_eq_true rfl, Nat.le_of_ble_eq_true rfl⟩ dL_isLent_17 rfl ?_
  refine lc_istore C (pc' := 22) (lo' := [(7, .int r17), (6, .int r5), (0, .ref (lc_ad S 194)), (1, .ref (lc_ad S 197)), (2, .ref (lc_ad S 198)), (3, .ref (lc_ad S 199)), (4, .ref (lc_ad S 203)), (5, .int x5)]) dL_isLent_20 (Nat.le_of_ble_eq_true rfl) rfl rfl ?_
  refine lc_iconst C (pc' := 23) (v := (1 : Int32)) dL_isLent_22 (by decide) rfl ?_
  refine lc_iload C (pc' := 25) 7 dL_isLent_23 rfl rfl ?_
  refine lc_bipush C (pc' := 27) (v := (6 : Int32)) dL_isLent_25 (by decide) rfl ?_
  refine lc_ishr C (pc' := 28) dL_isLent_27 rfl ?_
  refine lc_bipush C (pc' := 30) (v := (40 : Int32)) dL_isLent_28 (by decide) rfl ?_
  obtain ⟨r30, h30, h⟩ := lc_bde h
  refine lc_csi C (pc' := 33) (r := r30) (M' := M) (As := [.int (x5 >>> ((6 : Int32) &&& 31)), .int (40 : Int32)]) (rest := [.int (1 : Int32)]) (c_L_low S X.2.1 M   (x5 >>> ((6 : Int32) &&& 31)) (40 : Int32)  r30 h30) kl_RL_83 rfl rfl (Nat.le_of_ble_eq_true rfl) ⟨Nat.le_of_ble_eq_true rfl, Nat.le_of_ble_eq_true rfl⟩ ⟨rfl, rfl⟩ ⟨Nat.le_of_ble_eq_true rfl, Nat.le_of_ble_eq_true rfl⟩ dL_isLent_30 rfl ?_
  refine lc_iadd C (pc' := 34) dL_isLent_33 rfl ?_
  obtain ⟨x8_34, e8_34, h⟩ := lc_let2 h
  rw [e8_34]
  refine lc_istore C (pc' := 36) (lo' := [(8, .int x8_34), (7, .int r17), (6, .int r5), (0, .ref (lc_ad S 194)), (1, .ref (lc_ad S 197)), (2, .ref (lc_ad S 198)), (3, .ref (lc_ad S 199)), (4, .ref (lc_ad S 203)), (5, .int x5)]) dL_isLent_34 (Nat.le_of_ble_eq_true rfl) rfl rfl ?_
  refine lc_iload C (pc' := 38) 8 dL_isLent_36 rfl rfl ?_
  refine lc_bipush C (pc' := 40) (v := (12 : Int32)) dL_isLent_38 (by decide) rfl ?_
  refine lc_ishr C (pc' := 41) dL_isLent_40 rfl ?_
  refine lc_iload C (pc' := 43) 8 dL_isLent_41 rfl rfl ?_
  refine lc_bipush C (pc' := 45) (v := (19 : Int32)) dL_isLent_43 (by decide) rfl ?_
  refine lc_ishr C (pc' := 46) dL_isLent_45 rfl ?_
  refine lc_iconst C (pc' := 47) (v := (2 : Int32)) dL_isLent_46 (by decide) rfl ?_
  obtain ⟨r47, h47, h⟩ := lc_bde h
  refine lc_csi C (pc' := 50) (r := r47) (M' := M) (As := [.int (x5 >>> ((19 : Int32) &&& 31)), .int (2 : Int32)]) (rest := [.int (x5 >>> ((12 : Int32) &&& 31))]) (c_L_low S X.2.1 M   (x5 >>> ((19 : Int32) &&& 31)) (2 : Int32)  r47 h47) kl_RL_83 rfl rfl (Nat.le_of_ble_eq_true rfl) ⟨Nat.le_of_ble_eq_true rfl, Nat.le_of_ble_eq_true rfl⟩ ⟨rfl, rfl⟩ ⟨Nat.le_of_ble_eq_true rfl, Nat.le_of_ble_eq_true rfl⟩ dL_isLent_47 rfl ?_
  refine lc_if_ne C (pc' := 53) (tgt := 58) dL_isLent_50 (by decide) rfl (fun c50 => ?_) (fun c50 => ?_)
  · have h := (lc_if2 h).2 c50
    refine lc_bipush C (pc' := 60) (v := (12 : Int32)) dL_isLent_58 (by decide) rfl ?_
    refine lc_sub (lo' := [(0, .ref (lc_ad S 194)), (1, .ref (lc_ad S 197)), (2, .ref (lc_ad S 198)), (3, .ref (lc_ad S 199)), (4, .ref (lc_ad S 203)), (6, .int r5), (7, .int r17), (8, .int x8_34)]) [3, 4, 5, 6, 7, 2, 1, 0] rfl ?_
    exact w_L_isLent_60 C hl  out   r5 r17 x8_34 (x5 >>> ((12 : Int32) &&& 31)) (12 : Int32) M h
  · have h := (lc_if2 h).1 c50
    refine lc_bipush C (pc' := 55) (v := (51 : Int32)) dL_isLent_53 (by decide) rfl ?_
    refine lc_goto C (tgt := 60) dL_isLent_55 (by decide) ?_
    refine lc_sub (lo' := [(0, .ref (lc_ad S 194)), (1, .ref (lc_ad S 197)), (2, .ref (lc_ad S 198)), (3, .ref (lc_ad S 199)), (4, .ref (lc_ad S 203)), (6, .int r5), (7, .int r17), (8, .int x8_34)]) [3, 4, 5, 6, 7, 2, 1, 0] rfl ?_
    exact w_L_isLent_60 C hl  out   r5 r17 x8_34 (x5 >>> ((12 : Int32) &&& 31)) (51 : Int32) M h
abbrev rm_L_isRepaid : Room := { frames := 8, cells := 3, slots := 18, locals := 141 }
def P_L_isRepaid_159  (x6 : Int32) (x7 : Int32) (x8 : Int32) (x9 : Int32) (x10 : Int32) (t0 : Int32) (M : lc_MM) : Option (Int32 × lc_MM) :=
  if t0 = 0 then lc_bd2 (P_L_repay x6 x10 M) (fun r173 M8 => if r173 = (3 : Int32) then lc_bd2 (P_L_repay x6 (100 : Int32) M8) (fun r187 M9 => if r187 = (2 : Int32) then lc_bd2 (P_L_repay ((M9 22) 0 2) (0 : Int32) M9) (fun r201 M10 => if r201 = (1 : Int32) then some ((1 : Int32), M10) else some ((0 : Int32), M10)) else some ((0 : Int32), M9)) else some ((0 : Int32), M8)) else lc_bd2 (P_L_goes x10 x7 x8 (M 22)) (fun r222 s1 => lc_let (va_up M 22 s1) (fun M2 => lc_if (lc_ok (((5 : Int32) * x6) + (2 : Int32)) 60) (lc_if (lc_ok (((5 : Int32) * x6) + (2 : Int32)) 60) (lc_let (lc_ss (M2 22) 2 ((((5 : Int32) * x6) + (2 : Int32)).toNatClampNeg) (((M2 22) 2 (((5 : Int32) * x6) + (2 : Int32)).toNatClampNeg) - x10)) (fun s3 => lc_let (va_up M2 22 s3) (fun M4 => lc_bd (P_L_clears  (M4 22)) (fun s5 => lc_let (va_up M4 22 s5) (fun M6 => lc_bd2 (P_L_repay x6 x10 M6) (fun r251 M7 => if r251 = 0 then if ((M7 24) 0 0) = (x9 - x10) then some ((1 : Int32), M7) else some ((0 : Int32), M7) else some ((0 : Int32), M7))))))))))
set_option maxRecDepth 100000 in
set_option maxHeartbeats 4000000 in
theorem w_L_isRepaid_159 {S : lc_Se} {X : lc_X} (C : lc_C X cL_isRepaid RL 12 (some .boolean) rm_L_isRepaid) (hl : X.2.1.stackTraces = false)  (out : Int32 × lc_MM)  : ∀ (x6 : Int32) (x7 : Int32) (x8 : Int32) (x9 : Int32) (x10 : Int32) (t0 : Int32) (M : lc_MM), P_L_isRepaid_159  x6 x7 x8 x9 x10 t0 M = some out → lc_J S X 12 0 0 (lc_QI S X 3 18 out.1 out.2) 159 [(0, .ref (lc_ad S 194)), (1, .ref (lc_ad S 197)), (2, .ref (lc_ad S 198)), (3, .ref (lc_ad S 199)), (4, .ref (lc_ad S 203)), (6, .int x6), (7, .int x7), (8, .int x8), (9, .int x9), (10, .int x10)] [.int t0] M := by
  intro x6 x7 x8 x9 x10 t0 M h
  rw [P_L_isRepaid_159] at h
  refine lc_istore C (pc' := 161) (lo' := [(11, .int t0), (0, .ref (lc_ad S 194)), (1, .ref (lc_ad S 197)), (2, .ref (lc_ad S 198)), (3, .ref (lc_ad S 199)), (4, .ref (lc_ad S 203)), (6, .int x6), (7, .int x7), (8, .int x8), (9, .int x9), (10, .int x10)]) dL_isRepaid_159 (Nat.le_of_ble_eq_true rfl) rfl rfl ?_
  refine lc_iload C (pc' := 163) 0 dL_isRepaid_161 rfl rfl ?_
  refine lc_if_ne C (pc' := 166) (tgt := 214) dL_isRepaid_163 (by decide) rfl (fun c163 => ?_) (fun c163 => ?_)
  · have h := (lc_if2 h).2 c163
    refine lc_aload_n C (pc' := 215) 2 dL_isRepaid_214 rfl rfl ?_
    refine lc_aload_n C (pc' := 216) 3 dL_isRepaid_215 rfl rfl ?_
    refine lc_iload C (pc' := 218) 10 dL_isRepaid_216 rfl rfl ?_
    refine lc_iload C (pc' := 220) 7 dL_isRepaid_218 rfl rfl ?_
    refine lc_iload C (pc' := 222) 8 dL_isRepaid_220 rfl rfl ?_
    refine lc_meq (lc_up_self M 22).symm ?_
    obtain ⟨r222, s1, h222, h⟩ := lc_bd2e h
    refine lc_csi C (pc' := 225) (r := r222) (M' := (va_up M 22 s1)) (As := [.ref (lc_ad S 197), .ref (lc_ad S 198), .int x10, .int x7, .int x8]) (rest := []) (c_L_goes S X.2.1 M   x10 x7 x8 (M 22) (r222, s1) h222) kl_RL_47 rfl rfl (Nat.le_of_ble_eq_true rfl) ⟨Nat.le_of_ble_eq_true rfl, Nat.le_of_ble_eq_true rfl⟩ ⟨rfl, rfl⟩ ⟨Nat.le_of_ble_eq_true rfl, Nat.le_of_ble_eq_true rfl⟩ dL_isRepaid_222 rfl ?_
    obtain ⟨M2, eM2, h⟩ := lc_let2 h
    refine lc_meq eM2 ?_
    refine lc_pop C (pc' := 226) dL_isRepaid_225 rfl rfl ?_
    refine lc_aload_n C (pc' := 227) 4 dL_isRepaid_226 rfl rfl ?_
    refine lc_iconst C (pc' := 228) (v := (5 : Int32)) dL_isRepaid_227 (by decide) rfl ?_
    refine lc_iload C (pc' := 230) 6 dL_isRepaid_228 rfl rfl ?_
    refine lc_imul C (pc' := 231) dL_isRepaid_230 rfl ?_
    refine lc_iconst C (pc' := 232) (v := (2 : Int32)) dL_isRepaid_231 (by decide) rfl ?_
    refine lc_iadd C (pc' := 233) dL_isRepaid_232 rfl ?_
    refine lc_dup2 C (pc' := 234) dL_isRepaid_233 rfl rfl rfl ?_
    obtain ⟨hi234, h⟩ := lc_ife h
    refine lc_ld199 C (pc' := 235) (jj := (((5 : Int32) * x6) + (2 : Int32)).toNatClampNeg) rfl hi234 rfl dL_isRepaid_234 rfl ?_
    refine lc_iload C (pc' := 237) 10 dL_isRepaid_235 rfl rfl ?_
    refine lc_isub C (pc' := 238) dL_isRepaid_237 rfl ?_
    obtain ⟨hi238, h⟩ := lc_ife h
    obtain ⟨s3, es3, h⟩ := lc_let2 h
    obtain ⟨M4, eM4, h⟩ := lc_let2 h
    refine lc_sd199 C (pc' := 239) (jj := (((5 : Int32) * x6) + (2 : Int32)).toNatClampNeg) (M' := M4) rfl hi238 rfl es3 eM4 dL_isRepaid_238 rfl ?_
    refine lc_aload_n C (pc' := 240) 2 dL_isRepaid_239 rfl rfl ?_
    refine lc_aload_n C (pc' := 241) 4 dL_isRepaid_240 rfl rfl ?_
    refine lc_meq (lc_up_self M4 22).symm ?_
    obtain ⟨s5, h241, h⟩ := lc_bde h
    refine lc_csv C (pc' := 244) (M' := (va_up M4 22 s5)) (As := [.ref (lc_ad S 197), .ref (lc_ad S 199)]) (rest := []) (c_L_clears S X.2.1 M4    (M4 22) s5 h241) kl_RL_55 rfl rfl (Nat.le_of_ble_eq_true rfl) ⟨Nat.le_of_ble_eq_true rfl, Nat.le_of_ble_eq_true rfl⟩ ⟨rfl, rfl⟩ ⟨Nat.le_of_ble_eq_true rfl, Nat.le_of_ble_eq_true rfl⟩ dL_isRepaid_241 rfl ?_
    obtain ⟨M6, eM6, h⟩ := lc_let2 h
    refine lc_meq eM6 ?_
    refine lc_aload_n C (pc' := 245) 1 dL_isRepaid_244 rfl rfl ?_
    refine lc_iload C (pc' := 247) 6 dL_isRepaid_245 rfl rfl ?_
    refine lc_iload C (pc' := 249) 10 dL_isRepaid_247 rfl rfl ?_
    refine lc_aload C (pc' := 251) 5 dL_isRepaid_249 rfl rfl ?_
    obtain ⟨r251, M7, h251, h⟩ := lc_bd2e h
    refine lc_csW C (pc' := 254) (r := r251) (M' := M7) (As := [.ref (lc_ad S 194), .int x6, .int x10, .ref (lc_ad S 203)]) (rest := []) (c_L_repay S X.2.1 hl x6 x10 M6 (r251, M7) h251) kw_L_repay rfl rfl (Nat.le_of_ble_eq_true rfl) ⟨Nat.le_of_ble_eq_true rfl, Nat.le_of_ble_eq_true rfl⟩ ⟨Nat.le_of_ble_eq_true rfl, Nat.le_of_ble_eq_true rfl⟩ dL_isRepaid_251 rfl ?_
    refine lc_if_ne C (pc' := 257) (tgt := 273) dL_isRepaid_254 (by decide) rfl (fun c254 => ?_) (fun c254 => ?_)
    · have h := (lc_if2 h).2 c254
      refine lc_iconst C (pc' := 274) (v := (0 : Int32)) dL_isRepaid_273 (by decide) rfl ?_
      obtain rfl := Option.some.inj h
      refine lc_wid (k' := 3) (j' := 18) (Nat.le_of_ble_eq_true rfl) (Nat.le_of_ble_eq_true rfl) ?_
      exact lc_zret C rfl (Or.inl rfl) dL_isRepaid_274
    · have h := (lc_if2 h).1 c254
      refine lc_aload C (pc' := 259) 5 dL_isRepaid_257 rfl rfl ?_
      refine lc_iconst C (pc' := 260) (v := (0 : Int32)) dL_isRepaid_259 (by decide) rfl ?_
      refine lc_ld203 C (pc' := 261) (jj := 0) rfl (by decide) (by decide) dL_isRepaid_260 rfl ?_
      refine lc_iload C (pc' := 263) 9 dL_isRepaid_261 rfl rfl ?_
      refine lc_iload C (pc' := 265) 10 dL_isRepaid_263 rfl rfl ?_
      refine lc_isub C (pc' := 266) dL_isRepaid_265 rfl ?_
      refine lc_icmp_ne C (pc' := 269) (tgt := 273) dL_isRepaid_266 (by decide) rfl (fun c266 => ?_) (fun c266 => ?_)
      · have h := (lc_if2 h).2 c266
        refine lc_iconst C (pc' := 274) (v := (0 : Int32)) dL_isRepaid_273 (by decide) rfl ?_
        obtain rfl := Option.some.inj h
        refine lc_wid (k' := 3) (j' := 18) (Nat.le_of_ble_eq_true rfl) (Nat.le_of_ble_eq_true rfl) ?_
        exact lc_zret C rfl (Or.inl rfl) dL_isRepaid_274
      · have h := (lc_if2 h).1 c266
        refine lc_iconst C (pc' := 270) (v := (1 : Int32)) dL_isRepaid_269 (by decide) rfl ?_
        refine lc_goto C (tgt := 274) dL_isRepaid_270 (by decide) ?_
        obtain rfl := Option.some.inj h
        refine lc_wid (k' := 3) (j' := 18) (Nat.le_of_ble_eq_true rfl) (Nat.le_of_ble_eq_true rfl) ?_
        exact lc_zret C rfl (Or.inr rfl) dL_isRepaid_274
  · have h := (lc_if2 h).1 c163
    refine lc_aload_n C (pc' := 167) 1 dL_isRepaid_166 rfl rfl ?_
    refine lc_iload C (pc' := 169) 6 dL_isRepaid_167 rfl rfl ?_
    refine lc_iload C (pc' := 171) 10 dL_isRepaid_169 rfl rfl ?_
    refine lc_aload C (pc' := 173) 5 dL_isRepaid_171 rfl rfl ?_
    obtain ⟨r173, M8, h173, h⟩ := lc_bd2e h
    refine lc_csW C (pc' := 176) (r := r173) (M' := M8) (As := [.ref (lc_ad S 194), .int x6, .int x10, .ref (lc_ad S 203)]) (rest := []) (c_L_repay S X.2.1 hl x6 x10 M (r173, M8) h173) kw_L_repay rfl rfl (Nat.le_of_ble_eq_true rfl) ⟨Nat.le_of_ble_eq_true rfl, Nat.le_of_ble_eq_true rfl⟩ ⟨Nat.le_of_ble_eq_true rfl, Nat.le_of_ble_eq_true rfl⟩ dL_isRepaid_173 rfl ?_
    refine lc_iconst C (pc' := 177) (v := (3 : Int32)) dL_isRepaid_176 (by decide) rfl ?_
    refine lc_icmp_ne C (pc' := 180) (tgt := 212) dL_isRepaid_177 (by decide) rfl (fun c177 => ?_) (fun c177 => ?_)
    · have h := (lc_if2 h).2 c177
      refine lc_iconst C (pc' := 213) (v := (0 : Int32)) dL_isRepaid_212 (by decide) rfl ?_
      obtain rfl := Option.some.inj h
      refine lc_wid (k' := 3) (j' := 18) (Nat.le_of_ble_eq_true rfl) (Nat.le_of_ble_eq_true rfl) ?_
      exact lc_zret C rfl (Or.inl rfl) dL_isRepaid_213
    · have h := (lc_if2 h).1 c177
      refine lc_aload_n C (pc' := 181) 1 dL_isRepaid_180 rfl rfl ?_
      refine lc_iload C (pc' := 183) 6 dL_isRepaid_181 rfl rfl ?_
      refine lc_bipush C (pc' := 185) (v := (100 : Int32)) dL_isRepaid_183 (by decide) rfl ?_
      refine lc_aload C (pc' := 187) 5 dL_isRepaid_185 rfl rfl ?_
      obtain ⟨r187, M9, h187, h⟩ := lc_bd2e h
      refine lc_csW C (pc' := 190) (r := r187) (M' := M9) (As := [.ref (lc_ad S 194), .int x6, .int (100 : Int32), .ref (lc_ad S 203)]) (rest := []) (c_L_repay S X.2.1 hl x6 (100 : Int32) M8 (r187, M9) h187) kw_L_repay rfl rfl (Nat.le_of_ble_eq_true rfl) ⟨Nat.le_of_ble_eq_true rfl, Nat.le_of_ble_eq_true rfl⟩ ⟨Nat.le_of_ble_eq_true rfl, Nat.le_of_ble_eq_true rfl⟩ dL_isRepaid_187 rfl ?_
      refine lc_iconst C (pc' := 191) (v := (2 : Int32)) dL_isRepaid_190 (by decide) rfl ?_
      refine lc_icmp_ne C (pc' := 194) (tgt := 212) dL_isRepaid_191 (by decide) rfl (fun c191 => ?_) (fun c191 => ?_)
      · have h := (lc_if2 h).2 c191
        refine lc_iconst C (pc' := 213) (v := (0 : Int32)) dL_isRepaid_212 (by decide) rfl ?_
        obtain rfl := Option.some.inj h
        refine lc_wid (k' := 3) (j' := 18) (Nat.le_of_ble_eq_true rfl) (Nat.le_of_ble_eq_true rfl) ?_
        exact lc_zret C rfl (Or.inl rfl) dL_isRepaid_213
      · have h := (lc_if2 h).1 c191
        refine lc_aload_n C (pc' := 195) 1 dL_isRepaid_194 rfl rfl ?_
        refine lc_aload_n C (pc' := 196) 2 dL_isRepaid_195 rfl rfl ?_
        refine lc_iconst C (pc' := 197) (v := (2 : Int32)) dL_isRepaid_196 (by decide) rfl ?_
        refine lc_ld197 C (pc' := 198) (jj := 2) rfl (by decide) (by decide) dL_isRepaid_197 rfl ?_
        refine lc_iconst C (pc' := 199) (v := (0 : Int32)) dL_isRepaid_198 (by decide) rfl ?_
        refine lc_aload C (pc' := 201) 5 dL_isRepaid_199 rfl rfl ?_
        obtain ⟨r201, M10, h201, h⟩ := lc_bd2e h
        refine lc_csW C (pc' := 204) (r := r201) (M' := M10) (As := [.ref (lc_ad S 194), .int ((M9 22) 0 2), .int (0 : Int32), .ref (lc_ad S 203)]) (rest := []) (c_L_repay S X.2.1 hl ((M9 22) 0 2) (0 : Int32) M9 (r201, M10) h201) kw_L_repay rfl rfl (Nat.le_of_ble_eq_true rfl) ⟨Nat.le_of_ble_eq_true rfl, Nat.le_of_ble_eq_true rfl⟩ ⟨Nat.le_of_ble_eq_true rfl, Nat.le_of_ble_eq_true rfl⟩ dL_isRepaid_201 rfl ?_
        refine lc_iconst C (pc' := 205) (v := (1 : Int32)) dL_isRepaid_204 (by decide) rfl ?_
        refine lc_icmp_ne C (pc' := 208) (tgt := 212) dL_isRepaid_205 (by decide) rfl (fun c205 => ?_) (fun c205 => ?_)
        · have h := (lc_if2 h).2 c205
          refine lc_iconst C (pc' := 213) (v := (0 : Int32)) dL_isRepaid_212 (by decide) rfl ?_
          obtain rfl := Option.some.inj h
          refine lc_wid (k' := 3) (j' := 18) (Nat.le_of_ble_eq_true rfl) (Nat.le_of_ble_eq_true rfl) ?_
          exact lc_zret C rfl (Or.inl rfl) dL_isRepaid_213
        · have h := (lc_if2 h).1 c205
          refine lc_iconst C (pc' := 209) (v := (1 : Int32)) dL_isRepaid_208 (by decide) rfl ?_
          refine lc_goto C (tgt := 213) dL_isRepaid_209 (by decide) ?_
          obtain rfl := Option.some.inj h
          refine lc_wid (k' := 3) (j' := 18) (Nat.le_of_ble_eq_true rfl) (Nat.le_of_ble_eq_true rfl) ?_
          exact lc_zret C rfl (Or.inr rfl) dL_isRepaid_213
def P_L_isRepaid_158  (x6 : Int32) (x7 : Int32) (x8 : Int32) (x9 : Int32) (x10 : Int32) (M : lc_MM) : Option (Int32 × lc_MM) :=
  P_L_isRepaid_159   x6 x7 x8 x9 x10 (0 : Int32) M
set_option maxRecDepth 100000 in
set_option maxHeartbeats 4000000 in
theorem w_L_isRepaid_158 {S : lc_Se} {X : lc_X} (C : lc_C X cL_isRepaid RL 12 (some .boolean) rm_L_isRepaid) (hl : X.2.1.stackTraces = false)  (out : Int32 × lc_MM)  : ∀ (x6 : Int32) (x7 : Int32) (x8 : Int32) (x9 : Int32) (x10 : Int32) (M : lc_MM), P_L_isRepaid_158  x6 x7 x8 x9 x10 M = some out → lc_J S X 12 0 0 (lc_QI S X 3 18 out.1 out.2) 158 [(0, .ref (lc_ad S 194)), (1, .ref (lc_ad S 197)), (2, .ref (lc_ad S 198)), (3, .ref (lc_ad S 199)), (4, .ref (lc_ad S 203)), (6, .int x6), (7, .int x7), (8, .int x8), (9, .int x9), (10, .int x10)] [] M := by
  intro x6 x7 x8 x9 x10 M h
  rw [P_L_isRepaid_158] at h
  refine lc_iconst C (pc' := 159) (v := (0 : Int32)) dL_isRepaid_158 (by decide) rfl ?_
  exact w_L_isRepaid_159 C hl  out   x6 x7 x8 x9 x10 (0 : Int32) M h
def P_L_isRepaid_102  (x6 : Int32) (x7 : Int32) (x8 : Int32) (x9 : Int32) (t0 : Int32) (M : lc_MM) : Option (Int32 × lc_MM) :=
  if x9 < t0 then P_L_isRepaid_158   x6 x7 x8 x9 t0 M else lc_if (lc_ok (((5 : Int32) * x7) + (1 : Int32)) 30) (if ((M 22) 1 (((5 : Int32) * x7) + (1 : Int32)).toNatClampNeg) < t0 then P_L_isRepaid_158   x6 x7 x8 x9 t0 M else lc_if (lc_ok (((5 : Int32) * x8) + (1 : Int32)) 30) (lc_bd (P_L_lost t0 x7 x8) (fun r141 => lc_if (lc_ok ((5 : Int32) * x8) 30) (if ((M 22) 1 ((5 : Int32) * x8).toNatClampNeg) < ((((M 22) 1 (((5 : Int32) * x8) + (1 : Int32)).toNatClampNeg) + t0) - r141) then P_L_isRepaid_158   x6 x7 x8 x9 t0 M else P_L_isRepaid_159   x6 x7 x8 x9 t0 (1 : Int32) M))))
set_option maxRecDepth 100000 in
set_option maxHeartbeats 4000000 in
theorem w_L_isRepaid_102 {S : lc_Se} {X : lc_X} (C : lc_C X cL_isRepaid RL 12 (some .boolean) rm_L_isRepaid) (hl : X.2.1.stackTraces = false)  (out : Int32 × lc_MM)  : ∀ (x6 : Int32) (x7 : Int32) (x8 : Int32) (x9 : Int32) (t0 : Int32) (M : lc_MM), P_L_isRepaid_102  x6 x7 x8 x9 t0 M = some out → lc_J S X 12 0 0 (lc_QI S X 3 18 out.1 out.2) 102 [(0, .ref (lc_ad S 194)), (1, .ref (lc_ad S 197)), (2, .ref (lc_ad S 198)), (3, .ref (lc_ad S 199)), (4, .ref (lc_ad S 203)), (6, .int x6), (7, .int x7), (8, .int x8), (9, .int x9)] [.int t0] M := by
  intro x6 x7 x8 x9 t0 M h
  rw [P_L_isRepaid_102] at h
  refine lc_istore C (pc' := 104) (lo' := [(10, .int t0), (0, .ref (lc_ad S 194)), (1, .ref (lc_ad S 197)), (2, .ref (lc_ad S 198)), (3, .ref (lc_ad S 199)), (4, .ref (lc_ad S 203)), (6, .int x6), (7, .int x7), (8, .int x8), (9, .int x9)]) dL_isRepaid_102 (Nat.le_of_ble_eq_true rfl) rfl rfl ?_
  refine lc_iload C (pc' := 106) 9 dL_isRepaid_104 rfl rfl ?_
  refine lc_iload C (pc' := 108) 0 dL_isRepaid_106 rfl rfl ?_
  refine lc_icmp_lt C (pc' := 111) (tgt := 158) dL_isRepaid_108 (by decide) rfl (fun c108 => ?_) (fun c108 => ?_)
  · have h := (lc_if2 h).1 c108
    refine lc_sub (lo' := [(0, .ref (lc_ad S 194)), (1, .ref (lc_ad S 197)), (2, .ref (lc_ad S 198)), (3, .ref (lc_ad S 199)), (4, .ref (lc_ad S 203)), (6, .int x6), (7, .int x7), (8, .int x8), (9, .int x9), (10, .int t0)]) [1, 2, 3, 4, 5, 6, 7, 8, 9, 0] rfl ?_
    exact w_L_isRepaid_158 C hl  out   x6 x7 x8 x9 t0 M h
  · have h := (lc_if2 h).2 c108
    refine lc_aload_n C (pc' := 112) 3 dL_isRepaid_111 rfl rfl ?_
    refine lc_iconst C (pc' := 113) (v := (5 : Int32)) dL_isRepaid_112 (by decide) rfl ?_
    refine lc_iload C (pc' := 115) 7 dL_isRepaid_113 rfl rfl ?_
    refine lc_imul C (pc' := 116) dL_isRepaid_115 rfl ?_
    refine lc_iconst C (pc' := 117) (v := (1 : Int32)) dL_isRepaid_116 (by decide) rfl ?_
    refine lc_iadd C (pc' := 118) dL_isRepaid_117 rfl ?_
    obtain ⟨hi118, h⟩ := lc_ife h
    refine lc_ld198 C (pc' := 119) (jj := (((5 : Int32) * x7) + (1 : Int32)).toNatClampNeg) rfl hi118 rfl dL_isRepaid_118 rfl ?_
    refine lc_iload C (pc' := 121) 0 dL_isRepaid_119 rfl rfl ?_
    refine lc_icmp_lt C (pc' := 124) (tgt := 158) dL_isRepaid_121 (by decide) rfl (fun c121 => ?_) (fun c121 => ?_)
    · have h := (lc_if2 h).1 c121
      refine lc_sub (lo' := [(0, .ref (lc_ad S 194)), (1, .ref (lc_ad S 197)), (2, .ref (lc_ad S 198)), (3, .ref (lc_ad S 199)), (4, .ref (lc_ad S 203)), (6, .int x6), (7, .int x7), (8, .int x8), (9, .int x9), (10, .int t0)]) [1, 2, 3, 4, 5, 6, 7, 8, 9, 0] rfl ?_
      exact w_L_isRepaid_158 C hl  out   x6 x7 x8 x9 t0 M h
    · have h := (lc_if2 h).2 c121
      refine lc_aload_n C (pc' := 125) 3 dL_isRepaid_124 rfl rfl ?_
      refine lc_iconst C (pc' := 126) (v := (5 : Int32)) dL_isRepaid_125 (by decide) rfl ?_
      refine lc_iload C (pc' := 128) 8 dL_isRepaid_126 rfl rfl ?_
      refine lc_imul C (pc' := 129) dL_isRepaid_128 rfl ?_
      refine lc_iconst C (pc' := 130) (v := (1 : Int32)) dL_isRepaid_129 (by decide) rfl ?_
      refine lc_iadd C (pc' := 131) dL_isRepaid_130 rfl ?_
      obtain ⟨hi131, h⟩ := lc_ife h
      refine lc_ld198 C (pc' := 132) (jj := (((5 : Int32) * x8) + (1 : Int32)).toNatClampNeg) rfl hi131 rfl dL_isRepaid_131 rfl ?_
      refine lc_iload C (pc' := 134) 0 dL_isRepaid_132 rfl rfl ?_
      refine lc_iadd C (pc' := 135) dL_isRepaid_134 rfl ?_
      refine lc_iload C (pc' := 137) 0 dL_isRepaid_135 rfl rfl ?_
      refine lc_iload C (pc' := 139) 7 dL_isRepaid_137 rfl rfl ?_
      refine lc_iload C (pc' := 141) 8 dL_isRepaid_139 rfl rfl ?_
      obtain ⟨r141, h141, h⟩ := lc_bde h
      refine lc_csi C (pc' := 144) (r := r141) (M' := M) (As := [.int t0, .int x7, .int x8]) (rest := [.int (((M 22) 1 (((5 : Int32) * x8) + (1 : Int32)).toNatClampNeg) + t0)]) (c_L_lost S X.2.1 M   t0 x7 x8  r141 h141) kl_RL_42 rfl rfl (Nat.le_of_ble_eq_true rfl) ⟨Nat.le_of_ble_eq_true rfl, Nat.le_of_ble_eq_true rfl⟩ ⟨rfl, rfl⟩ ⟨Nat.le_of_ble_eq_true rfl, Nat.le_of_ble_eq_true rfl⟩ dL_isRepaid_141 rfl ?_
      refine lc_isub C (pc' := 145) dL_isRepaid_144 rfl ?_
      refine lc_aload_n C (pc' := 146) 3 dL_isRepaid_145 rfl rfl ?_
      refine lc_iconst C (pc' := 147) (v := (5 : Int32)) dL_isRepaid_146 (by decide) rfl ?_
      refine lc_iload C (pc' := 149) 8 dL_isRepaid_147 rfl rfl ?_
      refine lc_imul C (pc' := 150) dL_isRepaid_149 rfl ?_
      obtain ⟨hi150, h⟩ := lc_ife h
      refine lc_ld198 C (pc' := 151) (jj := ((5 : Int32) * x8).toNatClampNeg) rfl hi150 rfl dL_isRepaid_150 rfl ?_
      refine lc_icmp_gt C (pc' := 154) (tgt := 158) dL_isRepaid_151 (by decide) rfl (fun c151 => ?_) (fun c151 => ?_)
      · have h := (lc_if2 h).1 c151
        refine lc_sub (lo' := [(0, .ref (lc_ad S 194)), (1, .ref (lc_ad S 197)), (2, .ref (lc_ad S 198)), (3, .ref (lc_ad S 199)), (4, .ref (lc_ad S 203)), (6, .int x6), (7, .int x7), (8, .int x8), (9, .int x9), (10, .int t0)]) [1, 2, 3, 4, 5, 6, 7, 8, 9, 0] rfl ?_
        exact w_L_isRepaid_158 C hl  out   x6 x7 x8 x9 t0 M h
      · have h := (lc_if2 h).2 c151
        refine lc_iconst C (pc' := 155) (v := (1 : Int32)) dL_isRepaid_154 (by decide) rfl ?_
        refine lc_goto C (tgt := 159) dL_isRepaid_155 (by decide) ?_
        refine lc_sub (lo' := [(0, .ref (lc_ad S 194)), (1, .ref (lc_ad S 197)), (2, .ref (lc_ad S 198)), (3, .ref (lc_ad S 199)), (4, .ref (lc_ad S 203)), (6, .int x6), (7, .int x7), (8, .int x8), (9, .int x9), (10, .int t0)]) [1, 2, 3, 4, 5, 6, 7, 8, 9, 0] rfl ?_
        exact w_L_isRepaid_159 C hl  out   x6 x7 x8 x9 t0 (1 : Int32) M h
def P_L_isRepaid  (x5 : Int32) (M : lc_MM) : Option (Int32 × lc_MM) :=
  if ((M 22) 0 2) = 0 then lc_bd2 (P_L_repay (0 : Int32) (1 : Int32) M) (fun r11 M11 => if r11 = (1 : Int32) then some ((1 : Int32), M11) else some ((0 : Int32), M11)) else lc_bd (P_L_low x5 ((M 22) 0 2)) (fun r29 => lc_if (lc_ok (((5 : Int32) * r29) + (1 : Int32)) 60) (lc_let ((M 22) 2 (((5 : Int32) * r29) + (1 : Int32)).toNatClampNeg) (fun x7_42 => lc_if (lc_ok ((5 : Int32) * r29) 60) (lc_let ((M 22) 2 ((5 : Int32) * r29).toNatClampNeg) (fun x8_50 => lc_if (lc_ok (((5 : Int32) * r29) + (2 : Int32)) 60) (lc_let ((M 22) 2 (((5 : Int32) * r29) + (2 : Int32)).toNatClampNeg) (fun x9_60 => lc_bd (P_L_low (x5 >>> ((4 : Int32) &&& 31)) (3 : Int32)) (fun r67 => if r67 = 0 then if (100 : Int32) ≤ x9_60 then P_L_isRepaid_102   r29 x7_42 x8_50 x9_60 (99 : Int32) M else P_L_isRepaid_102   r29 x7_42 x8_50 x9_60 x9_60 M else lc_bd (P_L_low (x5 >>> ((6 : Int32) &&& 31)) (30 : Int32)) (fun r98 => P_L_isRepaid_102   r29 x7_42 x8_50 x9_60 ((1 : Int32) + r98) M)))))))))
set_option maxRecDepth 100000 in
set_option maxHeartbeats 4000000 in
theorem c_L_isRepaid (S : lc_Se) (l : Launch) (hl : l.stackTraces = false)   (x5 : Int32) (M : lc_MM) (out : Int32 × lc_MM) (h : P_L_isRepaid x5 M = some out) : lc_MI S l yL_isRepaid cL_isRepaid 12 (some .boolean) rm_L_isRepaid [.ref (lc_ad S 194), .ref (lc_ad S 197), .ref (lc_ad S 198), .ref (lc_ad S 199), .ref (lc_ad S 203), .int x5] M out.1 out.2 := by
  refine lc_mkI (own := RL) pn_RL rfl (Nat.le_of_ble_eq_true rfl) (lo := [(0, .ref (lc_ad S 194)), (1, .ref (lc_ad S 197)), (2, .ref (lc_ad S 198)), (3, .ref (lc_ad S 199)), (4, .ref (lc_ad S 203)), (5, .int x5)]) rfl (fun X hX C => ?_)
  rw [P_L_isRepaid] at h
  subst hX
  refine lc_aload_n C (pc' := 1) 1 dL_isRepaid_0 rfl rfl ?_
  refine lc_iconst C (pc' := 2) (v := (2 : Int32)) dL_isRepaid_1 (by decide) rfl ?_
  refine lc_ld197 C (pc' := 3) (jj := 2) rfl (by decide) (by decide) dL_isRepaid_2 rfl ?_
  refine lc_if_ne C (pc' := 6) (tgt := 24) dL_isRepaid_3 (by decide) rfl (fun c3 => ?_) (fun c3 => ?_)
  · have h := (lc_if2 h).2 c3
    refine lc_iload C (pc' := 26) 5 dL_isRepaid_24 rfl rfl ?_
    refine lc_aload_n C (pc' := 27) 1 dL_isRepaid_26 rfl rfl ?_
    refine lc_iconst C (pc' := 28) (v := (2 : Int32)) dL_isRepaid_27 (by decide) rfl ?_
    refine lc_ld197 C (pc' := 29) (jj := 2) rfl (by decide) (by decide) dL_isRepaid_28 rfl ?_
    obtain ⟨r29, h29, h⟩ := lc_bde h
    refine lc_csi C (pc' := 32) (r := r29) (M' := M) (As := [.int x5, .int ((M 22) 0 2)]) (rest := []) (c_L_low S X.2.1 M   x5 ((M 22) 0 2)  r29 h29) kl_RL_83 rfl rfl (Nat.le_of_ble_eq_true rfl) ⟨Nat.le_of_ble_eq_true rfl, Nat.le_of_ble_eq_true rfl⟩ ⟨rfl, rfl⟩ ⟨Nat.le_of_ble_eq_true rfl, Nat.le_of_ble_eq_true rfl⟩ dL_isRepaid_29 rfl ?_
    refine lc_istore C (pc' := 34) (lo' := [(6, .int r29), (0, .ref (lc_ad S 194)), (1, .ref (lc_ad S 197)), (2, .ref (lc_ad S 198)), (3, .ref (lc_ad S 199)), (4, .ref (lc_ad S 203)), (5, .int x5)]) dL_isRepaid_32 (Nat.le_of_ble_eq_true rfl) rfl rfl ?_
    refine lc_aload_n C (pc' := 35) 4 dL_isRepaid_34 rfl rfl ?_
    refine lc_iconst C (pc' := 36) (v := (5 : Int32)) dL_isRepaid_35 (by decide) rfl ?_
    refine lc_iload C (pc' := 38) 0 dL_isRepaid_36 rfl rfl ?_
    refine lc_imul C (pc' := 39) dL_isRepaid_38 rfl ?_
    refine lc_iconst C (pc' := 40) (v := (1 : Int32)) dL_isRepaid_39 (by decide) rfl ?_
    refine lc_iadd C (pc' := 41) dL_isRepaid_40 rfl ?_
    obtain ⟨hi41, h⟩ := lc_ife h
    refine lc_ld199 C (pc' := 42) (jj := (((5 : Int32) * r29) + (1 : Int32)).toNatClampNeg) rfl hi41 rfl dL_isRepaid_41 rfl ?_
    obtain ⟨x7_42, e7_42, h⟩ := lc_let2 h
    rw [e7_42]
    refine lc_istore C (pc' := 44) (lo' := [(7, .int x7_42), (6, .int r29), (0, .ref (lc_ad S 194)), (1, .ref (lc_ad S 197)), (2, .ref (lc_ad S 198)), (3, .ref (lc_ad S 199)), (4, .ref (lc_ad S 203)), (5, .int x5)]) dL_isRepaid_42 (Nat.le_of_ble_eq_true rfl) rfl rfl ?_
    refine lc_aload_n C (pc' := 45) 5 dL_isRepaid_44 rfl rfl ?_
    refine lc_iconst C (pc' := 46) (v := (5 : Int32)) dL_isRepaid_45 (by decide) rfl ?_
    refine lc_iload C (pc' := 48) 1 dL_isRepaid_46 rfl rfl ?_
    refine lc_imul C (pc' := 49) dL_isRepaid_48 rfl ?_
    obtain ⟨hi49, h⟩ := lc_ife h
    refine lc_ld199 C (pc' := 50) (jj := ((5 : Int32) * r29).toNatClampNeg) rfl hi49 rfl dL_isRepaid_49 rfl ?_
    obtain ⟨x8_50, e8_50, h⟩ := lc_let2 h
    rw [e8_50]
    refine lc_istore C (pc' := 52) (lo' := [(8, .int x8_50), (7, .int x7_42), (6, .int r29), (0, .ref (lc_ad S 194)), (1, .ref (lc_ad S 197)), (2, .ref (lc_ad S 198)), (3, .ref (lc_ad S 199)), (4, .ref (lc_ad S 203)), (5, .int x5)]) dL_isRepaid_50 (Nat.le_of_ble_eq_true rfl) rfl rfl ?_
    refine lc_aload_n C (pc' := 53) 6 dL_isRepaid_52 rfl rfl ?_
    refine lc_iconst C (pc' := 54) (v := (5 : Int32)) dL_isRepaid_53 (by decide) rfl ?_
    refine lc_iload C (pc' := 56) 2 dL_isRepaid_54 rfl rfl ?_
    refine lc_imul C (pc' := 57) dL_isRepaid_56 rfl ?_
    refine lc_iconst C (pc' := 58) (v := (2 : Int32)) dL_isRepaid_57 (by decide) rfl ?_
    refine lc_iadd C (pc' := 59) dL_isRepaid_58 rfl ?_
    obtain ⟨hi59, h⟩ := lc_ife h
    refine lc_ld199 C (pc' := 60) (jj := (((5 : Int32) * r29) + (2 : Int32)).toNatClampNeg) rfl hi59 rfl dL_isRepaid_59 rfl ?_
    obtain ⟨x9_60, e9_60, h⟩ := lc_let2 h
    rw [e9_60]
    refine lc_istore C (pc' := 62) (lo' := [(9, .int x9_60), (8, .int x8_50), (7, .int x7_42), (6, .int r29), (0, .ref (lc_ad S 194)), (1, .ref (lc_ad S 197)), (2, .ref (lc_ad S 198)), (3, .ref (lc_ad S 199)), (4, .ref (lc_ad S 203)), (5, .int x5)]) dL_isRepaid_60 (Nat.le_of_ble_eq_true rfl) rfl rfl ?_
    refine lc_iload C (pc' := 64) 9 dL_isRepaid_62 rfl rfl ?_
    refine lc_iconst C (pc' := 65) (v := (4 : Int32)) dL_isRepaid_64 (by decide) rfl ?_
    refine lc_ishr C (pc' := 66) dL_isRepaid_65 rfl ?_
    refine lc_iconst C (pc' := 67) (v := (3 : Int32)) dL_isRepaid_66 (by decide) rfl ?_
    obtain ⟨r67, h67, h⟩ := lc_bde h
    refine lc_csi C (pc' := 70) (r := r67) (M' := M) (As := [.int (x5 >>> ((4 : Int32) &&& 31)), .int (3 : Int32)]) (rest := []) (c_L_low S X.2.1 M   (x5 >>> ((4 : Int32) &&& 31)) (3 : Int32)  r67 h67) kl_RL_83 rfl rfl (Nat.le_of_ble_eq_true rfl) ⟨Nat.le_of_ble_eq_true rfl, Nat.le_of_ble_eq_true rfl⟩ ⟨rfl, rfl⟩ ⟨Nat.le_of_ble_eq_true rfl, Nat.le_of_ble_eq_true rfl⟩ dL_isRepaid_67 rfl ?_
    refine lc_if_ne C (pc' := 73) (tgt := 90) dL_isRepaid_70 (by decide) rfl (fun c70 => ?_) (fun c70 => ?_)
    · have h := (lc_if2 h).2 c70
      refine lc_iconst C (pc' := 91) (v := (1 : Int32)) dL_isRepaid_90 (by decide) rfl ?_
      refine lc_iload C (pc' := 93) 9 dL_isRepaid_91 rfl rfl ?_
      refine lc_bipush C (pc' := 95) (v := (6 : Int32)) dL_isRepaid_93 (by decide) rfl ?_
      refine lc_ishr C (pc' := 96) dL_isRepaid_95 rfl ?_
      refine lc_bipush C (pc' := 98) (v := (30 : Int32)) dL_isRepaid_96 (by decide) rfl ?_
      obtain ⟨r98, h98, h⟩ := lc_bde h
      refine lc_csi C (pc' := 101) (r := r98) (M' := M) (As := [.int (x5 >>> ((6 : Int32) &&& 31)), .int (30 : Int32)]) (rest := [.int (1 : Int32)]) (c_L_low S X.2.1 M   (x5 >>> ((6 : Int32) &&& 31)) (30 : Int32)  r98 h98) kl_RL_83 rfl rfl (Nat.le_of_ble_eq_true rfl) ⟨Nat.le_of_ble_eq_true rfl, Nat.le_of_ble_eq_true rfl⟩ ⟨rfl, rfl⟩ ⟨Nat.le_of_ble_eq_true rfl, Nat.le_of_ble_eq_true rfl⟩ dL_isRepaid_98 rfl ?_
      refine lc_iadd C (pc' := 102) dL_isRepaid_101 rfl ?_
      refine lc_sub (lo' := [(0, .ref (lc_ad S 194)), (1, .ref (lc_ad S 197)), (2, .ref (lc_ad S 198)), (3, .ref (lc_ad S 199)), (4, .ref (lc_ad S 203)), (6, .int r29), (7, .int x7_42), (8, .int x8_50), (9, .int x9_60)]) [4, 5, 6, 7, 8, 3, 2, 1, 0] rfl ?_
      exact w_L_isRepaid_102 C hl  out   r29 x7_42 x8_50 x9_60 ((1 : Int32) + r98) M h
    · have h := (lc_if2 h).1 c70
      refine lc_iload C (pc' := 75) 0 dL_isRepaid_73 rfl rfl ?_
      refine lc_bipush C (pc' := 77) (v := (100 : Int32)) dL_isRepaid_75 (by decide) rfl ?_
      refine lc_icmp_ge C (pc' := 80) (tgt := 85) dL_isRepaid_77 (by decide) rfl (fun c77 => ?_) (fun c77 => ?_)
      · have h := (lc_if2 h).1 c77
        refine lc_bipush C (pc' := 87) (v := (99 : Int32)) dL_isRepaid_85 (by decide) rfl ?_
        refine lc_goto C (tgt := 102) dL_isRepaid_87 (by decide) ?_
        refine lc_sub (lo' := [(0, .ref (lc_ad S 194)), (1, .ref (lc_ad S 197)), (2, .ref (lc_ad S 198)), (3, .ref (lc_ad S 199)), (4, .ref (lc_ad S 203)), (6, .int r29), (7, .int x7_42), (8, .int x8_50), (9, .int x9_60)]) [4, 5, 6, 7, 8, 3, 2, 1, 0] rfl ?_
        exact w_L_isRepaid_102 C hl  out   r29 x7_42 x8_50 x9_60 (99 : Int32) M h
      · have h := (lc_if2 h).2 c77
        refine lc_iload C (pc' := 82) 0 dL_isRepaid_80 rfl rfl ?_
        refine lc_goto C (tgt := 102) dL_isRepaid_82 (by decide) ?_
        refine lc_sub (lo' := [(0, .ref (lc_ad S 194)), (1, .ref (lc_ad S 197)), (2, .ref (lc_ad S 198)), (3, .ref (lc_ad S 199)), (4, .ref (lc_ad S 203)), (6, .int r29), (7, .int x7_42), (8, .int x8_50), (9, .int x9_60)]) [4, 5, 6, 7, 8, 3, 2, 1, 0] rfl ?_
        exact w_L_isRepaid_102 C hl  out   r29 x7_42 x8_50 x9_60 x9_60 M h
  · have h := (lc_if2 h).1 c3
    refine lc_aload_n C (pc' := 7) 0 dL_isRepaid_6 rfl rfl ?_
    refine lc_iconst C (pc' := 8) (v := (0 : Int32)) dL_isRepaid_7 (by decide) rfl ?_
    refine lc_iconst C (pc' := 9) (v := (1 : Int32)) dL_isRepaid_8 (by decide) rfl ?_
    refine lc_aload C (pc' := 11) 4 dL_isRepaid_9 rfl rfl ?_
    obtain ⟨r11, M11, h11, h⟩ := lc_bd2e h
    refine lc_csW C (pc' := 14) (r := r11) (M' := M11) (As := [.ref (lc_ad S 194), .int (0 : Int32), .int (1 : Int32), .ref (lc_ad S 203)]) (rest := []) (c_L_repay S X.2.1 hl (0 : Int32) (1 : Int32) M (r11, M11) h11) kw_L_repay rfl rfl (Nat.le_of_ble_eq_true rfl) ⟨Nat.le_of_ble_eq_true rfl, Nat.le_of_ble_eq_true rfl⟩ ⟨Nat.le_of_ble_eq_true rfl, Nat.le_of_ble_eq_true rfl⟩ dL_isRepaid_11 rfl ?_
    refine lc_iconst C (pc' := 15) (v := (1 : Int32)) dL_isRepaid_14 (by decide) rfl ?_
    refine lc_icmp_ne C (pc' := 18) (tgt := 22) dL_isRepaid_15 (by decide) rfl (fun c15 => ?_) (fun c15 => ?_)
    · have h := (lc_if2 h).2 c15
      refine lc_iconst C (pc' := 23) (v := (0 : Int32)) dL_isRepaid_22 (by decide) rfl ?_
      obtain rfl := Option.some.inj h
      refine lc_wid (k' := 3) (j' := 18) (Nat.le_of_ble_eq_true rfl) (Nat.le_of_ble_eq_true rfl) ?_
      exact lc_zret C rfl (Or.inl rfl) dL_isRepaid_23
    · have h := (lc_if2 h).1 c15
      refine lc_iconst C (pc' := 19) (v := (1 : Int32)) dL_isRepaid_18 (by decide) rfl ?_
      refine lc_goto C (tgt := 23) dL_isRepaid_19 (by decide) ?_
      obtain rfl := Option.some.inj h
      refine lc_wid (k' := 3) (j' := 18) (Nat.le_of_ble_eq_true rfl) (Nat.le_of_ble_eq_true rfl) ?_
      exact lc_zret C rfl (Or.inr rfl) dL_isRepaid_23
abbrev rm_L_isCharged : Room := { frames := 8, cells := 3, slots := 18, locals := 139 }
def P_L_isCharged_120 (K34 : Int32 → Int32 → Int32 → lc_MM → Option (Int32 × lc_MM)) (x5 : Int32) (x6 : Int32) (x7 : Int32) (M : lc_MM) : Option (Int32 × lc_MM) :=
  lc_let (x7 + (1 : Int32)) (fun x7_120 => K34 x5 x6 x7_120 M)
set_option maxRecDepth 100000 in
set_option maxHeartbeats 4000000 in
theorem w_L_isCharged_120 {S : lc_Se} {X : lc_X} (C : lc_C X cL_isCharged RL 9 (some .boolean) rm_L_isCharged) (hl : X.2.1.stackTraces = false)  (out : Int32 × lc_MM) (K34 : Int32 → Int32 → Int32 → lc_MM → Option (Int32 × lc_MM)) (hK34 : ∀ (x5 : Int32) (x6 : Int32) (x7 : Int32) (M : lc_MM), K34 x5 x6 x7 M = some out → lc_J S X 9 0 0 (lc_QI S X 3 18 out.1 out.2) 34 [(0, .ref (lc_ad S 194)), (1, .ref (lc_ad S 197)), (2, .ref (lc_ad S 198)), (3, .ref (lc_ad S 203)), (5, .int x5), (6, .int x6), (7, .int x7)] [] M) : ∀ (x5 : Int32) (x6 : Int32) (x7 : Int32) (M : lc_MM), P_L_isCharged_120 K34 x5 x6 x7 M = some out → lc_J S X 9 0 0 (lc_QI S X 3 18 out.1 out.2) 120 [(0, .ref (lc_ad S 194)), (1, .ref (lc_ad S 197)), (2, .ref (lc_ad S 198)), (3, .ref (lc_ad S 203)), (5, .int x5), (6, .int x6), (7, .int x7)] [] M := by
  intro x5 x6 x7 M h
  rw [P_L_isCharged_120] at h
  obtain ⟨x7_120, e7_120, h⟩ := lc_let2 h
  refine lc_iinc C (pc' := 123) (lo' := [(7, .int x7_120), (0, .ref (lc_ad S 194)), (1, .ref (lc_ad S 197)), (2, .ref (lc_ad S 198)), (3, .ref (lc_ad S 203)), (5, .int x5), (6, .int x6)]) (q := 6) dL_isCharged_120 rfl (by rw [← e7_120]; rfl) (Nat.le_of_ble_eq_true rfl) rfl rfl ?_
  refine lc_goto C (tgt := 34) dL_isCharged_123 (by decide) ?_
  refine lc_sub (lo' := [(0, .ref (lc_ad S 194)), (1, .ref (lc_ad S 197)), (2, .ref (lc_ad S 198)), (3, .ref (lc_ad S 203)), (5, .int x5), (6, .int x6), (7, .int x7_120)]) [1, 2, 3, 4, 5, 6, 0] rfl ?_
  exact hK34 x5 x6 x7_120 M h
def P_L_isCharged_103 (K34 : Int32 → Int32 → Int32 → lc_MM → Option (Int32 × lc_MM)) (x5 : Int32) (x6 : Int32) (x7 : Int32) (x8 : Int32) (t1 : Int32) (t2 : Int32) (M : lc_MM) : Option (Int32 × lc_MM) :=
  lc_if (lc_ok t1 30) (lc_let (lc_ss (M 22) 1 (t1.toNatClampNeg) t2) (fun s8 => lc_let (va_up M 22 s8) (fun M9 => lc_if (lc_ok (((5 : Int32) * x7) + (1 : Int32)) 30) (lc_let (x6 + (x8 - ((M9 22) 1 (((5 : Int32) * x7) + (1 : Int32)).toNatClampNeg))) (fun x6_118 => P_L_isCharged_120 K34  x5 x6_118 x7 M9)))))
set_option maxRecDepth 100000 in
set_option maxHeartbeats 4000000 in
theorem w_L_isCharged_103 {S : lc_Se} {X : lc_X} (C : lc_C X cL_isCharged RL 9 (some .boolean) rm_L_isCharged) (hl : X.2.1.stackTraces = false)  (out : Int32 × lc_MM) (K34 : Int32 → Int32 → Int32 → lc_MM → Option (Int32 × lc_MM)) (hK34 : ∀ (x5 : Int32) (x6 : Int32) (x7 : Int32) (M : lc_MM), K34 x5 x6 x7 M = some out → lc_J S X 9 0 0 (lc_QI S X 3 18 out.1 out.2) 34 [(0, .ref (lc_ad S 194)), (1, .ref (lc_ad S 197)), (2, .ref (lc_ad S 198)), (3, .ref (lc_ad S 203)), (5, .int x5), (6, .int x6), (7, .int x7)] [] M) : ∀ (x5 : Int32) (x6 : Int32) (x7 : Int32) (x8 : Int32) (t1 : Int32) (t2 : Int32) (M : lc_MM), P_L_isCharged_103 K34 x5 x6 x7 x8 t1 t2 M = some out → lc_J S X 9 0 0 (lc_QI S X 3 18 out.1 out.2) 103 [(0, .ref (lc_ad S 194)), (1, .ref (lc_ad S 197)), (2, .ref (lc_ad S 198)), (3, .ref (lc_ad S 203)), (5, .int x5), (6, .int x6), (7, .int x7), (8, .int x8)] [.int t2, .int t1, .ref (lc_ad S 198)] M := by
  intro x5 x6 x7 x8 t1 t2 M h
  rw [P_L_isCharged_103] at h
  obtain ⟨hi103, h⟩ := lc_ife h
  obtain ⟨s8, es8, h⟩ := lc_let2 h
  obtain ⟨M9, eM9, h⟩ := lc_let2 h
  refine lc_sd198 C (pc' := 104) (jj := t1.toNatClampNeg) (M' := M9) rfl hi103 rfl es8 eM9 dL_isCharged_103 rfl ?_
  refine lc_iload C (pc' := 106) 5 dL_isCharged_104 rfl rfl ?_
  refine lc_iload C (pc' := 108) 7 dL_isCharged_106 rfl rfl ?_
  refine lc_aload_n C (pc' := 109) 2 dL_isCharged_108 rfl rfl ?_
  refine lc_iconst C (pc' := 110) (v := (5 : Int32)) dL_isCharged_109 (by decide) rfl ?_
  refine lc_iload C (pc' := 112) 6 dL_isCharged_110 rfl rfl ?_
  refine lc_imul C (pc' := 113) dL_isCharged_112 rfl ?_
  refine lc_iconst C (pc' := 114) (v := (1 : Int32)) dL_isCharged_113 (by decide) rfl ?_
  refine lc_iadd C (pc' := 115) dL_isCharged_114 rfl ?_
  obtain ⟨hi115, h⟩ := lc_ife h
  refine lc_ld198 C (pc' := 116) (jj := (((5 : Int32) * x7) + (1 : Int32)).toNatClampNeg) rfl hi115 rfl dL_isCharged_115 rfl ?_
  refine lc_isub C (pc' := 117) dL_isCharged_116 rfl ?_
  refine lc_iadd C (pc' := 118) dL_isCharged_117 rfl ?_
  obtain ⟨x6_118, e6_118, h⟩ := lc_let2 h
  rw [e6_118]
  refine lc_istore C (pc' := 120) (lo' := [(6, .int x6_118), (0, .ref (lc_ad S 194)), (1, .ref (lc_ad S 197)), (2, .ref (lc_ad S 198)), (3, .ref (lc_ad S 203)), (5, .int x5), (7, .int x7), (8, .int x8)]) dL_isCharged_118 (Nat.le_of_ble_eq_true rfl) rfl rfl ?_
  refine lc_sub (lo' := [(0, .ref (lc_ad S 194)), (1, .ref (lc_ad S 197)), (2, .ref (lc_ad S 198)), (3, .ref (lc_ad S 203)), (5, .int x5), (6, .int x6_118), (7, .int x7)]) [1, 2, 3, 4, 5, 0, 6] rfl ?_
  exact w_L_isCharged_120 C hl  out K34 hK34  x5 x6_118 x7 M9 h
def P_L_isCharged_34  : Nat → Int32 → Int32 → Int32 → lc_MM → Option (Int32 × lc_MM)
  | 0, _, _, _, _ => none
  | n + 1, x5, x6, x7, M =>
    if ((M 22) 0 1) ≤ x7 then lc_let (lc_ss (M 22) 0 5 (((M 22) 0 5) + x6)) (fun s1 => lc_let (va_up M 22 s1) (fun M2 => lc_bd2 (P_L_charge x5 M2) (fun r138 M3 => if r138 = 0 then if ((M3 24) 0 0) = x6 then lc_bd2 (P_L_charge (0 : Int32) M3) (fun r155 M4 => if r155 = (1 : Int32) then lc_bd2 (P_L_charge (100 : Int32) M4) (fun r166 M5 => if r166 = (1 : Int32) then some ((1 : Int32), M5) else some ((0 : Int32), M5)) else some ((0 : Int32), M4)) else some ((0 : Int32), M3) else some ((0 : Int32), M3)))) else lc_if (lc_ok (((5 : Int32) * x7) + (4 : Int32)) 30) (if ((M 22) 1 (((5 : Int32) * x7) + (4 : Int32)).toNatClampNeg) = 0 then lc_if (lc_ok (((5 : Int32) * x7) + (1 : Int32)) 30) (lc_let (((M 22) 1 (((5 : Int32) * x7) + (1 : Int32)).toNatClampNeg) + x5) (fun x8_64 => lc_let (lc_ss (M 22) 0 3 (((M 22) 0 3) + x5)) (fun s6 => lc_let (va_up M 22 s6) (fun M7 => lc_if (lc_ok ((5 : Int32) * x7) 30) (if x8_64 ≤ ((M7 22) 1 ((5 : Int32) * x7).toNatClampNeg) then P_L_isCharged_103 (fun x5 x6 x7 M => P_L_isCharged_34  n x5 x6 x7 M)  x5 x6 x7 x8_64 (((5 : Int32) * x7) + (1 : Int32)) x8_64 M7 else lc_if (lc_ok ((5 : Int32) * x7) 30) (P_L_isCharged_103 (fun x5 x6 x7 M => P_L_isCharged_34  n x5 x6 x7 M)  x5 x6 x7 x8_64 (((5 : Int32) * x7) + (1 : Int32)) ((M7 22) 1 ((5 : Int32) * x7).toNatClampNeg) M7)))))) else P_L_isCharged_120 (fun x5 x6 x7 M => P_L_isCharged_34  n x5 x6 x7 M)  x5 x6 x7 M)
set_option maxRecDepth 100000 in
set_option maxHeartbeats 4000000 in
theorem w_L_isCharged_34 {S : lc_Se} {X : lc_X} (C : lc_C X cL_isCharged RL 9 (some .boolean) rm_L_isCharged) (hl : X.2.1.stackTraces = false)  (out : Int32 × lc_MM)  : ∀ (n : Nat) (x5 : Int32) (x6 : Int32) (x7 : Int32) (M : lc_MM), P_L_isCharged_34  n x5 x6 x7 M = some out → lc_J S X 9 0 0 (lc_QI S X 3 18 out.1 out.2) 34 [(0, .ref (lc_ad S 194)), (1, .ref (lc_ad S 197)), (2, .ref (lc_ad S 198)), (3, .ref (lc_ad S 203)), (5, .int x5), (6, .int x6), (7, .int x7)] [] M := by
  intro n
  induction n with
  | zero =>
    intro x5 x6 x7 M h
    rw [P_L_isCharged_34] at h
    cases h
  | succ n ih =>
    intro x5 x6 x7 M h
    rw [P_L_isCharged_34] at h
    refine lc_iload C (pc' := 36) 6 dL_isCharged_34 rfl rfl ?_
    refine lc_aload_n C (pc' := 37) 1 dL_isCharged_36 rfl rfl ?_
    refine lc_iconst C (pc' := 38) (v := (1 : Int32)) dL_isCharged_37 (by decide) rfl ?_
    refine lc_ld197 C (pc' := 39) (jj := 1) rfl (by decide) (by decide) dL_isCharged_38 rfl ?_
    refine lc_icmp_ge C (pc' := 42) (tgt := 126) dL_isCharged_39 (by decide) rfl (fun c39 => ?_) (fun c39 => ?_)
    · have h := (lc_if2 h).1 c39
      refine lc_aload_n C (pc' := 127) 1 dL_isCharged_126 rfl rfl ?_
      refine lc_iconst C (pc' := 128) (v := (5 : Int32)) dL_isCharged_127 (by decide) rfl ?_
      refine lc_dup2 C (pc' := 129) dL_isCharged_128 rfl rfl rfl ?_
      refine lc_ld197 C (pc' := 130) (jj := 5) rfl (by decide) (by decide) dL_isCharged_129 rfl ?_
      refine lc_iload C (pc' := 132) 5 dL_isCharged_130 rfl rfl ?_
      refine lc_iadd C (pc' := 133) dL_isCharged_132 rfl ?_
      obtain ⟨s1, es1, h⟩ := lc_let2 h
      obtain ⟨M2, eM2, h⟩ := lc_let2 h
      refine lc_sd197 C (pc' := 134) (jj := 5) (M' := M2) rfl (by decide) (by decide) es1 eM2 dL_isCharged_133 rfl ?_
      refine lc_aload_n C (pc' := 135) 0 dL_isCharged_134 rfl rfl ?_
      refine lc_iload C (pc' := 137) 4 dL_isCharged_135 rfl rfl ?_
      refine lc_aload_n C (pc' := 138) 3 dL_isCharged_137 rfl rfl ?_
      obtain ⟨r138, M3, h138, h⟩ := lc_bd2e h
      refine lc_csW C (pc' := 141) (r := r138) (M' := M3) (As := [.ref (lc_ad S 194), .int x5, .ref (lc_ad S 203)]) (rest := []) (c_L_charge S X.2.1 hl x5 M2 (r138, M3) h138) kw_L_charge rfl rfl (Nat.le_of_ble_eq_true rfl) ⟨Nat.le_of_ble_eq_true rfl, Nat.le_of_ble_eq_true rfl⟩ ⟨Nat.le_of_ble_eq_true rfl, Nat.le_of_ble_eq_true rfl⟩ dL_isCharged_138 rfl ?_
      refine lc_if_ne C (pc' := 144) (tgt := 177) dL_isCharged_141 (by decide) rfl (fun c141 => ?_) (fun c141 => ?_)
      · have h := (lc_if2 h).2 c141
        refine lc_iconst C (pc' := 178) (v := (0 : Int32)) dL_isCharged_177 (by decide) rfl ?_
        obtain rfl := Option.some.inj h
        refine lc_wid (k' := 3) (j' := 18) (Nat.le_of_ble_eq_true rfl) (Nat.le_of_ble_eq_true rfl) ?_
        exact lc_zret C rfl (Or.inl rfl) dL_isCharged_178
      · have h := (lc_if2 h).1 c141
        refine lc_aload_n C (pc' := 145) 3 dL_isCharged_144 rfl rfl ?_
        refine lc_iconst C (pc' := 146) (v := (0 : Int32)) dL_isCharged_145 (by decide) rfl ?_
        refine lc_ld203 C (pc' := 147) (jj := 0) rfl (by decide) (by decide) dL_isCharged_146 rfl ?_
        refine lc_iload C (pc' := 149) 5 dL_isCharged_147 rfl rfl ?_
        refine lc_icmp_ne C (pc' := 152) (tgt := 177) dL_isCharged_149 (by decide) rfl (fun c149 => ?_) (fun c149 => ?_)
        · have h := (lc_if2 h).2 c149
          refine lc_iconst C (pc' := 178) (v := (0 : Int32)) dL_isCharged_177 (by decide) rfl ?_
          obtain rfl := Option.some.inj h
          refine lc_wid (k' := 3) (j' := 18) (Nat.le_of_ble_eq_true rfl) (Nat.le_of_ble_eq_true rfl) ?_
          exact lc_zret C rfl (Or.inl rfl) dL_isCharged_178
        · have h := (lc_if2 h).1 c149
          refine lc_aload_n C (pc' := 153) 0 dL_isCharged_152 rfl rfl ?_
          refine lc_iconst C (pc' := 154) (v := (0 : Int32)) dL_isCharged_153 (by decide) rfl ?_
          refine lc_aload_n C (pc' := 155) 3 dL_isCharged_154 rfl rfl ?_
          obtain ⟨r155, M4, h155, h⟩ := lc_bd2e h
          refine lc_csW C (pc' := 158) (r := r155) (M' := M4) (As := [.ref (lc_ad S 194), .int (0 : Int32), .ref (lc_ad S 203)]) (rest := []) (c_L_charge S X.2.1 hl (0 : Int32) M3 (r155, M4) h155) kw_L_charge rfl rfl (Nat.le_of_ble_eq_true rfl) ⟨Nat.le_of_ble_eq_true rfl, Nat.le_of_ble_eq_true rfl⟩ ⟨Nat.le_of_ble_eq_true rfl, Nat.le_of_ble_eq_true rfl⟩ dL_isCharged_155 rfl ?_
          refine lc_iconst C (pc' := 159) (v := (1 : Int32)) dL_isCharged_158 (by decide) rfl ?_
          refine lc_icmp_ne C (pc' := 162) (tgt := 177) dL_isCharged_159 (by decide) rfl (fun c159 => ?_) (fun c159 => ?_)
          · have h := (lc_if2 h).2 c159
            refine lc_iconst C (pc' := 178) (v := (0 : Int32)) dL_isCharged_177 (by decide) rfl ?_
            obtain rfl := Option.some.inj h
            refine lc_wid (k' := 3) (j' := 18) (Nat.le_of_ble_eq_true rfl) (Nat.le_of_ble_eq_true rfl) ?_
            exact lc_zret C rfl (Or.inl rfl) dL_isCharged_178
          · have h := (lc_if2 h).1 c159
            refine lc_aload_n C (pc' := 163) 0 dL_isCharged_162 rfl rfl ?_
            refine lc_bipush C (pc' := 165) (v := (100 : Int32)) dL_isCharged_163 (by decide) rfl ?_
            refine lc_aload_n C (pc' := 166) 3 dL_isCharged_165 rfl rfl ?_
            obtain ⟨r166, M5, h166, h⟩ := lc_bd2e h
            refine lc_csW C (pc' := 169) (r := r166) (M' := M5) (As := [.ref (lc_ad S 194), .int (100 : Int32), .ref (lc_ad S 203)]) (rest := []) (c_L_charge S X.2.1 hl (100 : Int32) M4 (r166, M5) h166) kw_L_charge rfl rfl (Nat.le_of_ble_eq_true rfl) ⟨Nat.le_of_ble_eq_true rfl, Nat.le_of_ble_eq_true rfl⟩ ⟨Nat.le_of_ble_eq_true rfl, Nat.le_of_ble_eq_true rfl⟩ dL_isCharged_166 rfl ?_
            refine lc_iconst C (pc' := 170) (v := (1 : Int32)) dL_isCharged_169 (by decide) rfl ?_
            refine lc_icmp_ne C (pc' := 173) (tgt := 177) dL_isCharged_170 (by decide) rfl (fun c170 => ?_) (fun c170 => ?_)
            · have h := (lc_if2 h).2 c170
              refine lc_iconst C (pc' := 178) (v := (0 : Int32)) dL_isCharged_177 (by decide) rfl ?_
              obtain rfl := Option.some.inj h
              refine lc_wid (k' := 3) (j' := 18) (Nat.le_of_ble_eq_true rfl) (Nat.le_of_ble_eq_true rfl) ?_
              exact lc_zret C rfl (Or.inl rfl) dL_isCharged_178
            · have h := (lc_if2 h).1 c170
              refine lc_iconst C (pc' := 174) (v := (1 : Int32)) dL_isCharged_173 (by decide) rfl ?_
              refine lc_goto C (tgt := 178) dL_isCharged_174 (by decide) ?_
              obtain rfl := Option.some.inj h
              refine lc_wid (k' := 3) (j' := 18) (Nat.le_of_ble_eq_true rfl) (Nat.le_of_ble_eq_true rfl) ?_
              exact lc_zret C rfl (Or.inr rfl) dL_isCharged_178
    · have h := (lc_if2 h).2 c39
      refine lc_aload_n C (pc' := 43) 2 dL_isCharged_42 rfl rfl ?_
      refine lc_iconst C (pc' := 44) (v := (5 : Int32)) dL_isCharged_43 (by decide) rfl ?_
      refine lc_iload C (pc' := 46) 6 dL_isCharged_44 rfl rfl ?_
      refine lc_imul C (pc' := 47) dL_isCharged_46 rfl ?_
      refine lc_iconst C (pc' := 48) (v := (4 : Int32)) dL_isCharged_47 (by decide) rfl ?_
      refine lc_iadd C (pc' := 49) dL_isCharged_48 rfl ?_
      obtain ⟨hi49, h⟩ := lc_ife h
      refine lc_ld198 C (pc' := 50) (jj := (((5 : Int32) * x7) + (4 : Int32)).toNatClampNeg) rfl hi49 rfl dL_isCharged_49 rfl ?_
      refine lc_if_ne C (pc' := 53) (tgt := 120) dL_isCharged_50 (by decide) rfl (fun c50 => ?_) (fun c50 => ?_)
      · have h := (lc_if2 h).2 c50
        exact w_L_isCharged_120 C hl  out (fun x5 x6 x7 M => P_L_isCharged_34  n x5 x6 x7 M) ih  x5 x6 x7 M h
      · have h := (lc_if2 h).1 c50
        refine lc_aload_n C (pc' := 54) 2 dL_isCharged_53 rfl rfl ?_
        refine lc_iconst C (pc' := 55) (v := (5 : Int32)) dL_isCharged_54 (by decide) rfl ?_
        refine lc_iload C (pc' := 57) 6 dL_isCharged_55 rfl rfl ?_
        refine lc_imul C (pc' := 58) dL_isCharged_57 rfl ?_
        refine lc_iconst C (pc' := 59) (v := (1 : Int32)) dL_isCharged_58 (by decide) rfl ?_
        refine lc_iadd C (pc' := 60) dL_isCharged_59 rfl ?_
        obtain ⟨hi60, h⟩ := lc_ife h
        refine lc_ld198 C (pc' := 61) (jj := (((5 : Int32) * x7) + (1 : Int32)).toNatClampNeg) rfl hi60 rfl dL_isCharged_60 rfl ?_
        refine lc_iload C (pc' := 63) 4 dL_isCharged_61 rfl rfl ?_
        refine lc_iadd C (pc' := 64) dL_isCharged_63 rfl ?_
        obtain ⟨x8_64, e8_64, h⟩ := lc_let2 h
        rw [e8_64]
        refine lc_istore C (pc' := 66) (lo' := [(8, .int x8_64), (0, .ref (lc_ad S 194)), (1, .ref (lc_ad S 197)), (2, .ref (lc_ad S 198)), (3, .ref (lc_ad S 203)), (5, .int x5), (6, .int x6), (7, .int x7)]) dL_isCharged_64 (Nat.le_of_ble_eq_true rfl) rfl rfl ?_
        refine lc_aload_n C (pc' := 67) 2 dL_isCharged_66 rfl rfl ?_
        refine lc_iconst C (pc' := 68) (v := (3 : Int32)) dL_isCharged_67 (by decide) rfl ?_
        refine lc_dup2 C (pc' := 69) dL_isCharged_68 rfl rfl rfl ?_
        refine lc_ld197 C (pc' := 70) (jj := 3) rfl (by decide) (by decide) dL_isCharged_69 rfl ?_
        refine lc_iload C (pc' := 72) 5 dL_isCharged_70 rfl rfl ?_
        refine lc_iadd C (pc' := 73) dL_isCharged_72 rfl ?_
        obtain ⟨s6, es6, h⟩ := lc_let2 h
        obtain ⟨M7, eM7, h⟩ := lc_let2 h
        refine lc_sd197 C (pc' := 74) (jj := 3) (M' := M7) rfl (by decide) (by decide) es6 eM7 dL_isCharged_73 rfl ?_
        refine lc_aload_n C (pc' := 75) 3 dL_isCharged_74 rfl rfl ?_
        refine lc_iconst C (pc' := 76) (v := (5 : Int32)) dL_isCharged_75 (by decide) rfl ?_
        refine lc_iload C (pc' := 78) 7 dL_isCharged_76 rfl rfl ?_
        refine lc_imul C (pc' := 79) dL_isCharged_78 rfl ?_
        refine lc_iconst C (pc' := 80) (v := (1 : Int32)) dL_isCharged_79 (by decide) rfl ?_
        refine lc_iadd C (pc' := 81) dL_isCharged_80 rfl ?_
        refine lc_iload C (pc' := 83) 0 dL_isCharged_81 rfl rfl ?_
        refine lc_aload_n C (pc' := 84) 3 dL_isCharged_83 rfl rfl ?_
        refine lc_iconst C (pc' := 85) (v := (5 : Int32)) dL_isCharged_84 (by decide) rfl ?_
        refine lc_iload C (pc' := 87) 7 dL_isCharged_85 rfl rfl ?_
        refine lc_imul C (pc' := 88) dL_isCharged_87 rfl ?_
        obtain ⟨hi88, h⟩ := lc_ife h
        refine lc_ld198 C (pc' := 89) (jj := ((5 : Int32) * x7).toNatClampNeg) rfl hi88 rfl dL_isCharged_88 rfl ?_
        refine lc_icmp_le C (pc' := 92) (tgt := 101) dL_isCharged_89 (by decide) rfl (fun c89 => ?_) (fun c89 => ?_)
        · have h := (lc_if2 h).1 c89
          refine lc_iload C (pc' := 103) 0 dL_isCharged_101 rfl rfl ?_
          refine lc_sub (lo' := [(0, .ref (lc_ad S 194)), (1, .ref (lc_ad S 197)), (2, .ref (lc_ad S 198)), (3, .ref (lc_ad S 203)), (5, .int x5), (6, .int x6), (7, .int x7), (8, .int x8_64)]) [1, 2, 3, 4, 5, 6, 7, 0] rfl ?_
          exact w_L_isCharged_103 C hl  out (fun x5 x6 x7 M => P_L_isCharged_34  n x5 x6 x7 M) ih  x5 x6 x7 x8_64 (((5 : Int32) * x7) + (1 : Int32)) x8_64 M7 h
        · have h := (lc_if2 h).2 c89
          refine lc_aload_n C (pc' := 93) 3 dL_isCharged_92 rfl rfl ?_
          refine lc_iconst C (pc' := 94) (v := (5 : Int32)) dL_isCharged_93 (by decide) rfl ?_
          refine lc_iload C (pc' := 96) 7 dL_isCharged_94 rfl rfl ?_
          refine lc_imul C (pc' := 97) dL_isCharged_96 rfl ?_
          obtain ⟨hi97, h⟩ := lc_ife h
          refine lc_ld198 C (pc' := 98) (jj := ((5 : Int32) * x7).toNatClampNeg) rfl hi97 rfl dL_isCharged_97 rfl ?_
          refine lc_goto C (tgt := 103) dL_isCharged_98 (by decide) ?_
          refine lc_sub (lo' := [(0, .ref (lc_ad S 194)), (1, .ref (lc_ad S 197)), (2, .ref (lc_ad S 198)), (3, .ref (lc_ad S 203)), (5, .int x5), (6, .int x6), (7, .int x7), (8, .int x8_64)]) [1, 2, 3, 4, 5, 6, 7, 0] rfl ?_
          exact w_L_isCharged_103 C hl  out (fun x5 x6 x7 M => P_L_isCharged_34  n x5 x6 x7 M) ih  x5 x6 x7 x8_64 (((5 : Int32) * x7) + (1 : Int32)) ((M7 22) 1 ((5 : Int32) * x7).toNatClampNeg) M7 h
def P_L_isCharged_22  (t0 : Int32) (t1 : Int32) (t2 : Int32) (M : lc_MM) : Option (Int32 × lc_MM) :=
  lc_bd (P_L_low t1 t2) (fun r22 => lc_let (t0 + r22) (fun x5_26 => P_L_isCharged_34  lc_FU x5_26 (0 : Int32) (0 : Int32) M))
set_option maxRecDepth 100000 in
set_option maxHeartbeats 4000000 in
theorem w_L_isCharged_22 {S : lc_Se} {X : lc_X} (C : lc_C X cL_isCharged RL 9 (some .boolean) rm_L_isCharged) (hl : X.2.1.stackTraces = false)  (out : Int32 × lc_MM)  : ∀ (t0 : Int32) (t1 : Int32) (t2 : Int32) (M : lc_MM), P_L_isCharged_22  t0 t1 t2 M = some out → lc_J S X 9 0 0 (lc_QI S X 3 18 out.1 out.2) 22 [(0, .ref (lc_ad S 194)), (1, .ref (lc_ad S 197)), (2, .ref (lc_ad S 198)), (3, .ref (lc_ad S 203))] [.int t2, .int t1, .int t0] M := by
  intro t0 t1 t2 M h
  rw [P_L_isCharged_22] at h
  obtain ⟨r22, h22, h⟩ := lc_bde h
  refine lc_csi C (pc' := 25) (r := r22) (M' := M) (As := [.int t1, .int t2]) (rest := [.int t0]) (c_L_low S X.2.1 M   t1 t2  r22 h22) kl_RL_83 rfl rfl (Nat.le_of_ble_eq_true rfl) ⟨Nat.le_of_ble_eq_true rfl, Nat.le_of_ble_eq_true rfl⟩ ⟨rfl, rfl⟩ ⟨Nat.le_of_ble_eq_true rfl, Nat.le_of_ble_eq_true rfl⟩ dL_isCharged_22 rfl ?_
  refine lc_iadd C (pc' := 26) dL_isCharged_25 rfl ?_
  obtain ⟨x5_26, e5_26, h⟩ := lc_let2 h
  rw [e5_26]
  refine lc_istore C (pc' := 28) (lo' := [(5, .int x5_26), (0, .ref (lc_ad S 194)), (1, .ref (lc_ad S 197)), (2, .ref (lc_ad S 198)), (3, .ref (lc_ad S 203))]) dL_isCharged_26 (Nat.le_of_ble_eq_true rfl) rfl rfl ?_
  refine lc_iconst C (pc' := 29) (v := (0 : Int32)) dL_isCharged_28 (by decide) rfl ?_
  refine lc_istore C (pc' := 31) (lo' := [(6, .int (0 : Int32)), (5, .int x5_26), (0, .ref (lc_ad S 194)), (1, .ref (lc_ad S 197)), (2, .ref (lc_ad S 198)), (3, .ref (lc_ad S 203))]) dL_isCharged_29 (Nat.le_of_ble_eq_true rfl) rfl rfl ?_
  refine lc_iconst C (pc' := 32) (v := (0 : Int32)) dL_isCharged_31 (by decide) rfl ?_
  refine lc_istore C (pc' := 34) (lo' := [(7, .int (0 : Int32)), (6, .int (0 : Int32)), (5, .int x5_26), (0, .ref (lc_ad S 194)), (1, .ref (lc_ad S 197)), (2, .ref (lc_ad S 198)), (3, .ref (lc_ad S 203))]) dL_isCharged_32 (Nat.le_of_ble_eq_true rfl) rfl rfl ?_
  refine lc_sub (lo' := [(0, .ref (lc_ad S 194)), (1, .ref (lc_ad S 197)), (2, .ref (lc_ad S 198)), (3, .ref (lc_ad S 203)), (5, .int x5_26), (6, .int (0 : Int32)), (7, .int (0 : Int32))]) [3, 4, 5, 6, 2, 1, 0] rfl ?_
  exact w_L_isCharged_34 C hl  out  lc_FU x5_26 (0 : Int32) (0 : Int32) M h
def P_L_isCharged  (x4 : Int32) (M : lc_MM) : Option (Int32 × lc_MM) :=
  lc_bd (P_L_low (x4 >>> ((8 : Int32) &&& 31)) (3 : Int32)) (fun r9 => if r9 = 0 then P_L_isCharged_22   (1 : Int32) x4 (99 : Int32) M else P_L_isCharged_22   (1 : Int32) x4 (20 : Int32) M)
set_option maxRecDepth 100000 in
set_option maxHeartbeats 4000000 in
theorem c_L_isCharged (S : lc_Se) (l : Launch) (hl : l.stackTraces = false)   (x4 : Int32) (M : lc_MM) (out : Int32 × lc_MM) (h : P_L_isCharged x4 M = some out) : lc_MI S l yL_isCharged cL_isCharged 9 (some .boolean) rm_L_isCharged [.ref (lc_ad S 194), .ref (lc_ad S 197), .ref (lc_ad S 198), .ref (lc_ad S 203), .int x4] M out.1 out.2 := by
  refine lc_mkI (own := RL) pn_RL rfl (Nat.le_of_ble_eq_true rfl) (lo := [(0, .ref (lc_ad S 194)), (1, .ref (lc_ad S 197)), (2, .ref (lc_ad S 198)), (3, .ref (lc_ad S 203)), (4, .int x4)]) rfl (fun X hX C => ?_)
  rw [P_L_isCharged] at h
  subst hX
  refine lc_iconst C (pc' := 1) (v := (1 : Int32)) dL_isCharged_0 (by decide) rfl ?_
  refine lc_iload C (pc' := 3) 4 dL_isCharged_1 rfl rfl ?_
  refine lc_iload C (pc' := 5) 4 dL_isCharged_3 rfl rfl ?_
  refine lc_bipush C (pc' := 7) (v := (8 : Int32)) dL_isCharged_5 (by decide) rfl ?_
  refine lc_ishr C (pc' := 8) dL_isCharged_7 rfl ?_
  refine lc_iconst C (pc' := 9) (v := (3 : Int32)) dL_isCharged_8 (by decide) rfl ?_
  obtain ⟨r9, h9, h⟩ := lc_bde h
  refine lc_csi C (pc' := 12) (r := r9) (M' := M) (As := [.int (x4 >>> ((8 : Int32) &&& 31)), .int (3 : Int32)]) (rest := [.int x4, .int (1 : Int32)]) (c_L_low S X.2.1 M   (x4 >>> ((8 : Int32) &&& 31)) (3 : Int32)  r9 h9) kl_RL_83 rfl rfl (Nat.le_of_ble_eq_true rfl) ⟨Nat.le_of_ble_eq_true rfl, Nat.le_of_ble_eq_true rfl⟩ ⟨rfl, rfl⟩ ⟨Nat.le_of_ble_eq_true rfl, Nat.le_of_ble_eq_true rfl⟩ dL_isCharged_9 rfl ?_
  refine lc_if_ne C (pc' := 15) (tgt := 20) dL_isCharged_12 (by decide) rfl (fun c12 => ?_) (fun c12 => ?_)
  · have h := (lc_if2 h).2 c12
    refine lc_bipush C (pc' := 22) (v := (20 : Int32)) dL_isCharged_20 (by decide) rfl ?_
    refine lc_sub (lo' := [(0, .ref (lc_ad S 194)), (1, .ref (lc_ad S 197)), (2, .ref (lc_ad S 198)), (3, .ref (lc_ad S 203))]) [0, 1, 2, 3] rfl ?_
    exact w_L_isCharged_22 C hl  out   (1 : Int32) x4 (20 : Int32) M h
  · have h := (lc_if2 h).1 c12
    refine lc_bipush C (pc' := 17) (v := (99 : Int32)) dL_isCharged_15 (by decide) rfl ?_
    refine lc_goto C (tgt := 22) dL_isCharged_17 (by decide) ?_
    refine lc_sub (lo' := [(0, .ref (lc_ad S 194)), (1, .ref (lc_ad S 197)), (2, .ref (lc_ad S 198)), (3, .ref (lc_ad S 203))]) [0, 1, 2, 3] rfl ?_
    exact w_L_isCharged_22 C hl  out   (1 : Int32) x4 (99 : Int32) M h
abbrev rm_L_borrow : Room := { frames := 3, cells := 0, slots := 0, locals := 74 }
def P_L_borrow_194 (K3 : Int32 → Int32 → lc_St → Option (Int32 × lc_St)) (x3 : Int32) (x4 : Int32) (s : lc_St) : Option (Int32 × lc_St) :=
  lc_let (x4 + (1 : Int32)) (fun x4_194 => K3 x3 x4_194 s)
set_option maxRecDepth 100000 in
set_option maxHeartbeats 4000000 in
theorem w_L_Zborrow_194 {S : lc_Se} {X : lc_X} (C : lc_C X cL_borrow RL 8 (some .boolean) rm_L_borrow) {M : lc_MM}  (out : Int32 × lc_St) (K3 : Int32 → Int32 → lc_St → Option (Int32 × lc_St)) (hK3 : ∀ (x3 : Int32) (x4 : Int32) (s : lc_St), K3 x3 x4 s = some out → lc_J S X 8 0 0 (lc_QI S X 0 0 out.1 (va_up M 23 out.2)) 3 [(0, .ref (lc_ad S 200)), (1, .ref (lc_ad S 201)), (2, .ref (lc_ad S 202)), (3, .int x3), (4, .int x4)] [] (va_up M 23 s)) : ∀ (x3 : Int32) (x4 : Int32) (s : lc_St), P_L_borrow_194 K3 x3 x4 s = some out → lc_J S X 8 0 0 (lc_QI S X 0 0 out.1 (va_up M 23 out.2)) 194 [(0, .ref (lc_ad S 200)), (1, .ref (lc_ad S 201)), (2, .ref (lc_ad S 202)), (3, .int x3), (4, .int x4)] [] (va_up M 23 s) := by
  intro x3 x4 s h
  rw [P_L_borrow_194] at h
  obtain ⟨x4_194, e4_194, h⟩ := lc_let2 h
  refine lc_iinc C (pc' := 197) (lo' := [(4, .int x4_194), (0, .ref (lc_ad S 200)), (1, .ref (lc_ad S 201)), (2, .ref (lc_ad S 202)), (3, .int x3)]) (q := 4) dL_borrow_194 rfl (by rw [← e4_194]; rfl) (Nat.le_of_ble_eq_true rfl) rfl rfl ?_
  refine lc_goto C (tgt := 3) dL_borrow_197 (by decide) ?_
  refine lc_sub (lo' := [(0, .ref (lc_ad S 200)), (1, .ref (lc_ad S 201)), (2, .ref (lc_ad S 202)), (3, .int x3), (4, .int x4_194)]) [1, 2, 3, 4, 0] rfl ?_
  exact hK3 x3 x4_194 s h
def P_L_borrow_139 (K3 : Int32 → Int32 → lc_St → Option (Int32 × lc_St)) : Nat → Int32 → Int32 → Int32 → Int32 → Int32 → lc_St → Option (Int32 × lc_St)
  | 0, _, _, _, _, _, _ => none
  | n + 1, x3, x4, x5, x6, x7, s =>
    lc_bd (P_L_lost x7 x6 x4) (fun r147 => if x5 ≤ (x7 - r147) then lc_if (lc_ok (((5 : Int32) * x6) + (1 : Int32)) 30) (if (x3 + x7) ≤ (s 1 (((5 : Int32) * x6) + (1 : Int32)).toNatClampNeg) then lc_bd2 (P_L_lends x6 x4 x7 (10 : Int32) s) (fun r190 s1 => P_L_borrow_194 K3  x3 x4 s1) else some ((0 : Int32), s)) else lc_let (x7 + (1 : Int32)) (fun x7_156 => P_L_borrow_139 K3 n x3 x4 x5 x6 x7_156 s))
set_option maxRecDepth 100000 in
set_option maxHeartbeats 4000000 in
theorem w_L_Zborrow_139 {S : lc_Se} {X : lc_X} (C : lc_C X cL_borrow RL 8 (some .boolean) rm_L_borrow) {M : lc_MM}  (out : Int32 × lc_St) (K3 : Int32 → Int32 → lc_St → Option (Int32 × lc_St)) (hK3 : ∀ (x3 : Int32) (x4 : Int32) (s : lc_St), K3 x3 x4 s = some out → lc_J S X 8 0 0 (lc_QI S X 0 0 out.1 (va_up M 23 out.2)) 3 [(0, .ref (lc_ad S 200)), (1, .ref (lc_ad S 201)), (2, .ref (lc_ad S 202)), (3, .int x3), (4, .int x4)] [] (va_up M 23 s)) : ∀ (n : Nat) (x3 : Int32) (x4 : Int32) (x5 : Int32) (x6 : Int32) (x7 : Int32) (s : lc_St), P_L_borrow_139 K3 n x3 x4 x5 x6 x7 s = some out → lc_J S X 8 0 0 (lc_QI S X 0 0 out.1 (va_up M 23 out.2)) 139 [(0, .ref (lc_ad S 200)), (1, .ref (lc_ad S 201)), (2, .ref (lc_ad S 202)), (3, .int x3), (4, .int x4), (5, .int x5), (6, .int x6), (7, .int x7)] [] (va_up M 23 s) := by
  intro n
  induction n with
  | zero =>
    intro x3 x4 x5 x6 x7 s h
    rw [P_L_borrow_139] at h
    cases h
  | succ n ih =>
    intro x3 x4 x5 x6 x7 s h
    rw [P_L_borrow_139] at h
    refine lc_iload C (pc' := 141) 7 dL_borrow_139 rfl rfl ?_
    refine lc_iload C (pc' := 143) 7 dL_borrow_141 rfl rfl ?_
    refine lc_iload C (pc' := 145) 6 dL_borrow_143 rfl rfl ?_
    refine lc_iload C (pc' := 147) 4 dL_borrow_145 rfl rfl ?_
    obtain ⟨r147, h147, h⟩ := lc_bde h
    refine lc_csi C (pc' := 150) (r := r147) (M' := (va_up M 23 s)) (As := [.int x7, .int x6, .int x4]) (rest := [.int x7]) (c_L_lost S X.2.1 (va_up M 23 s)   x7 x6 x4  r147 h147) kl_RL_42 rfl rfl (Nat.le_of_ble_eq_true rfl) ⟨Nat.le_of_ble_eq_true rfl, Nat.le_of_ble_eq_true rfl⟩ ⟨rfl, rfl⟩ (lc_z2 _ _) dL_borrow_147 rfl ?_
    refine lc_isub C (pc' := 151) dL_borrow_150 rfl ?_
    refine lc_iload C (pc' := 153) 5 dL_borrow_151 rfl rfl ?_
    refine lc_icmp_ge C (pc' := 156) (tgt := 162) dL_borrow_153 (by decide) rfl (fun c153 => ?_) (fun c153 => ?_)
    · have h := (lc_if2 h).1 c153
      refine lc_aload_n C (pc' := 163) 1 dL_borrow_162 rfl rfl ?_
      refine lc_iconst C (pc' := 164) (v := (5 : Int32)) dL_borrow_163 (by decide) rfl ?_
      refine lc_iload C (pc' := 166) 6 dL_borrow_164 rfl rfl ?_
      refine lc_imul C (pc' := 167) dL_borrow_166 rfl ?_
      refine lc_iconst C (pc' := 168) (v := (1 : Int32)) dL_borrow_167 (by decide) rfl ?_
      refine lc_iadd C (pc' := 169) dL_borrow_168 rfl ?_
      obtain ⟨hi169, h⟩ := lc_ife h
      refine lc_ld201 C (pc' := 170) (jj := (((5 : Int32) * x6) + (1 : Int32)).toNatClampNeg) (va_up_self _ _ _) hi169 rfl dL_borrow_169 rfl ?_
      refine lc_iload_n C (pc' := 171) 3 dL_borrow_170 rfl rfl ?_
      refine lc_iload C (pc' := 173) 7 dL_borrow_171 rfl rfl ?_
      refine lc_iadd C (pc' := 174) dL_borrow_173 rfl ?_
      refine lc_icmp_ge C (pc' := 177) (tgt := 179) dL_borrow_174 (by decide) rfl (fun c174 => ?_) (fun c174 => ?_)
      · have h := (lc_if2 h).1 c174
        refine lc_aload_n C (pc' := 180) 0 dL_borrow_179 rfl rfl ?_
        refine lc_aload_n C (pc' := 181) 1 dL_borrow_180 rfl rfl ?_
        refine lc_aload_n C (pc' := 182) 2 dL_borrow_181 rfl rfl ?_
        refine lc_iload C (pc' := 184) 6 dL_borrow_182 rfl rfl ?_
        refine lc_iload C (pc' := 186) 4 dL_borrow_184 rfl rfl ?_
        refine lc_iload C (pc' := 188) 7 dL_borrow_186 rfl rfl ?_
        refine lc_bipush C (pc' := 190) (v := (10 : Int32)) dL_borrow_188 (by decide) rfl ?_
        obtain ⟨r190, s1, h190, h⟩ := lc_bd2e h
        refine lc_csi C (pc' := 193) (r := r190) (M' := (va_up M 23 s1)) (As := [.ref (lc_ad S 200), .ref (lc_ad S 201), .ref (lc_ad S 202), .int x6, .int x4, .int x7, .int (10 : Int32)]) (rest := []) (c_L_Zlends S X.2.1 M   x6 x4 x7 (10 : Int32) s (r190, s1) h190) kl_RL_67 rfl rfl (Nat.le_of_ble_eq_true rfl) ⟨Nat.le_of_ble_eq_true rfl, Nat.le_of_ble_eq_true rfl⟩ ⟨rfl, rfl⟩ (lc_z2 _ _) dL_borrow_190 rfl ?_
        refine lc_pop C (pc' := 194) dL_borrow_193 rfl rfl ?_
        refine lc_sub (lo' := [(0, .ref (lc_ad S 200)), (1, .ref (lc_ad S 201)), (2, .ref (lc_ad S 202)), (3, .int x3), (4, .int x4)]) [0, 1, 2, 3, 4] rfl ?_
        exact w_L_Zborrow_194 C   out K3 hK3  x3 x4 s1 h
      · have h := (lc_if2 h).2 c174
        refine lc_iconst C (pc' := 178) (v := (0 : Int32)) dL_borrow_177 (by decide) rfl ?_
        obtain rfl := Option.some.inj h
        exact lc_zret C rfl (Or.inl rfl) dL_borrow_178
    · have h := (lc_if2 h).2 c153
      obtain ⟨x7_156, e7_156, h⟩ := lc_let2 h
      refine lc_iinc C (pc' := 159) (lo' := [(7, .int x7_156), (0, .ref (lc_ad S 200)), (1, .ref (lc_ad S 201)), (2, .ref (lc_ad S 202)), (3, .int x3), (4, .int x4), (5, .int x5), (6, .int x6)]) (q := 7) dL_borrow_156 rfl (by rw [← e7_156]; rfl) (Nat.le_of_ble_eq_true rfl) rfl rfl ?_
      refine lc_goto C (tgt := 139) dL_borrow_159 (by decide) ?_
      refine lc_sub (lo' := [(0, .ref (lc_ad S 200)), (1, .ref (lc_ad S 201)), (2, .ref (lc_ad S 202)), (3, .int x3), (4, .int x4), (5, .int x5), (6, .int x6), (7, .int x7_156)]) [1, 2, 3, 4, 5, 6, 7, 0] rfl ?_
      exact ih x3 x4 x5 x6 x7_156 s h
def P_L_borrow_103 (K49 : Int32 → Int32 → Int32 → Int32 → Int32 → lc_St → Option (Int32 × lc_St)) (x3 : Int32) (x4 : Int32) (x5 : Int32) (x7 : Int32) (t0 : Int32) (s : lc_St) : Option (Int32 × lc_St) :=
  lc_let (x7 + (-1 : Int32)) (fun x7_105 => K49 x3 x4 x5 t0 x7_105 s)
set_option maxRecDepth 100000 in
set_option maxHeartbeats 4000000 in
theorem w_L_Zborrow_103 {S : lc_Se} {X : lc_X} (C : lc_C X cL_borrow RL 8 (some .boolean) rm_L_borrow) {M : lc_MM}  (out : Int32 × lc_St) (K49 : Int32 → Int32 → Int32 → Int32 → Int32 → lc_St → Option (Int32 × lc_St)) (hK49 : ∀ (x3 : Int32) (x4 : Int32) (x5 : Int32) (x6 : Int32) (x7 : Int32) (s : lc_St), K49 x3 x4 x5 x6 x7 s = some out → lc_J S X 8 0 0 (lc_QI S X 0 0 out.1 (va_up M 23 out.2)) 49 [(0, .ref (lc_ad S 200)), (1, .ref (lc_ad S 201)), (2, .ref (lc_ad S 202)), (3, .int x3), (4, .int x4), (5, .int x5), (6, .int x6), (7, .int x7)] [] (va_up M 23 s)) : ∀ (x3 : Int32) (x4 : Int32) (x5 : Int32) (x7 : Int32) (t0 : Int32) (s : lc_St), P_L_borrow_103 K49 x3 x4 x5 x7 t0 s = some out → lc_J S X 8 0 0 (lc_QI S X 0 0 out.1 (va_up M 23 out.2)) 103 [(0, .ref (lc_ad S 200)), (1, .ref (lc_ad S 201)), (2, .ref (lc_ad S 202)), (3, .int x3), (4, .int x4), (5, .int x5), (7, .int x7)] [.int t0] (va_up M 23 s) := by
  intro x3 x4 x5 x7 t0 s h
  rw [P_L_borrow_103] at h
  refine lc_istore C (pc' := 105) (lo' := [(6, .int t0), (0, .ref (lc_ad S 200)), (1, .ref (lc_ad S 201)), (2, .ref (lc_ad S 202)), (3, .int x3), (4, .int x4), (5, .int x5), (7, .int x7)]) dL_borrow_103 (Nat.le_of_ble_eq_true rfl) rfl rfl ?_
  obtain ⟨x7_105, e7_105, h⟩ := lc_let2 h
  refine lc_iinc C (pc' := 108) (lo' := [(7, .int x7_105), (6, .int t0), (0, .ref (lc_ad S 200)), (1, .ref (lc_ad S 201)), (2, .ref (lc_ad S 202)), (3, .int x3), (4, .int x4), (5, .int x5)]) (q := 7) dL_borrow_105 rfl (by rw [← e7_105]; rfl) (Nat.le_of_ble_eq_true rfl) rfl rfl ?_
  refine lc_goto C (tgt := 49) dL_borrow_108 (by decide) ?_
  refine lc_sub (lo' := [(0, .ref (lc_ad S 200)), (1, .ref (lc_ad S 201)), (2, .ref (lc_ad S 202)), (3, .int x3), (4, .int x4), (5, .int x5), (6, .int t0), (7, .int x7_105)]) [2, 3, 4, 5, 6, 7, 1, 0] rfl ?_
  exact hK49 x3 x4 x5 t0 x7_105 s h
def P_L_borrow_101 (K49 : Int32 → Int32 → Int32 → Int32 → Int32 → lc_St → Option (Int32 × lc_St)) (x3 : Int32) (x4 : Int32) (x5 : Int32) (x6 : Int32) (x7 : Int32) (s : lc_St) : Option (Int32 × lc_St) :=
  P_L_borrow_103 K49  x3 x4 x5 x7 x6 s
set_option maxRecDepth 100000 in
set_option maxHeartbeats 4000000 in
theorem w_L_Zborrow_101 {S : lc_Se} {X : lc_X} (C : lc_C X cL_borrow RL 8 (some .boolean) rm_L_borrow) {M : lc_MM}  (out : Int32 × lc_St) (K49 : Int32 → Int32 → Int32 → Int32 → Int32 → lc_St → Option (Int32 × lc_St)) (hK49 : ∀ (x3 : Int32) (x4 : Int32) (x5 : Int32) (x6 : Int32) (x7 : Int32) (s : lc_St), K49 x3 x4 x5 x6 x7 s = some out → lc_J S X 8 0 0 (lc_QI S X 0 0 out.1 (va_up M 23 out.2)) 49 [(0, .ref (lc_ad S 200)), (1, .ref (lc_ad S 201)), (2, .ref (lc_ad S 202)), (3, .int x3), (4, .int x4), (5, .int x5), (6, .int x6), (7, .int x7)] [] (va_up M 23 s)) : ∀ (x3 : Int32) (x4 : Int32) (x5 : Int32) (x6 : Int32) (x7 : Int32) (s : lc_St), P_L_borrow_101 K49 x3 x4 x5 x6 x7 s = some out → lc_J S X 8 0 0 (lc_QI S X 0 0 out.1 (va_up M 23 out.2)) 101 [(0, .ref (lc_ad S 200)), (1, .ref (lc_ad S 201)), (2, .ref (lc_ad S 202)), (3, .int x3), (4, .int x4), (5, .int x5), (6, .int x6), (7, .int x7)] [] (va_up M 23 s) := by
  intro x3 x4 x5 x6 x7 s h
  rw [P_L_borrow_101] at h
  refine lc_iload C (pc' := 103) 6 dL_borrow_101 rfl rfl ?_
  refine lc_sub (lo' := [(0, .ref (lc_ad S 200)), (1, .ref (lc_ad S 201)), (2, .ref (lc_ad S 202)), (3, .int x3), (4, .int x4), (5, .int x5), (7, .int x7)]) [0, 1, 2, 3, 4, 5, 7] rfl ?_
  exact w_L_Zborrow_103 C   out K49 hK49  x3 x4 x5 x7 x6 s h
def P_L_borrow_96 (K49 : Int32 → Int32 → Int32 → Int32 → Int32 → lc_St → Option (Int32 × lc_St)) (x3 : Int32) (x4 : Int32) (x5 : Int32) (x7 : Int32) (s : lc_St) : Option (Int32 × lc_St) :=
  P_L_borrow_103 K49  x3 x4 x5 x7 x7 s
set_option maxRecDepth 100000 in
set_option maxHeartbeats 4000000 in
theorem w_L_Zborrow_96 {S : lc_Se} {X : lc_X} (C : lc_C X cL_borrow RL 8 (some .boolean) rm_L_borrow) {M : lc_MM}  (out : Int32 × lc_St) (K49 : Int32 → Int32 → Int32 → Int32 → Int32 → lc_St → Option (Int32 × lc_St)) (hK49 : ∀ (x3 : Int32) (x4 : Int32) (x5 : Int32) (x6 : Int32) (x7 : Int32) (s : lc_St), K49 x3 x4 x5 x6 x7 s = some out → lc_J S X 8 0 0 (lc_QI S X 0 0 out.1 (va_up M 23 out.2)) 49 [(0, .ref (lc_ad S 200)), (1, .ref (lc_ad S 201)), (2, .ref (lc_ad S 202)), (3, .int x3), (4, .int x4), (5, .int x5), (6, .int x6), (7, .int x7)] [] (va_up M 23 s)) : ∀ (x3 : Int32) (x4 : Int32) (x5 : Int32) (x7 : Int32) (s : lc_St), P_L_borrow_96 K49 x3 x4 x5 x7 s = some out → lc_J S X 8 0 0 (lc_QI S X 0 0 out.1 (va_up M 23 out.2)) 96 [(0, .ref (lc_ad S 200)), (1, .ref (lc_ad S 201)), (2, .ref (lc_ad S 202)), (3, .int x3), (4, .int x4), (5, .int x5), (7, .int x7)] [] (va_up M 23 s) := by
  intro x3 x4 x5 x7 s h
  rw [P_L_borrow_96] at h
  refine lc_iload C (pc' := 98) 6 dL_borrow_96 rfl rfl ?_
  refine lc_goto C (tgt := 103) dL_borrow_98 (by decide) ?_
  exact w_L_Zborrow_103 C   out K49 hK49  x3 x4 x5 x7 x7 s h
def P_L_borrow_49 (K3 : Int32 → Int32 → lc_St → Option (Int32 × lc_St)) : Nat → Int32 → Int32 → Int32 → Int32 → Int32 → lc_St → Option (Int32 × lc_St)
  | 0, _, _, _, _, _, _ => none
  | n + 1, x3, x4, x5, x6, x7, s =>
    if x7 < 0 then if x6 < 0 then some ((0 : Int32), s) else lc_if (lc_ok ((5 : Int32) * x4) 30) (if (s 1 ((5 : Int32) * x4).toNatClampNeg) < x3 then some ((0 : Int32), s) else if (s 0 2) = (12 : Int32) then some ((0 : Int32), s) else P_L_borrow_139 K3 lc_FU x3 x4 x5 x6 (1 : Int32) s) else if x7 = x4 then P_L_borrow_101 (fun x3 x4 x5 x6 x7 s => P_L_borrow_49 K3 n x3 x4 x5 x6 x7 s)  x3 x4 x5 x6 x7 s else lc_if (lc_ok (((5 : Int32) * x7) + (4 : Int32)) 30) (if (s 1 (((5 : Int32) * x7) + (4 : Int32)).toNatClampNeg) = 0 then if x6 < 0 then P_L_borrow_96 (fun x3 x4 x5 x6 x7 s => P_L_borrow_49 K3 n x3 x4 x5 x6 x7 s)  x3 x4 x5 x7 s else lc_if (lc_ok (((5 : Int32) * x7) + (1 : Int32)) 30) (lc_if (lc_ok (((5 : Int32) * x6) + (1 : Int32)) 30) (if (s 1 (((5 : Int32) * x7) + (1 : Int32)).toNatClampNeg) < (s 1 (((5 : Int32) * x6) + (1 : Int32)).toNatClampNeg) then P_L_borrow_101 (fun x3 x4 x5 x6 x7 s => P_L_borrow_49 K3 n x3 x4 x5 x6 x7 s)  x3 x4 x5 x6 x7 s else P_L_borrow_96 (fun x3 x4 x5 x6 x7 s => P_L_borrow_49 K3 n x3 x4 x5 x6 x7 s)  x3 x4 x5 x7 s)) else P_L_borrow_101 (fun x3 x4 x5 x6 x7 s => P_L_borrow_49 K3 n x3 x4 x5 x6 x7 s)  x3 x4 x5 x6 x7 s)
set_option maxRecDepth 100000 in
set_option maxHeartbeats 4000000 in
theorem w_L_Zborrow_49 {S : lc_Se} {X : lc_X} (C : lc_C X cL_borrow RL 8 (some .boolean) rm_L_borrow) {M : lc_MM}  (out : Int32 × lc_St) (K3 : Int32 → Int32 → lc_St → Option (Int32 × lc_St)) (hK3 : ∀ (x3 : Int32) (x4 : Int32) (s : lc_St), K3 x3 x4 s = some out → lc_J S X 8 0 0 (lc_QI S X 0 0 out.1 (va_up M 23 out.2)) 3 [(0, .ref (lc_ad S 200)), (1, .ref (lc_ad S 201)), (2, .ref (lc_ad S 202)), (3, .int x3), (4, .int x4)] [] (va_up M 23 s)) : ∀ (n : Nat) (x3 : Int32) (x4 : Int32) (x5 : Int32) (x6 : Int32) (x7 : Int32) (s : lc_St), P_L_borrow_49 K3 n x3 x4 x5 x6 x7 s = some out → lc_J S X 8 0 0 (lc_QI S X 0 0 out.1 (va_up M 23 out.2)) 49 [(0, .ref (lc_ad S 200)), (1, .ref (lc_ad S 201)), (2, .ref (lc_ad S 202)), (3, .int x3), (4, .int x4), (5, .int x5), (6, .int x6), (7, .int x7)] [] (va_up M 23 s) := by
  intro n
  induction n with
  | zero =>
    intro x3 x4 x5 x6 x7 s h
    rw [P_L_borrow_49] at h
    cases h
  | succ n ih =>
    intro x3 x4 x5 x6 x7 s h
    rw [P_L_borrow_49] at h
    refine lc_iload C (pc' := 51) 7 dL_borrow_49 rfl rfl ?_
    refine lc_if_lt C (pc' := 54) (tgt := 111) dL_borrow_51 (by decide) rfl (fun c51 => ?_) (fun c51 => ?_)
    · have h := (lc_if2 h).1 c51
      refine lc_iload C (pc' := 113) 6 dL_borrow_111 rfl rfl ?_
      refine lc_if_lt C (pc' := 116) (tgt := 134) dL_borrow_113 (by decide) rfl (fun c113 => ?_) (fun c113 => ?_)
      · have h := (lc_if2 h).1 c113
        refine lc_iconst C (pc' := 135) (v := (0 : Int32)) dL_borrow_134 (by decide) rfl ?_
        obtain rfl := Option.some.inj h
        exact lc_zret C rfl (Or.inl rfl) dL_borrow_135
      · have h := (lc_if2 h).2 c113
        refine lc_aload_n C (pc' := 117) 1 dL_borrow_116 rfl rfl ?_
        refine lc_iconst C (pc' := 118) (v := (5 : Int32)) dL_borrow_117 (by decide) rfl ?_
        refine lc_iload C (pc' := 120) 4 dL_borrow_118 rfl rfl ?_
        refine lc_imul C (pc' := 121) dL_borrow_120 rfl ?_
        obtain ⟨hi121, h⟩ := lc_ife h
        refine lc_ld201 C (pc' := 122) (jj := ((5 : Int32) * x4).toNatClampNeg) (va_up_self _ _ _) hi121 rfl dL_borrow_121 rfl ?_
        refine lc_iload_n C (pc' := 123) 3 dL_borrow_122 rfl rfl ?_
        refine lc_icmp_lt C (pc' := 126) (tgt := 134) dL_borrow_123 (by decide) rfl (fun c123 => ?_) (fun c123 => ?_)
        · have h := (lc_if2 h).1 c123
          refine lc_iconst C (pc' := 135) (v := (0 : Int32)) dL_borrow_134 (by decide) rfl ?_
          obtain rfl := Option.some.inj h
          exact lc_zret C rfl (Or.inl rfl) dL_borrow_135
        · have h := (lc_if2 h).2 c123
          refine lc_aload_n C (pc' := 127) 0 dL_borrow_126 rfl rfl ?_
          refine lc_iconst C (pc' := 128) (v := (2 : Int32)) dL_borrow_127 (by decide) rfl ?_
          refine lc_ld200 C (pc' := 129) (jj := 2) (va_up_self _ _ _) (by decide) (by decide) dL_borrow_128 rfl ?_
          refine lc_bipush C (pc' := 131) (v := (12 : Int32)) dL_borrow_129 (by decide) rfl ?_
          refine lc_icmp_ne C (pc' := 134) (tgt := 136) dL_borrow_131 (by decide) rfl (fun c131 => ?_) (fun c131 => ?_)
          · have h := (lc_if2 h).2 c131
            refine lc_iconst C (pc' := 137) (v := (1 : Int32)) dL_borrow_136 (by decide) rfl ?_
            refine lc_istore C (pc' := 139) (lo' := [(7, .int (1 : Int32)), (0, .ref (lc_ad S 200)), (1, .ref (lc_ad S 201)), (2, .ref (lc_ad S 202)), (3, .int x3), (4, .int x4), (5, .int x5), (6, .int x6)]) dL_borrow_137 (Nat.le_of_ble_eq_true rfl) rfl rfl ?_
            refine lc_sub (lo' := [(0, .ref (lc_ad S 200)), (1, .ref (lc_ad S 201)), (2, .ref (lc_ad S 202)), (3, .int x3), (4, .int x4), (5, .int x5), (6, .int x6), (7, .int (1 : Int32))]) [1, 2, 3, 4, 5, 6, 7, 0] rfl ?_
            exact w_L_Zborrow_139 C   out K3 hK3 lc_FU x3 x4 x5 x6 (1 : Int32) s h
          · have h := (lc_if2 h).1 c131
            refine lc_iconst C (pc' := 135) (v := (0 : Int32)) dL_borrow_134 (by decide) rfl ?_
            obtain rfl := Option.some.inj h
            exact lc_zret C rfl (Or.inl rfl) dL_borrow_135
    · have h := (lc_if2 h).2 c51
      refine lc_iload C (pc' := 56) 7 dL_borrow_54 rfl rfl ?_
      refine lc_iload C (pc' := 58) 4 dL_borrow_56 rfl rfl ?_
      refine lc_icmp_eq C (pc' := 61) (tgt := 101) dL_borrow_58 (by decide) rfl (fun c58 => ?_) (fun c58 => ?_)
      · have h := (lc_if2 h).1 c58
        exact w_L_Zborrow_101 C   out (fun x3 x4 x5 x6 x7 s => P_L_borrow_49 K3 n x3 x4 x5 x6 x7 s) ih  x3 x4 x5 x6 x7 s h
      · have h := (lc_if2 h).2 c58
        refine lc_aload_n C (pc' := 62) 1 dL_borrow_61 rfl rfl ?_
        refine lc_iconst C (pc' := 63) (v := (5 : Int32)) dL_borrow_62 (by decide) rfl ?_
        refine lc_iload C (pc' := 65) 7 dL_borrow_63 rfl rfl ?_
        refine lc_imul C (pc' := 66) dL_borrow_65 rfl ?_
        refine lc_iconst C (pc' := 67) (v := (4 : Int32)) dL_borrow_66 (by decide) rfl ?_
        refine lc_iadd C (pc' := 68) dL_borrow_67 rfl ?_
        obtain ⟨hi68, h⟩ := lc_ife h
        refine lc_ld201 C (pc' := 69) (jj := (((5 : Int32) * x7) + (4 : Int32)).toNatClampNeg) (va_up_self _ _ _) hi68 rfl dL_borrow_68 rfl ?_
        refine lc_if_ne C (pc' := 72) (tgt := 101) dL_borrow_69 (by decide) rfl (fun c69 => ?_) (fun c69 => ?_)
        · have h := (lc_if2 h).2 c69
          exact w_L_Zborrow_101 C   out (fun x3 x4 x5 x6 x7 s => P_L_borrow_49 K3 n x3 x4 x5 x6 x7 s) ih  x3 x4 x5 x6 x7 s h
        · have h := (lc_if2 h).1 c69
          refine lc_iload C (pc' := 74) 6 dL_borrow_72 rfl rfl ?_
          refine lc_if_lt C (pc' := 77) (tgt := 96) dL_borrow_74 (by decide) rfl (fun c74 => ?_) (fun c74 => ?_)
          · have h := (lc_if2 h).1 c74
            refine lc_sub (lo' := [(0, .ref (lc_ad S 200)), (1, .ref (lc_ad S 201)), (2, .ref (lc_ad S 202)), (3, .int x3), (4, .int x4), (5, .int x5), (7, .int x7)]) [0, 1, 2, 3, 4, 5, 7] rfl ?_
            exact w_L_Zborrow_96 C   out (fun x3 x4 x5 x6 x7 s => P_L_borrow_49 K3 n x3 x4 x5 x6 x7 s) ih  x3 x4 x5 x7 s h
          · have h := (lc_if2 h).2 c74
            refine lc_aload_n C (pc' := 78) 1 dL_borrow_77 rfl rfl ?_
            refine lc_iconst C (pc' := 79) (v := (5 : Int32)) dL_borrow_78 (by decide) rfl ?_
            refine lc_iload C (pc' := 81) 7 dL_borrow_79 rfl rfl ?_
            refine lc_imul C (pc' := 82) dL_borrow_81 rfl ?_
            refine lc_iconst C (pc' := 83) (v := (1 : Int32)) dL_borrow_82 (by decide) rfl ?_
            refine lc_iadd C (pc' := 84) dL_borrow_83 rfl ?_
            obtain ⟨hi84, h⟩ := lc_ife h
            refine lc_ld201 C (pc' := 85) (jj := (((5 : Int32) * x7) + (1 : Int32)).toNatClampNeg) (va_up_self _ _ _) hi84 rfl dL_borrow_84 rfl ?_
            refine lc_aload_n C (pc' := 86) 1 dL_borrow_85 rfl rfl ?_
            refine lc_iconst C (pc' := 87) (v := (5 : Int32)) dL_borrow_86 (by decide) rfl ?_
            refine lc_iload C (pc' := 89) 6 dL_borrow_87 rfl rfl ?_
            refine lc_imul C (pc' := 90) dL_borrow_89 rfl ?_
            refine lc_iconst C (pc' := 91) (v := (1 : Int32)) dL_borrow_90 (by decide) rfl ?_
            refine lc_iadd C (pc' := 92) dL_borrow_91 rfl ?_
            obtain ⟨hi92, h⟩ := lc_ife h
            refine lc_ld201 C (pc' := 93) (jj := (((5 : Int32) * x6) + (1 : Int32)).toNatClampNeg) (va_up_self _ _ _) hi92 rfl dL_borrow_92 rfl ?_
            refine lc_icmp_lt C (pc' := 96) (tgt := 101) dL_borrow_93 (by decide) rfl (fun c93 => ?_) (fun c93 => ?_)
            · have h := (lc_if2 h).1 c93
              exact w_L_Zborrow_101 C   out (fun x3 x4 x5 x6 x7 s => P_L_borrow_49 K3 n x3 x4 x5 x6 x7 s) ih  x3 x4 x5 x6 x7 s h
            · have h := (lc_if2 h).2 c93
              refine lc_sub (lo' := [(0, .ref (lc_ad S 200)), (1, .ref (lc_ad S 201)), (2, .ref (lc_ad S 202)), (3, .int x3), (4, .int x4), (5, .int x5), (7, .int x7)]) [0, 1, 2, 3, 4, 5, 7] rfl ?_
              exact w_L_Zborrow_96 C   out (fun x3 x4 x5 x6 x7 s => P_L_borrow_49 K3 n x3 x4 x5 x6 x7 s) ih  x3 x4 x5 x7 s h
def P_L_borrow_3  : Nat → Int32 → Int32 → lc_St → Option (Int32 × lc_St)
  | 0, _, _, _ => none
  | n + 1, x3, x4, s =>
    if (s 0 1) ≤ x4 then some ((1 : Int32), s) else lc_if (lc_ok (((5 : Int32) * x4) + (1 : Int32)) 30) (lc_let (x3 - (s 1 (((5 : Int32) * x4) + (1 : Int32)).toNatClampNeg)) (fun x5_21 => lc_if (lc_ok (((5 : Int32) * x4) + (4 : Int32)) 30) (if (s 1 (((5 : Int32) * x4) + (4 : Int32)).toNatClampNeg) = 0 then if x5_21 ≤ 0 then P_L_borrow_194 (fun x3 x4 s => P_L_borrow_3  n x3 x4 s)  x3 x4 s else lc_let ((s 0 1) - (1 : Int32)) (fun x7_47 => P_L_borrow_49 (fun x3 x4 s => P_L_borrow_3  n x3 x4 s) lc_FU x3 x4 x5_21 (-1 : Int32) x7_47 s) else P_L_borrow_194 (fun x3 x4 s => P_L_borrow_3  n x3 x4 s)  x3 x4 s)))
set_option maxRecDepth 100000 in
set_option maxHeartbeats 4000000 in
theorem w_L_Zborrow_3 {S : lc_Se} {X : lc_X} (C : lc_C X cL_borrow RL 8 (some .boolean) rm_L_borrow) {M : lc_MM}  (out : Int32 × lc_St)  : ∀ (n : Nat) (x3 : Int32) (x4 : Int32) (s : lc_St), P_L_borrow_3  n x3 x4 s = some out → lc_J S X 8 0 0 (lc_QI S X 0 0 out.1 (va_up M 23 out.2)) 3 [(0, .ref (lc_ad S 200)), (1, .ref (lc_ad S 201)), (2, .ref (lc_ad S 202)), (3, .int x3), (4, .int x4)] [] (va_up M 23 s) := by
  intro n
  induction n with
  | zero =>
    intro x3 x4 s h
    rw [P_L_borrow_3] at h
    cases h
  | succ n ih =>
    intro x3 x4 s h
    rw [P_L_borrow_3] at h
    refine lc_iload C (pc' := 5) 4 dL_borrow_3 rfl rfl ?_
    refine lc_aload_n C (pc' := 6) 0 dL_borrow_5 rfl rfl ?_
    refine lc_iconst C (pc' := 7) (v := (1 : Int32)) dL_borrow_6 (by decide) rfl ?_
    refine lc_ld200 C (pc' := 8) (jj := 1) (va_up_self _ _ _) (by decide) (by decide) dL_borrow_7 rfl ?_
    refine lc_icmp_ge C (pc' := 11) (tgt := 200) dL_borrow_8 (by decide) rfl (fun c8 => ?_) (fun c8 => ?_)
    · have h := (lc_if2 h).1 c8
      refine lc_iconst C (pc' := 201) (v := (1 : Int32)) dL_borrow_200 (by decide) rfl ?_
      obtain rfl := Option.some.inj h
      exact lc_zret C rfl (Or.inr rfl) dL_borrow_201
    · have h := (lc_if2 h).2 c8
      refine lc_iload_n C (pc' := 12) 3 dL_borrow_11 rfl rfl ?_
      refine lc_aload_n C (pc' := 13) 1 dL_borrow_12 rfl rfl ?_
      refine lc_iconst C (pc' := 14) (v := (5 : Int32)) dL_borrow_13 (by decide) rfl ?_
      refine lc_iload C (pc' := 16) 4 dL_borrow_14 rfl rfl ?_
      refine lc_imul C (pc' := 17) dL_borrow_16 rfl ?_
      refine lc_iconst C (pc' := 18) (v := (1 : Int32)) dL_borrow_17 (by decide) rfl ?_
      refine lc_iadd C (pc' := 19) dL_borrow_18 rfl ?_
      obtain ⟨hi19, h⟩ := lc_ife h
      refine lc_ld201 C (pc' := 20) (jj := (((5 : Int32) * x4) + (1 : Int32)).toNatClampNeg) (va_up_self _ _ _) hi19 rfl dL_borrow_19 rfl ?_
      refine lc_isub C (pc' := 21) dL_borrow_20 rfl ?_
      obtain ⟨x5_21, e5_21, h⟩ := lc_let2 h
      rw [e5_21]
      refine lc_istore C (pc' := 23) (lo' := [(5, .int x5_21), (0, .ref (lc_ad S 200)), (1, .ref (lc_ad S 201)), (2, .ref (lc_ad S 202)), (3, .int x3), (4, .int x4)]) dL_borrow_21 (Nat.le_of_ble_eq_true rfl) rfl rfl ?_
      refine lc_aload_n C (pc' := 24) 2 dL_borrow_23 rfl rfl ?_
      refine lc_iconst C (pc' := 25) (v := (5 : Int32)) dL_borrow_24 (by decide) rfl ?_
      refine lc_iload C (pc' := 27) 5 dL_borrow_25 rfl rfl ?_
      refine lc_imul C (pc' := 28) dL_borrow_27 rfl ?_
      refine lc_iconst C (pc' := 29) (v := (4 : Int32)) dL_borrow_28 (by decide) rfl ?_
      refine lc_iadd C (pc' := 30) dL_borrow_29 rfl ?_
      obtain ⟨hi30, h⟩ := lc_ife h
      refine lc_ld201 C (pc' := 31) (jj := (((5 : Int32) * x4) + (4 : Int32)).toNatClampNeg) (va_up_self _ _ _) hi30 rfl dL_borrow_30 rfl ?_
      refine lc_if_ne C (pc' := 34) (tgt := 194) dL_borrow_31 (by decide) rfl (fun c31 => ?_) (fun c31 => ?_)
      · have h := (lc_if2 h).2 c31
        refine lc_sub (lo' := [(0, .ref (lc_ad S 200)), (1, .ref (lc_ad S 201)), (2, .ref (lc_ad S 202)), (3, .int x3), (4, .int x4)]) [1, 2, 3, 4, 5] rfl ?_
        exact w_L_Zborrow_194 C   out (fun x3 x4 s => P_L_borrow_3  n x3 x4 s) ih  x3 x4 s h
      · have h := (lc_if2 h).1 c31
        refine lc_iload C (pc' := 36) 0 dL_borrow_34 rfl rfl ?_
        refine lc_if_le C (pc' := 39) (tgt := 194) dL_borrow_36 (by decide) rfl (fun c36 => ?_) (fun c36 => ?_)
        · have h := (lc_if2 h).1 c36
          refine lc_sub (lo' := [(0, .ref (lc_ad S 200)), (1, .ref (lc_ad S 201)), (2, .ref (lc_ad S 202)), (3, .int x3), (4, .int x4)]) [1, 2, 3, 4, 5] rfl ?_
          exact w_L_Zborrow_194 C   out (fun x3 x4 s => P_L_borrow_3  n x3 x4 s) ih  x3 x4 s h
        · have h := (lc_if2 h).2 c36
          refine lc_iconst C (pc' := 40) (v := (-1 : Int32)) dL_borrow_39 (by decide) rfl ?_
          refine lc_istore C (pc' := 42) (lo' := [(6, .int (-1 : Int32)), (5, .int x5_21), (0, .ref (lc_ad S 200)), (1, .ref (lc_ad S 201)), (2, .ref (lc_ad S 202)), (3, .int x3), (4, .int x4)]) dL_borrow_40 (Nat.le_of_ble_eq_true rfl) rfl rfl ?_
          refine lc_aload_n C (pc' := 43) 2 dL_borrow_42 rfl rfl ?_
          refine lc_iconst C (pc' := 44) (v := (1 : Int32)) dL_borrow_43 (by decide) rfl ?_
          refine lc_ld200 C (pc' := 45) (jj := 1) (va_up_self _ _ _) (by decide) (by decide) dL_borrow_44 rfl ?_
          refine lc_iconst C (pc' := 46) (v := (1 : Int32)) dL_borrow_45 (by decide) rfl ?_
          refine lc_isub C (pc' := 47) dL_borrow_46 rfl ?_
          obtain ⟨x7_47, e7_47, h⟩ := lc_let2 h
          rw [e7_47]
          refine lc_istore C (pc' := 49) (lo' := [(7, .int x7_47), (6, .int (-1 : Int32)), (5, .int x5_21), (0, .ref (lc_ad S 200)), (1, .ref (lc_ad S 201)), (2, .ref (lc_ad S 202)), (3, .int x3), (4, .int x4)]) dL_borrow_47 (Nat.le_of_ble_eq_true rfl) rfl rfl ?_
          refine lc_sub (lo' := [(0, .ref (lc_ad S 200)), (1, .ref (lc_ad S 201)), (2, .ref (lc_ad S 202)), (3, .int x3), (4, .int x4), (5, .int x5_21), (6, .int (-1 : Int32)), (7, .int x7_47)]) [3, 4, 5, 6, 7, 2, 1, 0] rfl ?_
          exact w_L_Zborrow_49 C   out (fun x3 x4 s => P_L_borrow_3  n x3 x4 s) ih lc_FU x3 x4 x5_21 (-1 : Int32) x7_47 s h
def P_L_borrow  (x3 : Int32) (s : lc_St) : Option (Int32 × lc_St) :=
  P_L_borrow_3  lc_FU x3 (0 : Int32) s
set_option maxRecDepth 100000 in
set_option maxHeartbeats 4000000 in
theorem c_L_Zborrow (S : lc_Se) (l : Launch) (M : lc_MM)  (x3 : Int32) (s : lc_St) (out : Int32 × lc_St) (h : P_L_borrow x3 s = some out) : lc_MI S l yL_borrow cL_borrow 8 (some .boolean) rm_L_borrow [.ref (lc_ad S 200), .ref (lc_ad S 201), .ref (lc_ad S 202), .int x3] (va_up M 23 s) out.1 (va_up M 23 out.2) := by
  refine lc_mkI (own := RL) pn_RL rfl (Nat.le_of_ble_eq_true rfl) (lo := [(0, .ref (lc_ad S 200)), (1, .ref (lc_ad S 201)), (2, .ref (lc_ad S 202)), (3, .int x3)]) rfl (fun X hX C => ?_)
  rw [P_L_borrow] at h
  refine lc_iconst C (pc' := 1) (v := (0 : Int32)) dL_borrow_0 (by decide) rfl ?_
  refine lc_istore C (pc' := 3) (lo' := [(4, .int (0 : Int32)), (0, .ref (lc_ad S 200)), (1, .ref (lc_ad S 201)), (2, .ref (lc_ad S 202)), (3, .int x3)]) dL_borrow_1 (Nat.le_of_ble_eq_true rfl) rfl rfl ?_
  refine lc_sub (lo' := [(0, .ref (lc_ad S 200)), (1, .ref (lc_ad S 201)), (2, .ref (lc_ad S 202)), (3, .int x3), (4, .int (0 : Int32))]) [1, 2, 3, 4, 0] rfl ?_
  exact w_L_Zborrow_3 C   out  lc_FU x3 (0 : Int32) s h
abbrev rm_L_isDrawn : Room := { frames := 8, cells := 3, slots := 18, locals := 182 }
def P_L_isDrawn_157  (x9 : Int32) (M : lc_MM) : Option (Int32 × lc_MM) :=
  lc_bd2 (P_L_draw x9 M) (fun r162 M1 => if r162 = (2 : Int32) then lc_bd2 (P_L_draw (0 : Int32) M1) (fun r173 M2 => if r173 = (1 : Int32) then some ((1 : Int32), M2) else some ((0 : Int32), M2)) else some ((0 : Int32), M1))
set_option maxRecDepth 100000 in
set_option maxHeartbeats 4000000 in
theorem w_L_isDrawn_157 {S : lc_Se} {X : lc_X} (C : lc_C X cL_isDrawn RL 12 (some .boolean) rm_L_isDrawn) (hl : X.2.1.stackTraces = false)  (out : Int32 × lc_MM)  : ∀ (x9 : Int32) (M : lc_MM), P_L_isDrawn_157  x9 M = some out → lc_J S X 12 0 0 (lc_QI S X 3 18 out.1 out.2) 157 [(0, .ref (lc_ad S 194)), (7, .ref (lc_ad S 203)), (9, .int x9)] [] M := by
  intro x9 M h
  rw [P_L_isDrawn_157] at h
  refine lc_aload_n C (pc' := 158) 0 dL_isDrawn_157 rfl rfl ?_
  refine lc_iload C (pc' := 160) 2 dL_isDrawn_158 rfl rfl ?_
  refine lc_aload C (pc' := 162) 1 dL_isDrawn_160 rfl rfl ?_
  obtain ⟨r162, M1, h162, h⟩ := lc_bd2e h
  refine lc_csW C (pc' := 165) (r := r162) (M' := M1) (As := [.ref (lc_ad S 194), .int x9, .ref (lc_ad S 203)]) (rest := []) (c_L_draw S X.2.1 hl x9 M (r162, M1) h162) kw_L_draw rfl rfl (Nat.le_of_ble_eq_true rfl) ⟨Nat.le_of_ble_eq_true rfl, Nat.le_of_ble_eq_true rfl⟩ ⟨Nat.le_of_ble_eq_true rfl, Nat.le_of_ble_eq_true rfl⟩ dL_isDrawn_162 rfl ?_
  refine lc_iconst C (pc' := 166) (v := (2 : Int32)) dL_isDrawn_165 (by decide) rfl ?_
  refine lc_icmp_ne C (pc' := 169) (tgt := 184) dL_isDrawn_166 (by decide) rfl (fun c166 => ?_) (fun c166 => ?_)
  · have h := (lc_if2 h).2 c166
    refine lc_iconst C (pc' := 185) (v := (0 : Int32)) dL_isDrawn_184 (by decide) rfl ?_
    obtain rfl := Option.some.inj h
    refine lc_wid (k' := 3) (j' := 18) (Nat.le_of_ble_eq_true rfl) (Nat.le_of_ble_eq_true rfl) ?_
    exact lc_zret C rfl (Or.inl rfl) dL_isDrawn_185
  · have h := (lc_if2 h).1 c166
    refine lc_aload_n C (pc' := 170) 0 dL_isDrawn_169 rfl rfl ?_
    refine lc_iconst C (pc' := 171) (v := (0 : Int32)) dL_isDrawn_170 (by decide) rfl ?_
    refine lc_aload C (pc' := 173) 1 dL_isDrawn_171 rfl rfl ?_
    obtain ⟨r173, M2, h173, h⟩ := lc_bd2e h
    refine lc_csW C (pc' := 176) (r := r173) (M' := M2) (As := [.ref (lc_ad S 194), .int (0 : Int32), .ref (lc_ad S 203)]) (rest := []) (c_L_draw S X.2.1 hl (0 : Int32) M1 (r173, M2) h173) kw_L_draw rfl rfl (Nat.le_of_ble_eq_true rfl) ⟨Nat.le_of_ble_eq_true rfl, Nat.le_of_ble_eq_true rfl⟩ ⟨Nat.le_of_ble_eq_true rfl, Nat.le_of_ble_eq_true rfl⟩ dL_isDrawn_173 rfl ?_
    refine lc_iconst C (pc' := 177) (v := (1 : Int32)) dL_isDrawn_176 (by decide) rfl ?_
    refine lc_icmp_ne C (pc' := 180) (tgt := 184) dL_isDrawn_177 (by decide) rfl (fun c177 => ?_) (fun c177 => ?_)
    · have h := (lc_if2 h).2 c177
      refine lc_iconst C (pc' := 185) (v := (0 : Int32)) dL_isDrawn_184 (by decide) rfl ?_
      obtain rfl := Option.some.inj h
      refine lc_wid (k' := 3) (j' := 18) (Nat.le_of_ble_eq_true rfl) (Nat.le_of_ble_eq_true rfl) ?_
      exact lc_zret C rfl (Or.inl rfl) dL_isDrawn_185
    · have h := (lc_if2 h).1 c177
      refine lc_iconst C (pc' := 181) (v := (1 : Int32)) dL_isDrawn_180 (by decide) rfl ?_
      refine lc_goto C (tgt := 185) dL_isDrawn_181 (by decide) ?_
      obtain rfl := Option.some.inj h
      refine lc_wid (k' := 3) (j' := 18) (Nat.le_of_ble_eq_true rfl) (Nat.le_of_ble_eq_true rfl) ?_
      exact lc_zret C rfl (Or.inr rfl) dL_isDrawn_185
def P_L_isDrawn_298 (K264 : Int32 → Int32 → Int32 → lc_MM → Option (Int32 × lc_MM)) (x9 : Int32) (x10 : Int32) (x11 : Int32) (t1 : Int32) (t2 : Int32) (t3 : Int32) (M : lc_MM) : Option (Int32 × lc_MM) :=
  lc_if (lc_ok t1 30) (lc_let (lc_ss (M 22) 1 (t1.toNatClampNeg) (t2 - t3)) (fun s8 => lc_let (va_up M 22 s8) (fun M9 => lc_let (x11 + (1 : Int32)) (fun x11_300 => K264 x9 x10 x11_300 M9))))
set_option maxRecDepth 100000 in
set_option maxHeartbeats 4000000 in
theorem w_L_isDrawn_298 {S : lc_Se} {X : lc_X} (C : lc_C X cL_isDrawn RL 12 (some .boolean) rm_L_isDrawn) (hl : X.2.1.stackTraces = false)  (out : Int32 × lc_MM) (K264 : Int32 → Int32 → Int32 → lc_MM → Option (Int32 × lc_MM)) (hK264 : ∀ (x9 : Int32) (x10 : Int32) (x11 : Int32) (M : lc_MM), K264 x9 x10 x11 M = some out → lc_J S X 12 0 0 (lc_QI S X 3 18 out.1 out.2) 264 [(0, .ref (lc_ad S 194)), (1, .ref (lc_ad S 197)), (2, .ref (lc_ad S 198)), (7, .ref (lc_ad S 203)), (9, .int x9), (10, .int x10), (11, .int x11)] [] M) : ∀ (x9 : Int32) (x10 : Int32) (x11 : Int32) (t1 : Int32) (t2 : Int32) (t3 : Int32) (M : lc_MM), P_L_isDrawn_298 K264 x9 x10 x11 t1 t2 t3 M = some out → lc_J S X 12 0 0 (lc_QI S X 3 18 out.1 out.2) 298 [(0, .ref (lc_ad S 194)), (1, .ref (lc_ad S 197)), (2, .ref (lc_ad S 198)), (7, .ref (lc_ad S 203)), (9, .int x9), (10, .int x10), (11, .int x11)] [.int t3, .int t2, .int t1, .ref (lc_ad S 198)] M := by
  intro x9 x10 x11 t1 t2 t3 M h
  rw [P_L_isDrawn_298] at h
  refine lc_isub C (pc' := 299) dL_isDrawn_298 rfl ?_
  obtain ⟨hi299, h⟩ := lc_ife h
  obtain ⟨s8, es8, h⟩ := lc_let2 h
  obtain ⟨M9, eM9, h⟩ := lc_let2 h
  refine lc_sd198 C (pc' := 300) (jj := t1.toNatClampNeg) (M' := M9) rfl hi299 rfl es8 eM9 dL_isDrawn_299 rfl ?_
  obtain ⟨x11_300, e11_300, h⟩ := lc_let2 h
  refine lc_iinc C (pc' := 303) (lo' := [(11, .int x11_300), (0, .ref (lc_ad S 194)), (1, .ref (lc_ad S 197)), (2, .ref (lc_ad S 198)), (7, .ref (lc_ad S 203)), (9, .int x9), (10, .int x10)]) (q := 6) dL_isDrawn_300 rfl (by rw [← e11_300]; rfl) (Nat.le_of_ble_eq_true rfl) rfl rfl ?_
  refine lc_goto C (tgt := 264) dL_isDrawn_303 (by decide) ?_
  refine lc_sub (lo' := [(0, .ref (lc_ad S 194)), (1, .ref (lc_ad S 197)), (2, .ref (lc_ad S 198)), (7, .ref (lc_ad S 203)), (9, .int x9), (10, .int x10), (11, .int x11_300)]) [1, 2, 3, 4, 5, 6, 0] rfl ?_
  exact hK264 x9 x10 x11_300 M9 h
def P_L_isDrawn_264  : Nat → Int32 → Int32 → Int32 → lc_MM → Option (Int32 × lc_MM)
  | 0, _, _, _, _ => none
  | n + 1, x9, x10, x11, M =>
    if ((M 22) 0 1) ≤ x11 then lc_let (lc_ss (M 22) 0 4 (((M 22) 0 4) + (x9 * x10))) (fun s5 => lc_let (va_up M 22 s5) (fun M6 => lc_bd2 (P_L_draw x9 M6) (fun r322 M7 => if r322 = 0 then if ((M7 24) 0 0) = (x9 * x10) then some ((1 : Int32), M7) else some ((0 : Int32), M7) else some ((0 : Int32), M7)))) else lc_if (lc_ok (((5 : Int32) * x11) + (1 : Int32)) 30) (lc_if (lc_ok (((5 : Int32) * x11) + (4 : Int32)) 30) (if ((M 22) 1 (((5 : Int32) * x11) + (4 : Int32)).toNatClampNeg) = 0 then P_L_isDrawn_298 (fun x9 x10 x11 M => P_L_isDrawn_264  n x9 x10 x11 M)  x9 x10 x11 (((5 : Int32) * x11) + (1 : Int32)) ((M 22) 1 (((5 : Int32) * x11) + (1 : Int32)).toNatClampNeg) x9 M else P_L_isDrawn_298 (fun x9 x10 x11 M => P_L_isDrawn_264  n x9 x10 x11 M)  x9 x10 x11 (((5 : Int32) * x11) + (1 : Int32)) ((M 22) 1 (((5 : Int32) * x11) + (1 : Int32)).toNatClampNeg) (0 : Int32) M))
set_option maxRecDepth 100000 in
set_option maxHeartbeats 4000000 in
theorem w_L_isDrawn_264 {S : lc_Se} {X : lc_X} (C : lc_C X cL_isDrawn RL 12 (some .boolean) rm_L_isDrawn) (hl : X.2.1.stackTraces = false)  (out : Int32 × lc_MM)  : ∀ (n : Nat) (x9 : Int32) (x10 : Int32) (x11 : Int32) (M : lc_MM), P_L_isDrawn_264  n x9 x10 x11 M = some out → lc_J S X 12 0 0 (lc_QI S X 3 18 out.1 out.2) 264 [(0, .ref (lc_ad S 194)), (1, .ref (lc_ad S 197)), (2, .ref (lc_ad S 198)), (7, .ref (lc_ad S 203)), (9, .int x9), (10, .int x10), (11, .int x11)] [] M := by
  intro n
  induction n with
  | zero =>
    intro x9 x10 x11 M h
    rw [P_L_isDrawn_264] at h
    cases h
  | succ n ih =>
    intro x9 x10 x11 M h
    rw [P_L_isDrawn_264] at h
    refine lc_iload C (pc' := 266) 6 dL_isDrawn_264 rfl rfl ?_
    refine lc_aload_n C (pc' := 267) 1 dL_isDrawn_266 rfl rfl ?_
    refine lc_iconst C (pc' := 268) (v := (1 : Int32)) dL_isDrawn_267 (by decide) rfl ?_
    refine lc_ld197 C (pc' := 269) (jj := 1) rfl (by decide) (by decide) dL_isDrawn_268 rfl ?_
    refine lc_icmp_ge C (pc' := 272) (tgt := 306) dL_isDrawn_269 (by decide) rfl (fun c269 => ?_) (fun c269 => ?_)
    · have h := (lc_if2 h).1 c269
      refine lc_aload_n C (pc' := 307) 1 dL_isDrawn_306 rfl rfl ?_
      refine lc_iconst C (pc' := 308) (v := (4 : Int32)) dL_isDrawn_307 (by decide) rfl ?_
      refine lc_dup2 C (pc' := 309) dL_isDrawn_308 rfl rfl rfl ?_
      refine lc_ld197 C (pc' := 310) (jj := 4) rfl (by decide) (by decide) dL_isDrawn_309 rfl ?_
      refine lc_iload C (pc' := 312) 4 dL_isDrawn_310 rfl rfl ?_
      refine lc_iload C (pc' := 314) 5 dL_isDrawn_312 rfl rfl ?_
      refine lc_imul C (pc' := 315) dL_isDrawn_314 rfl ?_
      refine lc_iadd C (pc' := 316) dL_isDrawn_315 rfl ?_
      obtain ⟨s5, es5, h⟩ := lc_let2 h
      obtain ⟨M6, eM6, h⟩ := lc_let2 h
      refine lc_sd197 C (pc' := 317) (jj := 4) (M' := M6) rfl (by decide) (by decide) es5 eM6 dL_isDrawn_316 rfl ?_
      refine lc_aload_n C (pc' := 318) 0 dL_isDrawn_317 rfl rfl ?_
      refine lc_iload C (pc' := 320) 4 dL_isDrawn_318 rfl rfl ?_
      refine lc_aload C (pc' := 322) 3 dL_isDrawn_320 rfl rfl ?_
      obtain ⟨r322, M7, h322, h⟩ := lc_bd2e h
      refine lc_csW C (pc' := 325) (r := r322) (M' := M7) (As := [.ref (lc_ad S 194), .int x9, .ref (lc_ad S 203)]) (rest := []) (c_L_draw S X.2.1 hl x9 M6 (r322, M7) h322) kw_L_draw rfl rfl (Nat.le_of_ble_eq_true rfl) ⟨Nat.le_of_ble_eq_true rfl, Nat.le_of_ble_eq_true rfl⟩ ⟨Nat.le_of_ble_eq_true rfl, Nat.le_of_ble_eq_true rfl⟩ dL_isDrawn_322 rfl ?_
      refine lc_if_ne C (pc' := 328) (tgt := 344) dL_isDrawn_325 (by decide) rfl (fun c325 => ?_) (fun c325 => ?_)
      · have h := (lc_if2 h).2 c325
        refine lc_iconst C (pc' := 345) (v := (0 : Int32)) dL_isDrawn_344 (by decide) rfl ?_
        obtain rfl := Option.some.inj h
        refine lc_wid (k' := 3) (j' := 18) (Nat.le_of_ble_eq_true rfl) (Nat.le_of_ble_eq_true rfl) ?_
        exact lc_zret C rfl (Or.inl rfl) dL_isDrawn_345
      · have h := (lc_if2 h).1 c325
        refine lc_aload C (pc' := 330) 3 dL_isDrawn_328 rfl rfl ?_
        refine lc_iconst C (pc' := 331) (v := (0 : Int32)) dL_isDrawn_330 (by decide) rfl ?_
        refine lc_ld203 C (pc' := 332) (jj := 0) rfl (by decide) (by decide) dL_isDrawn_331 rfl ?_
        refine lc_iload C (pc' := 334) 4 dL_isDrawn_332 rfl rfl ?_
        refine lc_iload C (pc' := 336) 5 dL_isDrawn_334 rfl rfl ?_
        refine lc_imul C (pc' := 337) dL_isDrawn_336 rfl ?_
        refine lc_icmp_ne C (pc' := 340) (tgt := 344) dL_isDrawn_337 (by decide) rfl (fun c337 => ?_) (fun c337 => ?_)
        · have h := (lc_if2 h).2 c337
          refine lc_iconst C (pc' := 345) (v := (0 : Int32)) dL_isDrawn_344 (by decide) rfl ?_
          obtain rfl := Option.some.inj h
          refine lc_wid (k' := 3) (j' := 18) (Nat.le_of_ble_eq_true rfl) (Nat.le_of_ble_eq_true rfl) ?_
          exact lc_zret C rfl (Or.inl rfl) dL_isDrawn_345
        · have h := (lc_if2 h).1 c337
          refine lc_iconst C (pc' := 341) (v := (1 : Int32)) dL_isDrawn_340 (by decide) rfl ?_
          refine lc_goto C (tgt := 345) dL_isDrawn_341 (by decide) ?_
          obtain rfl := Option.some.inj h
          refine lc_wid (k' := 3) (j' := 18) (Nat.le_of_ble_eq_true rfl) (Nat.le_of_ble_eq_true rfl) ?_
          exact lc_zret C rfl (Or.inr rfl) dL_isDrawn_345
    · have h := (lc_if2 h).2 c269
      refine lc_aload_n C (pc' := 273) 2 dL_isDrawn_272 rfl rfl ?_
      refine lc_iconst C (pc' := 274) (v := (5 : Int32)) dL_isDrawn_273 (by decide) rfl ?_
      refine lc_iload C (pc' := 276) 6 dL_isDrawn_274 rfl rfl ?_
      refine lc_imul C (pc' := 277) dL_isDrawn_276 rfl ?_
      refine lc_iconst C (pc' := 278) (v := (1 : Int32)) dL_isDrawn_277 (by decide) rfl ?_
      refine lc_iadd C (pc' := 279) dL_isDrawn_278 rfl ?_
      refine lc_dup2 C (pc' := 280) dL_isDrawn_279 rfl rfl rfl ?_
      obtain ⟨hi280, h⟩ := lc_ife h
      refine lc_ld198 C (pc' := 281) (jj := (((5 : Int32) * x11) + (1 : Int32)).toNatClampNeg) rfl hi280 rfl dL_isDrawn_280 rfl ?_
      refine lc_aload_n C (pc' := 282) 2 dL_isDrawn_281 rfl rfl ?_
      refine lc_iconst C (pc' := 283) (v := (5 : Int32)) dL_isDrawn_282 (by decide) rfl ?_
      refine lc_iload C (pc' := 285) 6 dL_isDrawn_283 rfl rfl ?_
      refine lc_imul C (pc' := 286) dL_isDrawn_285 rfl ?_
      refine lc_iconst C (pc' := 287) (v := (4 : Int32)) dL_isDrawn_286 (by decide) rfl ?_
      refine lc_iadd C (pc' := 288) dL_isDrawn_287 rfl ?_
      obtain ⟨hi288, h⟩ := lc_ife h
      refine lc_ld198 C (pc' := 289) (jj := (((5 : Int32) * x11) + (4 : Int32)).toNatClampNeg) rfl hi288 rfl dL_isDrawn_288 rfl ?_
      refine lc_if_ne C (pc' := 292) (tgt := 297) dL_isDrawn_289 (by decide) rfl (fun c289 => ?_) (fun c289 => ?_)
      · have h := (lc_if2 h).2 c289
        refine lc_iconst C (pc' := 298) (v := (0 : Int32)) dL_isDrawn_297 (by decide) rfl ?_
        exact w_L_isDrawn_298 C hl  out (fun x9 x10 x11 M => P_L_isDrawn_264  n x9 x10 x11 M) ih  x9 x10 x11 (((5 : Int32) * x11) + (1 : Int32)) ((M 22) 1 (((5 : Int32) * x11) + (1 : Int32)).toNatClampNeg) (0 : Int32) M h
      · have h := (lc_if2 h).1 c289
        refine lc_iload C (pc' := 294) 4 dL_isDrawn_292 rfl rfl ?_
        refine lc_goto C (tgt := 298) dL_isDrawn_294 (by decide) ?_
        exact w_L_isDrawn_298 C hl  out (fun x9 x10 x11 M => P_L_isDrawn_264  n x9 x10 x11 M) ih  x9 x10 x11 (((5 : Int32) * x11) + (1 : Int32)) ((M 22) 1 (((5 : Int32) * x11) + (1 : Int32)).toNatClampNeg) x9 M h
def P_L_isDrawn_239  : Nat → Int32 → Int32 → Int32 → lc_MM → Option (Int32 × lc_MM)
  | 0, _, _, _, _ => none
  | n + 1, x9, x10, x11, M =>
    if (30 : Int32) ≤ x11 then P_L_isDrawn_264  lc_FU x9 x10 (0 : Int32) M else lc_if (lc_ok x11 30) (lc_if (lc_ok x11 30) (lc_let (lc_ss (M 22) 1 (x11.toNatClampNeg) ((M 23) 1 x11.toNatClampNeg)) (fun s10 => lc_let (va_up M 22 s10) (fun M11 => lc_let (x11 + (1 : Int32)) (fun x11_255 => P_L_isDrawn_239  n x9 x10 x11_255 M11)))))
set_option maxRecDepth 100000 in
set_option maxHeartbeats 4000000 in
theorem w_L_isDrawn_239 {S : lc_Se} {X : lc_X} (C : lc_C X cL_isDrawn RL 12 (some .boolean) rm_L_isDrawn) (hl : X.2.1.stackTraces = false)  (out : Int32 × lc_MM)  : ∀ (n : Nat) (x9 : Int32) (x10 : Int32) (x11 : Int32) (M : lc_MM), P_L_isDrawn_239  n x9 x10 x11 M = some out → lc_J S X 12 0 0 (lc_QI S X 3 18 out.1 out.2) 239 [(0, .ref (lc_ad S 194)), (1, .ref (lc_ad S 197)), (2, .ref (lc_ad S 198)), (5, .ref (lc_ad S 201)), (7, .ref (lc_ad S 203)), (9, .int x9), (10, .int x10), (11, .int x11)] [] M := by
  intro n
  induction n with
  | zero =>
    intro x9 x10 x11 M h
    rw [P_L_isDrawn_239] at h
    cases h
  | succ n ih =>
    intro x9 x10 x11 M h
    rw [P_L_isDrawn_239] at h
    refine lc_iload C (pc' := 241) 7 dL_isDrawn_239 rfl rfl ?_
    refine lc_bipush C (pc' := 243) (v := (30 : Int32)) dL_isDrawn_241 (by decide) rfl ?_
    refine lc_icmp_ge C (pc' := 246) (tgt := 261) dL_isDrawn_243 (by decide) rfl (fun c243 => ?_) (fun c243 => ?_)
    · have h := (lc_if2 h).1 c243
      refine lc_iconst C (pc' := 262) (v := (0 : Int32)) dL_isDrawn_261 (by decide) rfl ?_
      refine lc_istore C (pc' := 264) (lo' := [(11, .int (0 : Int32)), (0, .ref (lc_ad S 194)), (1, .ref (lc_ad S 197)), (2, .ref (lc_ad S 198)), (5, .ref (lc_ad S 201)), (7, .ref (lc_ad S 203)), (9, .int x9), (10, .int x10)]) dL_isDrawn_262 (Nat.le_of_ble_eq_true rfl) rfl rfl ?_
      refine lc_sub (lo' := [(0, .ref (lc_ad S 194)), (1, .ref (lc_ad S 197)), (2, .ref (lc_ad S 198)), (7, .ref (lc_ad S 203)), (9, .int x9), (10, .int x10), (11, .int (0 : Int32))]) [1, 2, 3, 5, 6, 7, 0] rfl ?_
      exact w_L_isDrawn_264 C hl  out  lc_FU x9 x10 (0 : Int32) M h
    · have h := (lc_if2 h).2 c243
      refine lc_aload_n C (pc' := 247) 2 dL_isDrawn_246 rfl rfl ?_
      refine lc_iload C (pc' := 249) 7 dL_isDrawn_247 rfl rfl ?_
      refine lc_aload C (pc' := 251) 3 dL_isDrawn_249 rfl rfl ?_
      refine lc_iload C (pc' := 253) 7 dL_isDrawn_251 rfl rfl ?_
      obtain ⟨hi253, h⟩ := lc_ife h
      refine lc_ld201 C (pc' := 254) (jj := x11.toNatClampNeg) rfl hi253 rfl dL_isDrawn_253 rfl ?_
      obtain ⟨hi254, h⟩ := lc_ife h
      obtain ⟨s10, es10, h⟩ := lc_let2 h
      obtain ⟨M11, eM11, h⟩ := lc_let2 h
      refine lc_sd198 C (pc' := 255) (jj := x11.toNatClampNeg) (M' := M11) rfl hi254 rfl es10 eM11 dL_isDrawn_254 rfl ?_
      obtain ⟨x11_255, e11_255, h⟩ := lc_let2 h
      refine lc_iinc C (pc' := 258) (lo' := [(11, .int x11_255), (0, .ref (lc_ad S 194)), (1, .ref (lc_ad S 197)), (2, .ref (lc_ad S 198)), (5, .ref (lc_ad S 201)), (7, .ref (lc_ad S 203)), (9, .int x9), (10, .int x10)]) (q := 7) dL_isDrawn_255 rfl (by rw [← e11_255]; rfl) (Nat.le_of_ble_eq_true rfl) rfl rfl ?_
      refine lc_goto C (tgt := 239) dL_isDrawn_258 (by decide) ?_
      refine lc_sub (lo' := [(0, .ref (lc_ad S 194)), (1, .ref (lc_ad S 197)), (2, .ref (lc_ad S 198)), (5, .ref (lc_ad S 201)), (7, .ref (lc_ad S 203)), (9, .int x9), (10, .int x10), (11, .int x11_255)]) [1, 2, 3, 4, 5, 6, 7, 0] rfl ?_
      exact ih x9 x10 x11_255 M11 h
def P_L_isDrawn_214  : Nat → Int32 → Int32 → Int32 → lc_MM → Option (Int32 × lc_MM)
  | 0, _, _, _, _ => none
  | n + 1, x9, x10, x11, M =>
    if (60 : Int32) ≤ x11 then P_L_isDrawn_239  lc_FU x9 x10 (0 : Int32) M else lc_if (lc_ok x11 60) (lc_if (lc_ok x11 60) (lc_let (lc_ss (M 22) 2 (x11.toNatClampNeg) ((M 23) 2 x11.toNatClampNeg)) (fun s12 => lc_let (va_up M 22 s12) (fun M13 => lc_let (x11 + (1 : Int32)) (fun x11_230 => P_L_isDrawn_214  n x9 x10 x11_230 M13)))))
set_option maxRecDepth 100000 in
set_option maxHeartbeats 4000000 in
theorem w_L_isDrawn_214 {S : lc_Se} {X : lc_X} (C : lc_C X cL_isDrawn RL 12 (some .boolean) rm_L_isDrawn) (hl : X.2.1.stackTraces = false)  (out : Int32 × lc_MM)  : ∀ (n : Nat) (x9 : Int32) (x10 : Int32) (x11 : Int32) (M : lc_MM), P_L_isDrawn_214  n x9 x10 x11 M = some out → lc_J S X 12 0 0 (lc_QI S X 3 18 out.1 out.2) 214 [(0, .ref (lc_ad S 194)), (1, .ref (lc_ad S 197)), (2, .ref (lc_ad S 198)), (3, .ref (lc_ad S 199)), (5, .ref (lc_ad S 201)), (6, .ref (lc_ad S 202)), (7, .ref (lc_ad S 203)), (9, .int x9), (10, .int x10), (11, .int x11)] [] M := by
  intro n
  induction n with
  | zero =>
    intro x9 x10 x11 M h
    rw [P_L_isDrawn_214] at h
    cases h
  | succ n ih =>
    intro x9 x10 x11 M h
    rw [P_L_isDrawn_214] at h
    refine lc_iload C (pc' := 216) 9 dL_isDrawn_214 rfl rfl ?_
    refine lc_bipush C (pc' := 218) (v := (60 : Int32)) dL_isDrawn_216 (by decide) rfl ?_
    refine lc_icmp_ge C (pc' := 221) (tgt := 236) dL_isDrawn_218 (by decide) rfl (fun c218 => ?_) (fun c218 => ?_)
    · have h := (lc_if2 h).1 c218
      refine lc_iconst C (pc' := 237) (v := (0 : Int32)) dL_isDrawn_236 (by decide) rfl ?_
      refine lc_istore C (pc' := 239) (lo' := [(11, .int (0 : Int32)), (0, .ref (lc_ad S 194)), (1, .ref (lc_ad S 197)), (2, .ref (lc_ad S 198)), (3, .ref (lc_ad S 199)), (5, .ref (lc_ad S 201)), (6, .ref (lc_ad S 202)), (7, .ref (lc_ad S 203)), (9, .int x9), (10, .int x10)]) dL_isDrawn_237 (Nat.le_of_ble_eq_true rfl) rfl rfl ?_
      refine lc_sub (lo' := [(0, .ref (lc_ad S 194)), (1, .ref (lc_ad S 197)), (2, .ref (lc_ad S 198)), (5, .ref (lc_ad S 201)), (7, .ref (lc_ad S 203)), (9, .int x9), (10, .int x10), (11, .int (0 : Int32))]) [1, 2, 3, 5, 7, 8, 9, 0] rfl ?_
      exact w_L_isDrawn_239 C hl  out  lc_FU x9 x10 (0 : Int32) M h
    · have h := (lc_if2 h).2 c218
      refine lc_aload_n C (pc' := 222) 3 dL_isDrawn_221 rfl rfl ?_
      refine lc_iload C (pc' := 224) 9 dL_isDrawn_222 rfl rfl ?_
      refine lc_aload C (pc' := 226) 5 dL_isDrawn_224 rfl rfl ?_
      refine lc_iload C (pc' := 228) 9 dL_isDrawn_226 rfl rfl ?_
      obtain ⟨hi228, h⟩ := lc_ife h
      refine lc_ld202 C (pc' := 229) (jj := x11.toNatClampNeg) rfl hi228 rfl dL_isDrawn_228 rfl ?_
      obtain ⟨hi229, h⟩ := lc_ife h
      obtain ⟨s12, es12, h⟩ := lc_let2 h
      obtain ⟨M13, eM13, h⟩ := lc_let2 h
      refine lc_sd199 C (pc' := 230) (jj := x11.toNatClampNeg) (M' := M13) rfl hi229 rfl es12 eM13 dL_isDrawn_229 rfl ?_
      obtain ⟨x11_230, e11_230, h⟩ := lc_let2 h
      refine lc_iinc C (pc' := 233) (lo' := [(11, .int x11_230), (0, .ref (lc_ad S 194)), (1, .ref (lc_ad S 197)), (2, .ref (lc_ad S 198)), (3, .ref (lc_ad S 199)), (5, .ref (lc_ad S 201)), (6, .ref (lc_ad S 202)), (7, .ref (lc_ad S 203)), (9, .int x9), (10, .int x10)]) (q := 9) dL_isDrawn_230 rfl (by rw [← e11_230]; rfl) (Nat.le_of_ble_eq_true rfl) rfl rfl ?_
      refine lc_goto C (tgt := 214) dL_isDrawn_233 (by decide) ?_
      refine lc_sub (lo' := [(0, .ref (lc_ad S 194)), (1, .ref (lc_ad S 197)), (2, .ref (lc_ad S 198)), (3, .ref (lc_ad S 199)), (5, .ref (lc_ad S 201)), (6, .ref (lc_ad S 202)), (7, .ref (lc_ad S 203)), (9, .int x9), (10, .int x10), (11, .int x11_230)]) [1, 2, 3, 4, 5, 6, 7, 8, 9, 0] rfl ?_
      exact ih x9 x10 x11_230 M13 h
def P_L_isDrawn_189  : Nat → Int32 → Int32 → Int32 → lc_MM → Option (Int32 × lc_MM)
  | 0, _, _, _, _ => none
  | n + 1, x9, x10, x11, M =>
    if (7 : Int32) ≤ x11 then P_L_isDrawn_214  lc_FU x9 x10 (0 : Int32) M else lc_if (lc_ok x11 7) (lc_if (lc_ok x11 7) (lc_let (lc_ss (M 22) 0 (x11.toNatClampNeg) ((M 23) 0 x11.toNatClampNeg)) (fun s14 => lc_let (va_up M 22 s14) (fun M15 => lc_let (x11 + (1 : Int32)) (fun x11_205 => P_L_isDrawn_189  n x9 x10 x11_205 M15)))))
set_option maxRecDepth 100000 in
set_option maxHeartbeats 4000000 in
theorem w_L_isDrawn_189 {S : lc_Se} {X : lc_X} (C : lc_C X cL_isDrawn RL 12 (some .boolean) rm_L_isDrawn) (hl : X.2.1.stackTraces = false)  (out : Int32 × lc_MM)  : ∀ (n : Nat) (x9 : Int32) (x10 : Int32) (x11 : Int32) (M : lc_MM), P_L_isDrawn_189  n x9 x10 x11 M = some out → lc_J S X 12 0 0 (lc_QI S X 3 18 out.1 out.2) 189 [(0, .ref (lc_ad S 194)), (1, .ref (lc_ad S 197)), (2, .ref (lc_ad S 198)), (3, .ref (lc_ad S 199)), (4, .ref (lc_ad S 200)), (5, .ref (lc_ad S 201)), (6, .ref (lc_ad S 202)), (7, .ref (lc_ad S 203)), (9, .int x9), (10, .int x10), (11, .int x11)] [] M := by
  intro n
  induction n with
  | zero =>
    intro x9 x10 x11 M h
    rw [P_L_isDrawn_189] at h
    cases h
  | succ n ih =>
    intro x9 x10 x11 M h
    rw [P_L_isDrawn_189] at h
    refine lc_iload C (pc' := 191) 10 dL_isDrawn_189 rfl rfl ?_
    refine lc_bipush C (pc' := 193) (v := (7 : Int32)) dL_isDrawn_191 (by decide) rfl ?_
    refine lc_icmp_ge C (pc' := 196) (tgt := 211) dL_isDrawn_193 (by decide) rfl (fun c193 => ?_) (fun c193 => ?_)
    · have h := (lc_if2 h).1 c193
      refine lc_iconst C (pc' := 212) (v := (0 : Int32)) dL_isDrawn_211 (by decide) rfl ?_
      refine lc_istore C (pc' := 214) (lo' := [(11, .int (0 : Int32)), (0, .ref (lc_ad S 194)), (1, .ref (lc_ad S 197)), (2, .ref (lc_ad S 198)), (3, .ref (lc_ad S 199)), (4, .ref (lc_ad S 200)), (5, .ref (lc_ad S 201)), (6, .ref (lc_ad S 202)), (7, .ref (lc_ad S 203)), (9, .int x9), (10, .int x10)]) dL_isDrawn_212 (Nat.le_of_ble_eq_true rfl) rfl rfl ?_
      refine lc_sub (lo' := [(0, .ref (lc_ad S 194)), (1, .ref (lc_ad S 197)), (2, .ref (lc_ad S 198)), (3, .ref (lc_ad S 199)), (5, .ref (lc_ad S 201)), (6, .ref (lc_ad S 202)), (7, .ref (lc_ad S 203)), (9, .int x9), (10, .int x10), (11, .int (0 : Int32))]) [1, 2, 3, 4, 6, 7, 8, 9, 10, 0] rfl ?_
      exact w_L_isDrawn_214 C hl  out  lc_FU x9 x10 (0 : Int32) M h
    · have h := (lc_if2 h).2 c193
      refine lc_aload_n C (pc' := 197) 1 dL_isDrawn_196 rfl rfl ?_
      refine lc_iload C (pc' := 199) 10 dL_isDrawn_197 rfl rfl ?_
      refine lc_aload C (pc' := 201) 4 dL_isDrawn_199 rfl rfl ?_
      refine lc_iload C (pc' := 203) 10 dL_isDrawn_201 rfl rfl ?_
      obtain ⟨hi203, h⟩ := lc_ife h
      refine lc_ld200 C (pc' := 204) (jj := x11.toNatClampNeg) rfl hi203 rfl dL_isDrawn_203 rfl ?_
      obtain ⟨hi204, h⟩ := lc_ife h
      obtain ⟨s14, es14, h⟩ := lc_let2 h
      obtain ⟨M15, eM15, h⟩ := lc_let2 h
      refine lc_sd197 C (pc' := 205) (jj := x11.toNatClampNeg) (M' := M15) rfl hi204 rfl es14 eM15 dL_isDrawn_204 rfl ?_
      obtain ⟨x11_205, e11_205, h⟩ := lc_let2 h
      refine lc_iinc C (pc' := 208) (lo' := [(11, .int x11_205), (0, .ref (lc_ad S 194)), (1, .ref (lc_ad S 197)), (2, .ref (lc_ad S 198)), (3, .ref (lc_ad S 199)), (4, .ref (lc_ad S 200)), (5, .ref (lc_ad S 201)), (6, .ref (lc_ad S 202)), (7, .ref (lc_ad S 203)), (9, .int x9), (10, .int x10)]) (q := 10) dL_isDrawn_205 rfl (by rw [← e11_205]; rfl) (Nat.le_of_ble_eq_true rfl) rfl rfl ?_
      refine lc_goto C (tgt := 189) dL_isDrawn_208 (by decide) ?_
      refine lc_sub (lo' := [(0, .ref (lc_ad S 194)), (1, .ref (lc_ad S 197)), (2, .ref (lc_ad S 198)), (3, .ref (lc_ad S 199)), (4, .ref (lc_ad S 200)), (5, .ref (lc_ad S 201)), (6, .ref (lc_ad S 202)), (7, .ref (lc_ad S 203)), (9, .int x9), (10, .int x10), (11, .int x11_205)]) [1, 2, 3, 4, 5, 6, 7, 8, 9, 10, 0] rfl ?_
      exact ih x9 x10 x11_205 M15 h
def P_L_isDrawn_109  : Nat → Int32 → Int32 → Int32 → lc_MM → Option (Int32 × lc_MM)
  | 0, _, _, _, _ => none
  | n + 1, x9, x10, x11, M =>
    if ((M 22) 0 1) ≤ x11 then if x10 = 0 then P_L_isDrawn_157   x9 M else lc_bd2 (P_L_borrow x9 (M 23)) (fun r151 s3 => lc_let (va_up M 23 s3) (fun M4 => if r151 = 0 then P_L_isDrawn_157   x9 M4 else P_L_isDrawn_189  lc_FU x9 x10 (0 : Int32) M4)) else lc_if (lc_ok (((5 : Int32) * x11) + (4 : Int32)) 30) (lc_let (x10 + ((1 : Int32) - ((M 22) 1 (((5 : Int32) * x11) + (4 : Int32)).toNatClampNeg))) (fun x10_130 => lc_let (x11 + (1 : Int32)) (fun x11_132 => P_L_isDrawn_109  n x9 x10_130 x11_132 M)))
set_option maxRecDepth 100000 in
set_option maxHeartbeats 4000000 in
theorem w_L_isDrawn_109 {S : lc_Se} {X : lc_X} (C : lc_C X cL_isDrawn RL 12 (some .boolean) rm_L_isDrawn) (hl : X.2.1.stackTraces = false)  (out : Int32 × lc_MM)  : ∀ (n : Nat) (x9 : Int32) (x10 : Int32) (x11 : Int32) (M : lc_MM), P_L_isDrawn_109  n x9 x10 x11 M = some out → lc_J S X 12 0 0 (lc_QI S X 3 18 out.1 out.2) 109 [(0, .ref (lc_ad S 194)), (1, .ref (lc_ad S 197)), (2, .ref (lc_ad S 198)), (3, .ref (lc_ad S 199)), (4, .ref (lc_ad S 200)), (5, .ref (lc_ad S 201)), (6, .ref (lc_ad S 202)), (7, .ref (lc_ad S 203)), (9, .int x9), (10, .int x10), (11, .int x11)] [] M := by
  intro n
  induction n with
  | zero =>
    intro x9 x10 x11 M h
    rw [P_L_isDrawn_109] at h
    cases h
  | succ n ih =>
    intro x9 x10 x11 M h
    rw [P_L_isDrawn_109] at h
    refine lc_iload C (pc' := 111) 10 dL_isDrawn_109 rfl rfl ?_
    refine lc_aload_n C (pc' := 112) 1 dL_isDrawn_111 rfl rfl ?_
    refine lc_iconst C (pc' := 113) (v := (1 : Int32)) dL_isDrawn_112 (by decide) rfl ?_
    refine lc_ld197 C (pc' := 114) (jj := 1) rfl (by decide) (by decide) dL_isDrawn_113 rfl ?_
    refine lc_icmp_ge C (pc' := 117) (tgt := 138) dL_isDrawn_114 (by decide) rfl (fun c114 => ?_) (fun c114 => ?_)
    · have h := (lc_if2 h).1 c114
      refine lc_iload C (pc' := 140) 9 dL_isDrawn_138 rfl rfl ?_
      refine lc_if_eq C (pc' := 143) (tgt := 157) dL_isDrawn_140 (by decide) rfl (fun c140 => ?_) (fun c140 => ?_)
      · have h := (lc_if2 h).1 c140
        refine lc_sub (lo' := [(0, .ref (lc_ad S 194)), (7, .ref (lc_ad S 203)), (9, .int x9)]) [0, 7, 8] rfl ?_
        exact w_L_isDrawn_157 C hl  out   x9 M h
      · have h := (lc_if2 h).2 c140
        refine lc_aload C (pc' := 145) 4 dL_isDrawn_143 rfl rfl ?_
        refine lc_aload C (pc' := 147) 5 dL_isDrawn_145 rfl rfl ?_
        refine lc_aload C (pc' := 149) 6 dL_isDrawn_147 rfl rfl ?_
        refine lc_iload C (pc' := 151) 8 dL_isDrawn_149 rfl rfl ?_
        refine lc_meq (lc_up_self M 23).symm ?_
        obtain ⟨r151, s3, h151, h⟩ := lc_bd2e h
        refine lc_csi C (pc' := 154) (r := r151) (M' := (va_up M 23 s3)) (As := [.ref (lc_ad S 200), .ref (lc_ad S 201), .ref (lc_ad S 202), .int x9]) (rest := []) (c_L_Zborrow S X.2.1 M   x9 (M 23) (r151, s3) h151) kl_RL_95 rfl rfl (Nat.le_of_ble_eq_true rfl) ⟨Nat.le_of_ble_eq_true rfl, Nat.le_of_ble_eq_true rfl⟩ ⟨rfl, rfl⟩ ⟨Nat.le_of_ble_eq_true rfl, Nat.le_of_ble_eq_true rfl⟩ dL_isDrawn_151 rfl ?_
        obtain ⟨M4, eM4, h⟩ := lc_let2 h
        refine lc_meq eM4 ?_
        refine lc_if_ne C (pc' := 157) (tgt := 186) dL_isDrawn_154 (by decide) rfl (fun c154 => ?_) (fun c154 => ?_)
        · have h := (lc_if2 h).2 c154
          refine lc_iconst C (pc' := 187) (v := (0 : Int32)) dL_isDrawn_186 (by decide) rfl ?_
          refine lc_istore C (pc' := 189) (lo' := [(11, .int (0 : Int32)), (0, .ref (lc_ad S 194)), (1, .ref (lc_ad S 197)), (2, .ref (lc_ad S 198)), (3, .ref (lc_ad S 199)), (4, .ref (lc_ad S 200)), (5, .ref (lc_ad S 201)), (6, .ref (lc_ad S 202)), (7, .ref (lc_ad S 203)), (9, .int x9), (10, .int x10)]) dL_isDrawn_187 (Nat.le_of_ble_eq_true rfl) rfl rfl ?_
          refine lc_sub (lo' := [(0, .ref (lc_ad S 194)), (1, .ref (lc_ad S 197)), (2, .ref (lc_ad S 198)), (3, .ref (lc_ad S 199)), (4, .ref (lc_ad S 200)), (5, .ref (lc_ad S 201)), (6, .ref (lc_ad S 202)), (7, .ref (lc_ad S 203)), (9, .int x9), (10, .int x10), (11, .int (0 : Int32))]) [1, 2, 3, 4, 5, 6, 7, 8, 9, 10, 0] rfl ?_
          exact w_L_isDrawn_189 C hl  out  lc_FU x9 x10 (0 : Int32) M4 h
        · have h := (lc_if2 h).1 c154
          refine lc_sub (lo' := [(0, .ref (lc_ad S 194)), (7, .ref (lc_ad S 203)), (9, .int x9)]) [0, 7, 8] rfl ?_
          exact w_L_isDrawn_157 C hl  out   x9 M4 h
    · have h := (lc_if2 h).2 c114
      refine lc_iload C (pc' := 119) 9 dL_isDrawn_117 rfl rfl ?_
      refine lc_iconst C (pc' := 120) (v := (1 : Int32)) dL_isDrawn_119 (by decide) rfl ?_
      refine lc_aload_n C (pc' := 121) 2 dL_isDrawn_120 rfl rfl ?_
      refine lc_iconst C (pc' := 122) (v := (5 : Int32)) dL_isDrawn_121 (by decide) rfl ?_
      refine lc_iload C (pc' := 124) 10 dL_isDrawn_122 rfl rfl ?_
      refine lc_imul C (pc' := 125) dL_isDrawn_124 rfl ?_
      refine lc_iconst C (pc' := 126) (v := (4 : Int32)) dL_isDrawn_125 (by decide) rfl ?_
      refine lc_iadd C (pc' := 127) dL_isDrawn_126 rfl ?_
      obtain ⟨hi127, h⟩ := lc_ife h
      refine lc_ld198 C (pc' := 128) (jj := (((5 : Int32) * x11) + (4 : Int32)).toNatClampNeg) rfl hi127 rfl dL_isDrawn_127 rfl ?_
      refine lc_isub C (pc' := 129) dL_isDrawn_128 rfl ?_
      refine lc_iadd C (pc' := 130) dL_isDrawn_129 rfl ?_
      obtain ⟨x10_130, e10_130, h⟩ := lc_let2 h
      rw [e10_130]
      refine lc_istore C (pc' := 132) (lo' := [(10, .int x10_130), (0, .ref (lc_ad S 194)), (1, .ref (lc_ad S 197)), (2, .ref (lc_ad S 198)), (3, .ref (lc_ad S 199)), (4, .ref (lc_ad S 200)), (5, .ref (lc_ad S 201)), (6, .ref (lc_ad S 202)), (7, .ref (lc_ad S 203)), (9, .int x9), (11, .int x11)]) dL_isDrawn_130 (Nat.le_of_ble_eq_true rfl) rfl rfl ?_
      obtain ⟨x11_132, e11_132, h⟩ := lc_let2 h
      refine lc_iinc C (pc' := 135) (lo' := [(11, .int x11_132), (10, .int x10_130), (0, .ref (lc_ad S 194)), (1, .ref (lc_ad S 197)), (2, .ref (lc_ad S 198)), (3, .ref (lc_ad S 199)), (4, .ref (lc_ad S 200)), (5, .ref (lc_ad S 201)), (6, .ref (lc_ad S 202)), (7, .ref (lc_ad S 203)), (9, .int x9)]) (q := 10) dL_isDrawn_132 rfl (by rw [← e11_132]; rfl) (Nat.le_of_ble_eq_true rfl) rfl rfl ?_
      refine lc_goto C (tgt := 109) dL_isDrawn_135 (by decide) ?_
      refine lc_sub (lo' := [(0, .ref (lc_ad S 194)), (1, .ref (lc_ad S 197)), (2, .ref (lc_ad S 198)), (3, .ref (lc_ad S 199)), (4, .ref (lc_ad S 200)), (5, .ref (lc_ad S 201)), (6, .ref (lc_ad S 202)), (7, .ref (lc_ad S 203)), (9, .int x9), (10, .int x10_130), (11, .int x11_132)]) [2, 3, 4, 5, 6, 7, 8, 9, 10, 1, 0] rfl ?_
      exact ih x9 x10_130 x11_132 M h
def P_L_isDrawn_84  : Nat → Int32 → Int32 → Int32 → lc_MM → Option (Int32 × lc_MM)
  | 0, _, _, _, _ => none
  | n + 1, x9, x10, x11, M =>
    if (60 : Int32) ≤ x11 then P_L_isDrawn_109  lc_FU x9 x10 (0 : Int32) M else lc_if (lc_ok x11 60) (lc_if (lc_ok x11 60) (lc_let (lc_ss (M 23) 2 (x11.toNatClampNeg) ((M 22) 2 x11.toNatClampNeg)) (fun s16 => lc_let (va_up M 23 s16) (fun M17 => lc_let (x11 + (1 : Int32)) (fun x11_100 => P_L_isDrawn_84  n x9 x10 x11_100 M17)))))
set_option maxRecDepth 100000 in
set_option maxHeartbeats 4000000 in
theorem w_L_isDrawn_84 {S : lc_Se} {X : lc_X} (C : lc_C X cL_isDrawn RL 12 (some .boolean) rm_L_isDrawn) (hl : X.2.1.stackTraces = false)  (out : Int32 × lc_MM)  : ∀ (n : Nat) (x9 : Int32) (x10 : Int32) (x11 : Int32) (M : lc_MM), P_L_isDrawn_84  n x9 x10 x11 M = some out → lc_J S X 12 0 0 (lc_QI S X 3 18 out.1 out.2) 84 [(0, .ref (lc_ad S 194)), (1, .ref (lc_ad S 197)), (2, .ref (lc_ad S 198)), (3, .ref (lc_ad S 199)), (4, .ref (lc_ad S 200)), (5, .ref (lc_ad S 201)), (6, .ref (lc_ad S 202)), (7, .ref (lc_ad S 203)), (9, .int x9), (10, .int x10), (11, .int x11)] [] M := by
  intro n
  induction n with
  | zero =>
    intro x9 x10 x11 M h
    rw [P_L_isDrawn_84] at h
    cases h
  | succ n ih =>
    intro x9 x10 x11 M h
    rw [P_L_isDrawn_84] at h
    refine lc_iload C (pc' := 86) 10 dL_isDrawn_84 rfl rfl ?_
    refine lc_bipush C (pc' := 88) (v := (60 : Int32)) dL_isDrawn_86 (by decide) rfl ?_
    refine lc_icmp_ge C (pc' := 91) (tgt := 106) dL_isDrawn_88 (by decide) rfl (fun c88 => ?_) (fun c88 => ?_)
    · have h := (lc_if2 h).1 c88
      refine lc_iconst C (pc' := 107) (v := (0 : Int32)) dL_isDrawn_106 (by decide) rfl ?_
      refine lc_istore C (pc' := 109) (lo' := [(11, .int (0 : Int32)), (0, .ref (lc_ad S 194)), (1, .ref (lc_ad S 197)), (2, .ref (lc_ad S 198)), (3, .ref (lc_ad S 199)), (4, .ref (lc_ad S 200)), (5, .ref (lc_ad S 201)), (6, .ref (lc_ad S 202)), (7, .ref (lc_ad S 203)), (9, .int x9), (10, .int x10)]) dL_isDrawn_107 (Nat.le_of_ble_eq_true rfl) rfl rfl ?_
      refine lc_sub (lo' := [(0, .ref (lc_ad S 194)), (1, .ref (lc_ad S 197)), (2, .ref (lc_ad S 198)), (3, .ref (lc_ad S 199)), (4, .ref (lc_ad S 200)), (5, .ref (lc_ad S 201)), (6, .ref (lc_ad S 202)), (7, .ref (lc_ad S 203)), (9, .int x9), (10, .int x10), (11, .int (0 : Int32))]) [1, 2, 3, 4, 5, 6, 7, 8, 9, 10, 0] rfl ?_
      exact w_L_isDrawn_109 C hl  out  lc_FU x9 x10 (0 : Int32) M h
    · have h := (lc_if2 h).2 c88
      refine lc_aload C (pc' := 93) 6 dL_isDrawn_91 rfl rfl ?_
      refine lc_iload C (pc' := 95) 10 dL_isDrawn_93 rfl rfl ?_
      refine lc_aload_n C (pc' := 96) 3 dL_isDrawn_95 rfl rfl ?_
      refine lc_iload C (pc' := 98) 10 dL_isDrawn_96 rfl rfl ?_
      obtain ⟨hi98, h⟩ := lc_ife h
      refine lc_ld199 C (pc' := 99) (jj := x11.toNatClampNeg) rfl hi98 rfl dL_isDrawn_98 rfl ?_
      obtain ⟨hi99, h⟩ := lc_ife h
      obtain ⟨s16, es16, h⟩ := lc_let2 h
      obtain ⟨M17, eM17, h⟩ := lc_let2 h
      refine lc_sd202 C (pc' := 100) (jj := x11.toNatClampNeg) (M' := M17) rfl hi99 rfl es16 eM17 dL_isDrawn_99 rfl ?_
      obtain ⟨x11_100, e11_100, h⟩ := lc_let2 h
      refine lc_iinc C (pc' := 103) (lo' := [(11, .int x11_100), (0, .ref (lc_ad S 194)), (1, .ref (lc_ad S 197)), (2, .ref (lc_ad S 198)), (3, .ref (lc_ad S 199)), (4, .ref (lc_ad S 200)), (5, .ref (lc_ad S 201)), (6, .ref (lc_ad S 202)), (7, .ref (lc_ad S 203)), (9, .int x9), (10, .int x10)]) (q := 10) dL_isDrawn_100 rfl (by rw [← e11_100]; rfl) (Nat.le_of_ble_eq_true rfl) rfl rfl ?_
      refine lc_goto C (tgt := 84) dL_isDrawn_103 (by decide) ?_
      refine lc_sub (lo' := [(0, .ref (lc_ad S 194)), (1, .ref (lc_ad S 197)), (2, .ref (lc_ad S 198)), (3, .ref (lc_ad S 199)), (4, .ref (lc_ad S 200)), (5, .ref (lc_ad S 201)), (6, .ref (lc_ad S 202)), (7, .ref (lc_ad S 203)), (9, .int x9), (10, .int x10), (11, .int x11_100)]) [1, 2, 3, 4, 5, 6, 7, 8, 9, 10, 0] rfl ?_
      exact ih x9 x10 x11_100 M17 h
def P_L_isDrawn_59  : Nat → Int32 → Int32 → Int32 → lc_MM → Option (Int32 × lc_MM)
  | 0, _, _, _, _ => none
  | n + 1, x9, x10, x11, M =>
    if (30 : Int32) ≤ x11 then P_L_isDrawn_84  lc_FU x9 x10 (0 : Int32) M else lc_if (lc_ok x11 30) (lc_if (lc_ok x11 30) (lc_let (lc_ss (M 23) 1 (x11.toNatClampNeg) ((M 22) 1 x11.toNatClampNeg)) (fun s18 => lc_let (va_up M 23 s18) (fun M19 => lc_let (x11 + (1 : Int32)) (fun x11_75 => P_L_isDrawn_59  n x9 x10 x11_75 M19)))))
set_option maxRecDepth 100000 in
set_option maxHeartbeats 4000000 in
theorem w_L_isDrawn_59 {S : lc_Se} {X : lc_X} (C : lc_C X cL_isDrawn RL 12 (some .boolean) rm_L_isDrawn) (hl : X.2.1.stackTraces = false)  (out : Int32 × lc_MM)  : ∀ (n : Nat) (x9 : Int32) (x10 : Int32) (x11 : Int32) (M : lc_MM), P_L_isDrawn_59  n x9 x10 x11 M = some out → lc_J S X 12 0 0 (lc_QI S X 3 18 out.1 out.2) 59 [(0, .ref (lc_ad S 194)), (1, .ref (lc_ad S 197)), (2, .ref (lc_ad S 198)), (3, .ref (lc_ad S 199)), (4, .ref (lc_ad S 200)), (5, .ref (lc_ad S 201)), (6, .ref (lc_ad S 202)), (7, .ref (lc_ad S 203)), (9, .int x9), (10, .int x10), (11, .int x11)] [] M := by
  intro n
  induction n with
  | zero =>
    intro x9 x10 x11 M h
    rw [P_L_isDrawn_59] at h
    cases h
  | succ n ih =>
    intro x9 x10 x11 M h
    rw [P_L_isDrawn_59] at h
    refine lc_iload C (pc' := 61) 10 dL_isDrawn_59 rfl rfl ?_
    refine lc_bipush C (pc' := 63) (v := (30 : Int32)) dL_isDrawn_61 (by decide) rfl ?_
    refine lc_icmp_ge C (pc' := 66) (tgt := 81) dL_isDrawn_63 (by decide) rfl (fun c63 => ?_) (fun c63 => ?_)
    · have h := (lc_if2 h).1 c63
      refine lc_iconst C (pc' := 82) (v := (0 : Int32)) dL_isDrawn_81 (by decide) rfl ?_
      refine lc_istore C (pc' := 84) (lo' := [(11, .int (0 : Int32)), (0, .ref (lc_ad S 194)), (1, .ref (lc_ad S 197)), (2, .ref (lc_ad S 198)), (3, .ref (lc_ad S 199)), (4, .ref (lc_ad S 200)), (5, .ref (lc_ad S 201)), (6, .ref (lc_ad S 202)), (7, .ref (lc_ad S 203)), (9, .int x9), (10, .int x10)]) dL_isDrawn_82 (Nat.le_of_ble_eq_true rfl) rfl rfl ?_
      refine lc_sub (lo' := [(0, .ref (lc_ad S 194)), (1, .ref (lc_ad S 197)), (2, .ref (lc_ad S 198)), (3, .ref (lc_ad S 199)), (4, .ref (lc_ad S 200)), (5, .ref (lc_ad S 201)), (6, .ref (lc_ad S 202)), (7, .ref (lc_ad S 203)), (9, .int x9), (10, .int x10), (11, .int (0 : Int32))]) [1, 2, 3, 4, 5, 6, 7, 8, 9, 10, 0] rfl ?_
      exact w_L_isDrawn_84 C hl  out  lc_FU x9 x10 (0 : Int32) M h
    · have h := (lc_if2 h).2 c63
      refine lc_aload C (pc' := 68) 5 dL_isDrawn_66 rfl rfl ?_
      refine lc_iload C (pc' := 70) 10 dL_isDrawn_68 rfl rfl ?_
      refine lc_aload_n C (pc' := 71) 2 dL_isDrawn_70 rfl rfl ?_
      refine lc_iload C (pc' := 73) 10 dL_isDrawn_71 rfl rfl ?_
      obtain ⟨hi73, h⟩ := lc_ife h
      refine lc_ld198 C (pc' := 74) (jj := x11.toNatClampNeg) rfl hi73 rfl dL_isDrawn_73 rfl ?_
      obtain ⟨hi74, h⟩ := lc_ife h
      obtain ⟨s18, es18, h⟩ := lc_let2 h
      obtain ⟨M19, eM19, h⟩ := lc_let2 h
      refine lc_sd201 C (pc' := 75) (jj := x11.toNatClampNeg) (M' := M19) rfl hi74 rfl es18 eM19 dL_isDrawn_74 rfl ?_
      obtain ⟨x11_75, e11_75, h⟩ := lc_let2 h
      refine lc_iinc C (pc' := 78) (lo' := [(11, .int x11_75), (0, .ref (lc_ad S 194)), (1, .ref (lc_ad S 197)), (2, .ref (lc_ad S 198)), (3, .ref (lc_ad S 199)), (4, .ref (lc_ad S 200)), (5, .ref (lc_ad S 201)), (6, .ref (lc_ad S 202)), (7, .ref (lc_ad S 203)), (9, .int x9), (10, .int x10)]) (q := 10) dL_isDrawn_75 rfl (by rw [← e11_75]; rfl) (Nat.le_of_ble_eq_true rfl) rfl rfl ?_
      refine lc_goto C (tgt := 59) dL_isDrawn_78 (by decide) ?_
      refine lc_sub (lo' := [(0, .ref (lc_ad S 194)), (1, .ref (lc_ad S 197)), (2, .ref (lc_ad S 198)), (3, .ref (lc_ad S 199)), (4, .ref (lc_ad S 200)), (5, .ref (lc_ad S 201)), (6, .ref (lc_ad S 202)), (7, .ref (lc_ad S 203)), (9, .int x9), (10, .int x10), (11, .int x11_75)]) [1, 2, 3, 4, 5, 6, 7, 8, 9, 10, 0] rfl ?_
      exact ih x9 x10 x11_75 M19 h
def P_L_isDrawn_34  : Nat → Int32 → Int32 → Int32 → lc_MM → Option (Int32 × lc_MM)
  | 0, _, _, _, _ => none
  | n + 1, x9, x10, x11, M =>
    if (7 : Int32) ≤ x11 then P_L_isDrawn_59  lc_FU x9 x10 (0 : Int32) M else lc_if (lc_ok x11 7) (lc_if (lc_ok x11 7) (lc_let (lc_ss (M 23) 0 (x11.toNatClampNeg) ((M 22) 0 x11.toNatClampNeg)) (fun s20 => lc_let (va_up M 23 s20) (fun M21 => lc_let (x11 + (1 : Int32)) (fun x11_50 => P_L_isDrawn_34  n x9 x10 x11_50 M21)))))
set_option maxRecDepth 100000 in
set_option maxHeartbeats 4000000 in
theorem w_L_isDrawn_34 {S : lc_Se} {X : lc_X} (C : lc_C X cL_isDrawn RL 12 (some .boolean) rm_L_isDrawn) (hl : X.2.1.stackTraces = false)  (out : Int32 × lc_MM)  : ∀ (n : Nat) (x9 : Int32) (x10 : Int32) (x11 : Int32) (M : lc_MM), P_L_isDrawn_34  n x9 x10 x11 M = some out → lc_J S X 12 0 0 (lc_QI S X 3 18 out.1 out.2) 34 [(0, .ref (lc_ad S 194)), (1, .ref (lc_ad S 197)), (2, .ref (lc_ad S 198)), (3, .ref (lc_ad S 199)), (4, .ref (lc_ad S 200)), (5, .ref (lc_ad S 201)), (6, .ref (lc_ad S 202)), (7, .ref (lc_ad S 203)), (9, .int x9), (10, .int x10), (11, .int x11)] [] M := by
  intro n
  induction n with
  | zero =>
    intro x9 x10 x11 M h
    rw [P_L_isDrawn_34] at h
    cases h
  | succ n ih =>
    intro x9 x10 x11 M h
    rw [P_L_isDrawn_34] at h
    refine lc_iload C (pc' := 36) 10 dL_isDrawn_34 rfl rfl ?_
    refine lc_bipush C (pc' := 38) (v := (7 : Int32)) dL_isDrawn_36 (by decide) rfl ?_
    refine lc_icmp_ge C (pc' := 41) (tgt := 56) dL_isDrawn_38 (by decide) rfl (fun c38 => ?_) (fun c38 => ?_)
    · have h := (lc_if2 h).1 c38
      refine lc_iconst C (pc' := 57) (v := (0 : Int32)) dL_isDrawn_56 (by decide) rfl ?_
      refine lc_istore C (pc' := 59) (lo' := [(11, .int (0 : Int32)), (0, .ref (lc_ad S 194)), (1, .ref (lc_ad S 197)), (2, .ref (lc_ad S 198)), (3, .ref (lc_ad S 199)), (4, .ref (lc_ad S 200)), (5, .ref (lc_ad S 201)), (6, .ref (lc_ad S 202)), (7, .ref (lc_ad S 203)), (9, .int x9), (10, .int x10)]) dL_isDrawn_57 (Nat.le_of_ble_eq_true rfl) rfl rfl ?_
      refine lc_sub (lo' := [(0, .ref (lc_ad S 194)), (1, .ref (lc_ad S 197)), (2, .ref (lc_ad S 198)), (3, .ref (lc_ad S 199)), (4, .ref (lc_ad S 200)), (5, .ref (lc_ad S 201)), (6, .ref (lc_ad S 202)), (7, .ref (lc_ad S 203)), (9, .int x9), (10, .int x10), (11, .int (0 : Int32))]) [1, 2, 3, 4, 5, 6, 7, 8, 9, 10, 0] rfl ?_
      exact w_L_isDrawn_59 C hl  out  lc_FU x9 x10 (0 : Int32) M h
    · have h := (lc_if2 h).2 c38
      refine lc_aload C (pc' := 43) 4 dL_isDrawn_41 rfl rfl ?_
      refine lc_iload C (pc' := 45) 10 dL_isDrawn_43 rfl rfl ?_
      refine lc_aload_n C (pc' := 46) 1 dL_isDrawn_45 rfl rfl ?_
      refine lc_iload C (pc' := 48) 10 dL_isDrawn_46 rfl rfl ?_
      obtain ⟨hi48, h⟩ := lc_ife h
      refine lc_ld197 C (pc' := 49) (jj := x11.toNatClampNeg) rfl hi48 rfl dL_isDrawn_48 rfl ?_
      obtain ⟨hi49, h⟩ := lc_ife h
      obtain ⟨s20, es20, h⟩ := lc_let2 h
      obtain ⟨M21, eM21, h⟩ := lc_let2 h
      refine lc_sd200 C (pc' := 50) (jj := x11.toNatClampNeg) (M' := M21) rfl hi49 rfl es20 eM21 dL_isDrawn_49 rfl ?_
      obtain ⟨x11_50, e11_50, h⟩ := lc_let2 h
      refine lc_iinc C (pc' := 53) (lo' := [(11, .int x11_50), (0, .ref (lc_ad S 194)), (1, .ref (lc_ad S 197)), (2, .ref (lc_ad S 198)), (3, .ref (lc_ad S 199)), (4, .ref (lc_ad S 200)), (5, .ref (lc_ad S 201)), (6, .ref (lc_ad S 202)), (7, .ref (lc_ad S 203)), (9, .int x9), (10, .int x10)]) (q := 10) dL_isDrawn_50 rfl (by rw [← e11_50]; rfl) (Nat.le_of_ble_eq_true rfl) rfl rfl ?_
      refine lc_goto C (tgt := 34) dL_isDrawn_53 (by decide) ?_
      refine lc_sub (lo' := [(0, .ref (lc_ad S 194)), (1, .ref (lc_ad S 197)), (2, .ref (lc_ad S 198)), (3, .ref (lc_ad S 199)), (4, .ref (lc_ad S 200)), (5, .ref (lc_ad S 201)), (6, .ref (lc_ad S 202)), (7, .ref (lc_ad S 203)), (9, .int x9), (10, .int x10), (11, .int x11_50)]) [1, 2, 3, 4, 5, 6, 7, 8, 9, 10, 0] rfl ?_
      exact ih x9 x10 x11_50 M21 h
def P_L_isDrawn_22  (t0 : Int32) (t1 : Int32) (t2 : Int32) (M : lc_MM) : Option (Int32 × lc_MM) :=
  lc_bd (P_L_low t1 t2) (fun r22 => lc_let (t0 + r22) (fun x9_26 => P_L_isDrawn_34  lc_FU x9_26 (0 : Int32) (0 : Int32) M))
set_option maxRecDepth 100000 in
set_option maxHeartbeats 4000000 in
theorem w_L_isDrawn_22 {S : lc_Se} {X : lc_X} (C : lc_C X cL_isDrawn RL 12 (some .boolean) rm_L_isDrawn) (hl : X.2.1.stackTraces = false)  (out : Int32 × lc_MM)  : ∀ (t0 : Int32) (t1 : Int32) (t2 : Int32) (M : lc_MM), P_L_isDrawn_22  t0 t1 t2 M = some out → lc_J S X 12 0 0 (lc_QI S X 3 18 out.1 out.2) 22 [(0, .ref (lc_ad S 194)), (1, .ref (lc_ad S 197)), (2, .ref (lc_ad S 198)), (3, .ref (lc_ad S 199)), (4, .ref (lc_ad S 200)), (5, .ref (lc_ad S 201)), (6, .ref (lc_ad S 202)), (7, .ref (lc_ad S 203))] [.int t2, .int t1, .int t0] M := by
  intro t0 t1 t2 M h
  rw [P_L_isDrawn_22] at h
  obtain ⟨r22, h22, h⟩ := lc_bde h
  refine lc_csi C (pc' := 25) (r := r22) (M' := M) (As := [.int t1, .int t2]) (rest := [.int t0]) (c_L_low S X.2.1 M   t1 t2  r22 h22) kl_RL_83 rfl rfl (Nat.le_of_ble_eq_true rfl) ⟨Nat.le_of_ble_eq_true rfl, Nat.le_of_ble_eq_true rfl⟩ ⟨rfl, rfl⟩ ⟨Nat.le_of_ble_eq_true rfl, Nat.le_of_ble_eq_true rfl⟩ dL_isDrawn_22 rfl ?_
  refine lc_iadd C (pc' := 26) dL_isDrawn_25 rfl ?_
  obtain ⟨x9_26, e9_26, h⟩ := lc_let2 h
  rw [e9_26]
  refine lc_istore C (pc' := 28) (lo' := [(9, .int x9_26), (0, .ref (lc_ad S 194)), (1, .ref (lc_ad S 197)), (2, .ref (lc_ad S 198)), (3, .ref (lc_ad S 199)), (4, .ref (lc_ad S 200)), (5, .ref (lc_ad S 201)), (6, .ref (lc_ad S 202)), (7, .ref (lc_ad S 203))]) dL_isDrawn_26 (Nat.le_of_ble_eq_true rfl) rfl rfl ?_
  refine lc_iconst C (pc' := 29) (v := (0 : Int32)) dL_isDrawn_28 (by decide) rfl ?_
  refine lc_istore C (pc' := 31) (lo' := [(10, .int (0 : Int32)), (9, .int x9_26), (0, .ref (lc_ad S 194)), (1, .ref (lc_ad S 197)), (2, .ref (lc_ad S 198)), (3, .ref (lc_ad S 199)), (4, .ref (lc_ad S 200)), (5, .ref (lc_ad S 201)), (6, .ref (lc_ad S 202)), (7, .ref (lc_ad S 203))]) dL_isDrawn_29 (Nat.le_of_ble_eq_true rfl) rfl rfl ?_
  refine lc_iconst C (pc' := 32) (v := (0 : Int32)) dL_isDrawn_31 (by decide) rfl ?_
  refine lc_istore C (pc' := 34) (lo' := [(11, .int (0 : Int32)), (10, .int (0 : Int32)), (9, .int x9_26), (0, .ref (lc_ad S 194)), (1, .ref (lc_ad S 197)), (2, .ref (lc_ad S 198)), (3, .ref (lc_ad S 199)), (4, .ref (lc_ad S 200)), (5, .ref (lc_ad S 201)), (6, .ref (lc_ad S 202)), (7, .ref (lc_ad S 203))]) dL_isDrawn_32 (Nat.le_of_ble_eq_true rfl) rfl rfl ?_
  refine lc_sub (lo' := [(0, .ref (lc_ad S 194)), (1, .ref (lc_ad S 197)), (2, .ref (lc_ad S 198)), (3, .ref (lc_ad S 199)), (4, .ref (lc_ad S 200)), (5, .ref (lc_ad S 201)), (6, .ref (lc_ad S 202)), (7, .ref (lc_ad S 203)), (9, .int x9_26), (10, .int (0 : Int32)), (11, .int (0 : Int32))]) [3, 4, 5, 6, 7, 8, 9, 10, 2, 1, 0] rfl ?_
  exact w_L_isDrawn_34 C hl  out  lc_FU x9_26 (0 : Int32) (0 : Int32) M h
def P_L_isDrawn  (x8 : Int32) (M : lc_MM) : Option (Int32 × lc_MM) :=
  lc_bd (P_L_low (x8 >>> ((8 : Int32) &&& 31)) (3 : Int32)) (fun r9 => if r9 = 0 then P_L_isDrawn_22   (1 : Int32) x8 (60 : Int32) M else P_L_isDrawn_22   (1 : Int32) x8 (8 : Int32) M)
set_option maxRecDepth 100000 in
set_option maxHeartbeats 4000000 in
theorem c_L_isDrawn (S : lc_Se) (l : Launch) (hl : l.stackTraces = false)   (x8 : Int32) (M : lc_MM) (out : Int32 × lc_MM) (h : P_L_isDrawn x8 M = some out) : lc_MI S l yL_isDrawn cL_isDrawn 12 (some .boolean) rm_L_isDrawn [.ref (lc_ad S 194), .ref (lc_ad S 197), .ref (lc_ad S 198), .ref (lc_ad S 199), .ref (lc_ad S 200), .ref (lc_ad S 201), .ref (lc_ad S 202), .ref (lc_ad S 203), .int x8] M out.1 out.2 := by
  refine lc_mkI (own := RL) pn_RL rfl (Nat.le_of_ble_eq_true rfl) (lo := [(0, .ref (lc_ad S 194)), (1, .ref (lc_ad S 197)), (2, .ref (lc_ad S 198)), (3, .ref (lc_ad S 199)), (4, .ref (lc_ad S 200)), (5, .ref (lc_ad S 201)), (6, .ref (lc_ad S 202)), (7, .ref (lc_ad S 203)), (8, .int x8)]) rfl (fun X hX C => ?_)
  rw [P_L_isDrawn] at h
  subst hX
  refine lc_iconst C (pc' := 1) (v := (1 : Int32)) dL_isDrawn_0 (by decide) rfl ?_
  refine lc_iload C (pc' := 3) 8 dL_isDrawn_1 rfl rfl ?_
  refine lc_iload C (pc' := 5) 8 dL_isDrawn_3 rfl rfl ?_
  refine lc_bipush C (pc' := 7) (v := (8 : Int32)) dL_isDrawn_5 (by decide) rfl ?_
  refine lc_ishr C (pc' := 8) dL_isDrawn_7 rfl ?_
  refine lc_iconst C (pc' := 9) (v := (3 : Int32)) dL_isDrawn_8 (by decide) rfl ?_
  obtain ⟨r9, h9, h⟩ := lc_bde h
  refine lc_csi C (pc' := 12) (r := r9) (M' := M) (As := [.int (x8 >>> ((8 : Int32) &&& 31)), .int (3 : Int32)]) (rest := [.int x8, .int (1 : Int32)]) (c_L_low S X.2.1 M   (x8 >>> ((8 : Int32) &&& 31)) (3 : Int32)  r9 h9) kl_RL_83 rfl rfl (Nat.le_of_ble_eq_true rfl) ⟨Nat.le_of_ble_eq_true rfl, Nat.le_of_ble_eq_true rfl⟩ ⟨rfl, rfl⟩ ⟨Nat.le_of_ble_eq_true rfl, Nat.le_of_ble_eq_true rfl⟩ dL_isDrawn_9 rfl ?_
  refine lc_if_ne C (pc' := 15) (tgt := 20) dL_isDrawn_12 (by decide) rfl (fun c12 => ?_) (fun c12 => ?_)
  · have h := (lc_if2 h).2 c12
    refine lc_bipush C (pc' := 22) (v := (8 : Int32)) dL_isDrawn_20 (by decide) rfl ?_
    refine lc_sub (lo' := [(0, .ref (lc_ad S 194)), (1, .ref (lc_ad S 197)), (2, .ref (lc_ad S 198)), (3, .ref (lc_ad S 199)), (4, .ref (lc_ad S 200)), (5, .ref (lc_ad S 201)), (6, .ref (lc_ad S 202)), (7, .ref (lc_ad S 203))]) [0, 1, 2, 3, 4, 5, 6, 7] rfl ?_
    exact w_L_isDrawn_22 C hl  out   (1 : Int32) x8 (8 : Int32) M h
  · have h := (lc_if2 h).1 c12
    refine lc_bipush C (pc' := 17) (v := (60 : Int32)) dL_isDrawn_15 (by decide) rfl ?_
    refine lc_goto C (tgt := 22) dL_isDrawn_17 (by decide) ?_
    refine lc_sub (lo' := [(0, .ref (lc_ad S 194)), (1, .ref (lc_ad S 197)), (2, .ref (lc_ad S 198)), (3, .ref (lc_ad S 199)), (4, .ref (lc_ad S 200)), (5, .ref (lc_ad S 201)), (6, .ref (lc_ad S 202)), (7, .ref (lc_ad S 203))]) [0, 1, 2, 3, 4, 5, 6, 7] rfl ?_
    exact w_L_isDrawn_22 C hl  out   (1 : Int32) x8 (60 : Int32) M h
abbrev rm_L_isPassed : Room := { frames := 8, cells := 3, slots := 18, locals := 183 }
def P_L_isPassed_6  : Nat → Int32 → Int32 → Int32 → lc_MM → Option (Int32 × lc_MM)
  | 0, _, _, _, _ => none
  | n + 1, x5, x6, x7, M =>
    if x5 ≤ x7 then lc_bd2 (P_L_pass x5 M) (fun r35 M1 => if r35 = 0 then if ((M1 24) 0 0) = x6 then lc_bd2 (P_L_pass (51 : Int32) M1) (fun r55 M2 => if r55 = (1 : Int32) then some ((1 : Int32), M2) else some ((0 : Int32), M2)) else some ((0 : Int32), M1) else some ((0 : Int32), M1)) else lc_bd2 (P_L_round  (M 22)) (fun r18 s3 => lc_let (va_up M 22 s3) (fun M4 => lc_let (x6 ||| r18) (fun x6_22 => lc_let (x7 + (1 : Int32)) (fun x7_24 => P_L_isPassed_6  n x5 x6_22 x7_24 M4))))
set_option maxRecDepth 100000 in
set_option maxHeartbeats 4000000 in
theorem w_L_isPassed_6 {S : lc_Se} {X : lc_X} (C : lc_C X cL_isPassed RL 8 (some .boolean) rm_L_isPassed) (hl : X.2.1.stackTraces = false)  (out : Int32 × lc_MM)  : ∀ (n : Nat) (x5 : Int32) (x6 : Int32) (x7 : Int32) (M : lc_MM), P_L_isPassed_6  n x5 x6 x7 M = some out → lc_J S X 8 0 0 (lc_QI S X 3 18 out.1 out.2) 6 [(0, .ref (lc_ad S 194)), (1, .ref (lc_ad S 197)), (2, .ref (lc_ad S 198)), (3, .ref (lc_ad S 199)), (4, .ref (lc_ad S 203)), (5, .int x5), (6, .int x6), (7, .int x7)] [] M := by
  intro n
  induction n with
  | zero =>
    intro x5 x6 x7 M h
    rw [P_L_isPassed_6] at h
    cases h
  | succ n ih =>
    intro x5 x6 x7 M h
    rw [P_L_isPassed_6] at h
    refine lc_iload C (pc' := 8) 7 dL_isPassed_6 rfl rfl ?_
    refine lc_iload C (pc' := 10) 5 dL_isPassed_8 rfl rfl ?_
    refine lc_icmp_ge C (pc' := 13) (tgt := 30) dL_isPassed_10 (by decide) rfl (fun c10 => ?_) (fun c10 => ?_)
    · have h := (lc_if2 h).1 c10
      refine lc_aload_n C (pc' := 31) 0 dL_isPassed_30 rfl rfl ?_
      refine lc_iload C (pc' := 33) 5 dL_isPassed_31 rfl rfl ?_
      refine lc_aload C (pc' := 35) 4 dL_isPassed_33 rfl rfl ?_
      obtain ⟨r35, M1, h35, h⟩ := lc_bd2e h
      refine lc_csW C (pc' := 38) (r := r35) (M' := M1) (As := [.ref (lc_ad S 194), .int x5, .ref (lc_ad S 203)]) (rest := []) (c_L_pass S X.2.1 hl x5 M (r35, M1) h35) kw_L_pass rfl rfl (Nat.le_of_ble_eq_true rfl) ⟨Nat.le_of_ble_eq_true rfl, Nat.le_of_ble_eq_true rfl⟩ ⟨Nat.le_of_ble_eq_true rfl, Nat.le_of_ble_eq_true rfl⟩ dL_isPassed_35 rfl ?_
      refine lc_if_ne C (pc' := 41) (tgt := 66) dL_isPassed_38 (by decide) rfl (fun c38 => ?_) (fun c38 => ?_)
      · have h := (lc_if2 h).2 c38
        refine lc_iconst C (pc' := 67) (v := (0 : Int32)) dL_isPassed_66 (by decide) rfl ?_
        obtain rfl := Option.some.inj h
        refine lc_wid (k' := 3) (j' := 18) (Nat.le_of_ble_eq_true rfl) (Nat.le_of_ble_eq_true rfl) ?_
        exact lc_zret C rfl (Or.inl rfl) dL_isPassed_67
      · have h := (lc_if2 h).1 c38
        refine lc_aload C (pc' := 43) 4 dL_isPassed_41 rfl rfl ?_
        refine lc_iconst C (pc' := 44) (v := (0 : Int32)) dL_isPassed_43 (by decide) rfl ?_
        refine lc_ld203 C (pc' := 45) (jj := 0) rfl (by decide) (by decide) dL_isPassed_44 rfl ?_
        refine lc_iload C (pc' := 47) 6 dL_isPassed_45 rfl rfl ?_
        refine lc_icmp_ne C (pc' := 50) (tgt := 66) dL_isPassed_47 (by decide) rfl (fun c47 => ?_) (fun c47 => ?_)
        · have h := (lc_if2 h).2 c47
          refine lc_iconst C (pc' := 67) (v := (0 : Int32)) dL_isPassed_66 (by decide) rfl ?_
          obtain rfl := Option.some.inj h
          refine lc_wid (k' := 3) (j' := 18) (Nat.le_of_ble_eq_true rfl) (Nat.le_of_ble_eq_true rfl) ?_
          exact lc_zret C rfl (Or.inl rfl) dL_isPassed_67
        · have h := (lc_if2 h).1 c47
          refine lc_aload_n C (pc' := 51) 0 dL_isPassed_50 rfl rfl ?_
          refine lc_bipush C (pc' := 53) (v := (51 : Int32)) dL_isPassed_51 (by decide) rfl ?_
          refine lc_aload C (pc' := 55) 4 dL_isPassed_53 rfl rfl ?_
          obtain ⟨r55, M2, h55, h⟩ := lc_bd2e h
          refine lc_csW C (pc' := 58) (r := r55) (M' := M2) (As := [.ref (lc_ad S 194), .int (51 : Int32), .ref (lc_ad S 203)]) (rest := []) (c_L_pass S X.2.1 hl (51 : Int32) M1 (r55, M2) h55) kw_L_pass rfl rfl (Nat.le_of_ble_eq_true rfl) ⟨Nat.le_of_ble_eq_true rfl, Nat.le_of_ble_eq_true rfl⟩ ⟨Nat.le_of_ble_eq_true rfl, Nat.le_of_ble_eq_true rfl⟩ dL_isPassed_55 rfl ?_
          refine lc_iconst C (pc' := 59) (v := (1 : Int32)) dL_isPassed_58 (by decide) rfl ?_
          refine lc_icmp_ne C (pc' := 62) (tgt := 66) dL_isPassed_59 (by decide) rfl (fun c59 => ?_) (fun c59 => ?_)
          · have h := (lc_if2 h).2 c59
            refine lc_iconst C (pc' := 67) (v := (0 : Int32)) dL_isPassed_66 (by decide) rfl ?_
            obtain rfl := Option.some.inj h
            refine lc_wid (k' := 3) (j' := 18) (Nat.le_of_ble_eq_true rfl) (Nat.le_of_ble_eq_true rfl) ?_
            exact lc_zret C rfl (Or.inl rfl) dL_isPassed_67
          · have h := (lc_if2 h).1 c59
            refine lc_iconst C (pc' := 63) (v := (1 : Int32)) dL_isPassed_62 (by decide) rfl ?_
            refine lc_goto C (tgt := 67) dL_isPassed_63 (by decide) ?_
            obtain rfl := Option.some.inj h
            refine lc_wid (k' := 3) (j' := 18) (Nat.le_of_ble_eq_true rfl) (Nat.le_of_ble_eq_true rfl) ?_
            exact lc_zret C rfl (Or.inr rfl) dL_isPassed_67
    · have h := (lc_if2 h).2 c10
      refine lc_iload C (pc' := 15) 6 dL_isPassed_13 rfl rfl ?_
      refine lc_aload_n C (pc' := 16) 1 dL_isPassed_15 rfl rfl ?_
      refine lc_aload_n C (pc' := 17) 2 dL_isPassed_16 rfl rfl ?_
      refine lc_aload_n C (pc' := 18) 3 dL_isPassed_17 rfl rfl ?_
      refine lc_meq (lc_up_self M 22).symm ?_
      obtain ⟨r18, s3, h18, h⟩ := lc_bd2e h
      refine lc_csi C (pc' := 21) (r := r18) (M' := (va_up M 22 s3)) (As := [.ref (lc_ad S 197), .ref (lc_ad S 198), .ref (lc_ad S 199)]) (rest := [.int x6]) (c_L_round S X.2.1 M    (M 22) (r18, s3) h18) kl_RL_101 rfl rfl (Nat.le_of_ble_eq_true rfl) ⟨Nat.le_of_ble_eq_true rfl, Nat.le_of_ble_eq_true rfl⟩ ⟨rfl, rfl⟩ ⟨Nat.le_of_ble_eq_true rfl, Nat.le_of_ble_eq_true rfl⟩ dL_isPassed_18 rfl ?_
      obtain ⟨M4, eM4, h⟩ := lc_let2 h
      refine lc_meq eM4 ?_
      refine lc_ior C (pc' := 22) dL_isPassed_21 rfl ?_
      obtain ⟨x6_22, e6_22, h⟩ := lc_let2 h
      rw [e6_22]
      refine lc_istore C (pc' := 24) (lo' := [(6, .int x6_22), (0, .ref (lc_ad S 194)), (1, .ref (lc_ad S 197)), (2, .ref (lc_ad S 198)), (3, .ref (lc_ad S 199)), (4, .ref (lc_ad S 203)), (5, .int x5), (7, .int x7)]) dL_isPassed_22 (Nat.le_of_ble_eq_true rfl) rfl rfl ?_
      obtain ⟨x7_24, e7_24, h⟩ := lc_let2 h
      refine lc_iinc C (pc' := 27) (lo' := [(7, .int x7_24), (6, .int x6_22), (0, .ref (lc_ad S 194)), (1, .ref (lc_ad S 197)), (2, .ref (lc_ad S 198)), (3, .ref (lc_ad S 199)), (4, .ref (lc_ad S 203)), (5, .int x5)]) (q := 7) dL_isPassed_24 rfl (by rw [← e7_24]; rfl) (Nat.le_of_ble_eq_true rfl) rfl rfl ?_
      refine lc_goto C (tgt := 6) dL_isPassed_27 (by decide) ?_
      refine lc_sub (lo' := [(0, .ref (lc_ad S 194)), (1, .ref (lc_ad S 197)), (2, .ref (lc_ad S 198)), (3, .ref (lc_ad S 199)), (4, .ref (lc_ad S 203)), (5, .int x5), (6, .int x6_22), (7, .int x7_24)]) [2, 3, 4, 5, 6, 7, 1, 0] rfl ?_
      exact ih x5 x6_22 x7_24 M4 h
def P_L_isPassed  (x5 : Int32) (M : lc_MM) : Option (Int32 × lc_MM) :=
  P_L_isPassed_6  lc_FU x5 (0 : Int32) (0 : Int32) M
set_option maxRecDepth 100000 in
set_option maxHeartbeats 4000000 in
theorem c_L_isPassed (S : lc_Se) (l : Launch) (hl : l.stackTraces = false)   (x5 : Int32) (M : lc_MM) (out : Int32 × lc_MM) (h : P_L_isPassed x5 M = some out) : lc_MI S l yL_isPassed cL_isPassed 8 (some .boolean) rm_L_isPassed [.ref (lc_ad S 194), .ref (lc_ad S 197), .ref (lc_ad S 198), .ref (lc_ad S 199), .ref (lc_ad S 203), .int x5] M out.1 out.2 := by
  refine lc_mkI (own := RL) pn_RL rfl (Nat.le_of_ble_eq_true rfl) (lo := [(0, .ref (lc_ad S 194)), (1, .ref (lc_ad S 197)), (2, .ref (lc_ad S 198)), (3, .ref (lc_ad S 199)), (4, .ref (lc_ad S 203)), (5, .int x5)]) rfl (fun X hX C => ?_)
  rw [P_L_isPassed] at h
  subst hX
  refine lc_iconst C (pc' := 1) (v := (0 : Int32)) dL_isPassed_0 (by decide) rfl ?_
  refine lc_istore C (pc' := 3) (lo' := [(6, .int (0 : Int32)), (0, .ref (lc_ad S 194)), (1, .ref (lc_ad S 197)), (2, .ref (lc_ad S 198)), (3, .ref (lc_ad S 199)), (4, .ref (lc_ad S 203)), (5, .int x5)]) dL_isPassed_1 (Nat.le_of_ble_eq_true rfl) rfl rfl ?_
  refine lc_iconst C (pc' := 4) (v := (0 : Int32)) dL_isPassed_3 (by decide) rfl ?_
  refine lc_istore C (pc' := 6) (lo' := [(7, .int (0 : Int32)), (6, .int (0 : Int32)), (0, .ref (lc_ad S 194)), (1, .ref (lc_ad S 197)), (2, .ref (lc_ad S 198)), (3, .ref (lc_ad S 199)), (4, .ref (lc_ad S 203)), (5, .int x5)]) dL_isPassed_4 (Nat.le_of_ble_eq_true rfl) rfl rfl ?_
  refine lc_sub (lo' := [(0, .ref (lc_ad S 194)), (1, .ref (lc_ad S 197)), (2, .ref (lc_ad S 198)), (3, .ref (lc_ad S 199)), (4, .ref (lc_ad S 203)), (5, .int x5), (6, .int (0 : Int32)), (7, .int (0 : Int32))]) [2, 3, 4, 5, 6, 7, 1, 0] rfl ?_
  exact w_L_isPassed_6 C hl  out  lc_FU x5 (0 : Int32) (0 : Int32) M h
