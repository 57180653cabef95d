abbrev rm_X2_put : Room := { frames := 0, cells := 0, slots := 0, locals := 0 }
def P_X2_put  (x1 : Int32) (s : lc_St) : Option (Int32 × lc_St) :=
  if (120 : Int32) ≤ (s 0 0) then some ((s 0 0), s) else lc_if (lc_ok (s 0 0) 120) (lc_let (lc_ss s 1 ((s 0 0).toNatClampNeg) (vp_nar .char x1)) (fun s1 => lc_let (lc_ss s1 0 0 ((s1 0 0) + (1 : Int32))) (fun s2 => some ((s2 0 0), s2))))
set_option maxRecDepth 100000 in
set_option maxHeartbeats 4000000 in
theorem c_X2_put (S : lc_Se) (l : Launch) (M : lc_MM)  (x1 : Int32) (s : lc_St) (out : Int32 × lc_St) (h : P_X2_put x1 s = some out) : lc_MI S l yX2_put cX2_put 2 (some .int) rm_X2_put [.ref (lc_ad S 190), .int x1] (va_up M 19 s) out.1 (va_up M 19 out.2) := by
  refine lc_mkI (own := RX2) pn_RX2 rfl (Nat.le_of_ble_eq_true rfl) (lo := [(0, .ref (lc_ad S 190)), (1, .int x1)]) rfl (fun X hX C => ?_)
  rw [P_X2_put] at h
  refine lc_aload_n C (pc' := 1) 0 dX2_put_0 rfl rfl ?_
  refine lc_g190_length C (pc' := 4) (va_up_self _ _ _) dX2_put_1 kf_RX2_15 rfl ?_
  refine lc_bipush C (pc' := 6) (v := (120 : Int32)) dX2_put_4 (by decide) rfl ?_
  refine lc_icmp_ge C (pc' := 9) (tgt := 29) dX2_put_6 (by decide) rfl (fun c6 => ?_) (fun c6 => ?_)
  · have h := (lc_if2 h).1 c6
    refine lc_aload_n C (pc' := 30) 0 dX2_put_29 rfl rfl ?_
    refine lc_g190_length C (pc' := 33) (va_up_self _ _ _) dX2_put_30 kf_RX2_15 rfl ?_
    obtain rfl := Option.some.inj h
    exact lc_iret C rfl dX2_put_33
  · have h := (lc_if2 h).2 c6
    refine lc_aload_n C (pc' := 10) 0 dX2_put_9 rfl rfl ?_
    refine lc_g190_signs C (pc' := 13) (va_up_self _ _ _) dX2_put_10 kf_RX2_9 rfl ?_
    refine lc_aload_n C (pc' := 14) 0 dX2_put_13 rfl rfl ?_
    refine lc_g190_length C (pc' := 17) (va_up_self _ _ _) dX2_put_14 kf_RX2_15 rfl ?_
    refine lc_iload_n C (pc' := 18) 1 dX2_put_17 rfl rfl ?_
    obtain ⟨hi18, h⟩ := lc_ife h
    obtain ⟨s1, es1, h⟩ := lc_let2 h
    refine lc_sd191 C (pc' := 19) (jj := (s 0 0).toNatClampNeg) (M' := (va_up M 19 s1)) (va_up_self _ _ _) hi18 rfl es1 (lc_up_up _ _ _ _) dX2_put_18 rfl ?_
    refine lc_aload_n C (pc' := 20) 0 dX2_put_19 rfl rfl ?_
    refine lc_dup C (pc' := 21) dX2_put_20 rfl rfl ?_
    refine lc_g190_length C (pc' := 24) (va_up_self _ _ _) dX2_put_21 kf_RX2_15 rfl ?_
    refine lc_iconst C (pc' := 25) (v := (1 : Int32)) dX2_put_24 (by decide) rfl ?_
    refine lc_iadd C (pc' := 26) dX2_put_25 rfl ?_
    obtain ⟨s2, es2, h⟩ := lc_let2 h
    refine lc_p190_length C (pc' := 29) (M' := (va_up M 19 s2)) (va_up_self _ _ _) es2 (lc_up_up _ _ _ _) dX2_put_26 kf_RX2_15 rfl ?_
    refine lc_aload_n C (pc' := 30) 0 dX2_put_29 rfl rfl ?_
    refine lc_g190_length C (pc' := 33) (va_up_self _ _ _) dX2_put_30 kf_RX2_15 rfl ?_
    obtain rfl := Option.some.inj h
    exact lc_iret C rfl dX2_put_33
abbrev rm_X2_becomeEmpty : Room := { frames := 0, cells := 0, slots := 0, locals := 0 }
def P_X2_becomeEmpty   (s : lc_St) : Option (lc_St) :=
  lc_let (lc_ss s 0 0 (0 : Int32)) (fun s1 => some s1)
set_option maxRecDepth 100000 in
set_option maxHeartbeats 4000000 in
theorem c_X2_becomeEmpty (S : lc_Se) (l : Launch) (M : lc_MM)   (s : lc_St) (out : lc_St) (h : P_X2_becomeEmpty  s = some out) : lc_MV S l yX2_becomeEmpty cX2_becomeEmpty 1 none rm_X2_becomeEmpty [.ref (lc_ad S 190)] (va_up M 19 s)  (va_up M 19 out) := by
  refine lc_mkV (own := RX2) pn_RX2 rfl (Nat.le_of_ble_eq_true rfl) (lo := [(0, .ref (lc_ad S 190))]) rfl (fun X hX C => ?_)
  rw [P_X2_becomeEmpty] at h
  refine lc_aload_n C (pc' := 1) 0 dX2_becomeEmpty_0 rfl rfl ?_
  refine lc_iconst C (pc' := 2) (v := (0 : Int32)) dX2_becomeEmpty_1 (by decide) rfl ?_
  obtain ⟨s1, es1, h⟩ := lc_let2 h
  refine lc_p190_length C (pc' := 5) (M' := (va_up M 19 s1)) (va_up_self _ _ _) es1 (lc_up_up _ _ _ _) dX2_becomeEmpty_2 kf_RX2_15 rfl ?_
  obtain rfl := Option.some.inj h
  exact lc_vret C rfl dX2_becomeEmpty_5
abbrev rm_X2_isAt : Room := { frames := 0, cells := 0, slots := 0, locals := 0 }
def P_X2_isAt  (x1 : Int32) (s : lc_St) : Option (Int32) :=
  if (s 0 0) ≤ (s 0 1) then some (0 : Int32) else lc_if (lc_ok (s 0 1) 120) (if (s 1 (s 0 1).toNatClampNeg) = x1 then some (1 : Int32) else some (0 : Int32))
set_option maxRecDepth 100000 in
set_option maxHeartbeats 4000000 in
theorem c_X2_isAt (S : lc_Se) (l : Launch) (M : lc_MM)  (x1 : Int32) (s : lc_St) (out : Int32) (h : P_X2_isAt x1 s = some out) : lc_MI S l yX2_isAt cX2_isAt 2 (some .boolean) rm_X2_isAt [.ref (lc_ad S 190), .int x1] (va_up M 19 s) out (va_up M 19 s) := by
  refine lc_mkI (own := RX2) pn_RX2 rfl (Nat.le_of_ble_eq_true rfl) (lo := [(0, .ref (lc_ad S 190)), (1, .int x1)]) rfl (fun X hX C => ?_)
  rw [P_X2_isAt] at h
  refine lc_aload_n C (pc' := 1) 0 dX2_isAt_0 rfl rfl ?_
  refine lc_g190_at C (pc' := 4) (va_up_self _ _ _) dX2_isAt_1 kf_RX2_24 rfl ?_
  refine lc_aload_n C (pc' := 5) 0 dX2_isAt_4 rfl rfl ?_
  refine lc_g190_length C (pc' := 8) (va_up_self _ _ _) dX2_isAt_5 kf_RX2_15 rfl ?_
  refine lc_icmp_ge C (pc' := 11) (tgt := 28) dX2_isAt_8 (by decide) rfl (fun c8 => ?_) (fun c8 => ?_)
  · have h := (lc_if2 h).1 c8
    refine lc_iconst C (pc' := 29) (v := (0 : Int32)) dX2_isAt_28 (by decide) rfl ?_
    obtain rfl := Option.some.inj h
    exact lc_zret C rfl (Or.inl rfl) dX2_isAt_29
  · have h := (lc_if2 h).2 c8
    refine lc_aload_n C (pc' := 12) 0 dX2_isAt_11 rfl rfl ?_
    refine lc_g190_signs C (pc' := 15) (va_up_self _ _ _) dX2_isAt_12 kf_RX2_9 rfl ?_
    refine lc_aload_n C (pc' := 16) 0 dX2_isAt_15 rfl rfl ?_
    refine lc_g190_at C (pc' := 19) (va_up_self _ _ _) dX2_isAt_16 kf_RX2_24 rfl ?_
    obtain ⟨hi19, h⟩ := lc_ife h
    refine lc_ld191 C (pc' := 20) (jj := (s 0 1).toNatClampNeg) (va_up_self _ _ _) hi19 rfl dX2_isAt_19 rfl ?_
    refine lc_iload_n C (pc' := 21) 1 dX2_isAt_20 rfl rfl ?_
    refine lc_icmp_ne C (pc' := 24) (tgt := 28) dX2_isAt_21 (by decide) rfl (fun c21 => ?_) (fun c21 => ?_)
    · have h := (lc_if2 h).2 c21
      refine lc_iconst C (pc' := 29) (v := (0 : Int32)) dX2_isAt_28 (by decide) rfl ?_
      obtain rfl := Option.some.inj h
      exact lc_zret C rfl (Or.inl rfl) dX2_isAt_29
    · have h := (lc_if2 h).1 c21
      refine lc_iconst C (pc' := 25) (v := (1 : Int32)) dX2_isAt_24 (by decide) rfl ?_
      refine lc_goto C (tgt := 29) dX2_isAt_25 (by decide) ?_
      obtain rfl := Option.some.inj h
      exact lc_zret C rfl (Or.inr rfl) dX2_isAt_29
abbrev rm_X2_digitHere : Room := { frames := 0, cells := 0, slots := 0, locals := 0 }
def P_X2_digitHere_44  (t0 : Int32) (s : lc_St) : Option (Int32) :=
  if t0 = 0 then some (-9 : Int32) else lc_if (lc_ok (s 0 1) 120) (some ((s 1 (s 0 1).toNatClampNeg) - (48 : Int32)))
set_option maxRecDepth 100000 in
set_option maxHeartbeats 4000000 in
theorem w_X2_digitHere_44 {S : lc_Se} {X : lc_X} (C : lc_C X cX2_digitHere RX2 2 (some .int) rm_X2_digitHere) {M : lc_MM}  (out : Int32)  : ∀ (t0 : Int32) (s : lc_St), P_X2_digitHere_44  t0 s = some out → lc_J S X 2 0 0 (lc_QI S X 0 0 out (va_up M 19 s)) 44 [(0, .ref (lc_ad S 190))] [.int t0] (va_up M 19 s) := by
  intro t0 s h
  rw [P_X2_digitHere_44] at h
  refine lc_istore_n C (pc' := 45) (lo' := [(1, .int t0), (0, .ref (lc_ad S 190))]) dX2_digitHere_44 (Nat.le_of_ble_eq_true rfl) rfl rfl ?_
  refine lc_iload_n C (pc' := 46) 0 dX2_digitHere_45 rfl rfl ?_
  refine lc_if_eq C (pc' := 49) (tgt := 64) dX2_digitHere_46 (by decide) rfl (fun c46 => ?_) (fun c46 => ?_)
  · have h := (lc_if2 h).1 c46
    refine lc_bipush C (pc' := 66) (v := (-9 : Int32)) dX2_digitHere_64 (by decide) rfl ?_
    obtain rfl := Option.some.inj h
    exact lc_iret C rfl dX2_digitHere_66
  · have h := (lc_if2 h).2 c46
    refine lc_aload_n C (pc' := 50) 1 dX2_digitHere_49 rfl rfl ?_
    refine lc_g190_signs C (pc' := 53) (va_up_self _ _ _) dX2_digitHere_50 kf_RX2_9 rfl ?_
    refine lc_aload_n C (pc' := 54) 1 dX2_digitHere_53 rfl rfl ?_
    refine lc_g190_at C (pc' := 57) (va_up_self _ _ _) dX2_digitHere_54 kf_RX2_24 rfl ?_
    obtain ⟨hi57, h⟩ := lc_ife h
    refine lc_ld191 C (pc' := 58) (jj := (s 0 1).toNatClampNeg) (va_up_self _ _ _) hi57 rfl dX2_digitHere_57 rfl ?_
    refine lc_bipush C (pc' := 60) (v := (48 : Int32)) dX2_digitHere_58 (by decide) rfl ?_
    refine lc_isub C (pc' := 61) dX2_digitHere_60 rfl ?_
    refine lc_goto C (tgt := 66) dX2_digitHere_61 (by decide) ?_
    obtain rfl := Option.some.inj h
    exact lc_iret C rfl dX2_digitHere_66
def P_X2_digitHere_43  (s : lc_St) : Option (Int32) :=
  P_X2_digitHere_44   (0 : Int32) s
set_option maxRecDepth 100000 in
set_option maxHeartbeats 4000000 in
theorem w_X2_digitHere_43 {S : lc_Se} {X : lc_X} (C : lc_C X cX2_digitHere RX2 2 (some .int) rm_X2_digitHere) {M : lc_MM}  (out : Int32)  : ∀ (s : lc_St), P_X2_digitHere_43  s = some out → lc_J S X 2 0 0 (lc_QI S X 0 0 out (va_up M 19 s)) 43 [(0, .ref (lc_ad S 190))] [] (va_up M 19 s) := by
  intro s h
  rw [P_X2_digitHere_43] at h
  refine lc_iconst C (pc' := 44) (v := (0 : Int32)) dX2_digitHere_43 (by decide) rfl ?_
  exact w_X2_digitHere_44 C   out   (0 : Int32) s h
def P_X2_digitHere   (s : lc_St) : Option (Int32) :=
  if (s 0 0) ≤ (s 0 1) then P_X2_digitHere_43   s else lc_if (lc_ok (s 0 1) 120) (if (s 1 (s 0 1).toNatClampNeg) < (48 : Int32) then P_X2_digitHere_43   s else lc_if (lc_ok (s 0 1) 120) (if (57 : Int32) < (s 1 (s 0 1).toNatClampNeg) then P_X2_digitHere_43   s else P_X2_digitHere_44   (1 : Int32) s))
set_option maxRecDepth 100000 in
set_option maxHeartbeats 4000000 in
theorem c_X2_digitHere (S : lc_Se) (l : Launch) (M : lc_MM)   (s : lc_St) (out : Int32) (h : P_X2_digitHere  s = some out) : lc_MI S l yX2_digitHere cX2_digitHere 2 (some .int) rm_X2_digitHere [.ref (lc_ad S 190)] (va_up M 19 s) out (va_up M 19 s) := by
  refine lc_mkI (own := RX2) pn_RX2 rfl (Nat.le_of_ble_eq_true rfl) (lo := [(0, .ref (lc_ad S 190))]) rfl (fun X hX C => ?_)
  rw [P_X2_digitHere] at h
  refine lc_aload_n C (pc' := 1) 0 dX2_digitHere_0 rfl rfl ?_
  refine lc_g190_at C (pc' := 4) (va_up_self _ _ _) dX2_digitHere_1 kf_RX2_24 rfl ?_
  refine lc_aload_n C (pc' := 5) 0 dX2_digitHere_4 rfl rfl ?_
  refine lc_g190_length C (pc' := 8) (va_up_self _ _ _) dX2_digitHere_5 kf_RX2_15 rfl ?_
  refine lc_icmp_ge C (pc' := 11) (tgt := 43) dX2_digitHere_8 (by decide) rfl (fun c8 => ?_) (fun c8 => ?_)
  · have h := (lc_if2 h).1 c8
    exact w_X2_digitHere_43 C   out   s h
  · have h := (lc_if2 h).2 c8
    refine lc_aload_n C (pc' := 12) 0 dX2_digitHere_11 rfl rfl ?_
    refine lc_g190_signs C (pc' := 15) (va_up_self _ _ _) dX2_digitHere_12 kf_RX2_9 rfl ?_
    refine lc_aload_n C (pc' := 16) 0 dX2_digitHere_15 rfl rfl ?_
    refine lc_g190_at C (pc' := 19) (va_up_self _ _ _) dX2_digitHere_16 kf_RX2_24 rfl ?_
    obtain ⟨hi19, h⟩ := lc_ife h
    refine lc_ld191 C (pc' := 20) (jj := (s 0 1).toNatClampNeg) (va_up_self _ _ _) hi19 rfl dX2_digitHere_19 rfl ?_
    refine lc_bipush C (pc' := 22) (v := (48 : Int32)) dX2_digitHere_20 (by decide) rfl ?_
    refine lc_icmp_lt C (pc' := 25) (tgt := 43) dX2_digitHere_22 (by decide) rfl (fun c22 => ?_) (fun c22 => ?_)
    · have h := (lc_if2 h).1 c22
      exact w_X2_digitHere_43 C   out   s h
    · have h := (lc_if2 h).2 c22
      refine lc_aload_n C (pc' := 26) 0 dX2_digitHere_25 rfl rfl ?_
      refine lc_g190_signs C (pc' := 29) (va_up_self _ _ _) dX2_digitHere_26 kf_RX2_9 rfl ?_
      refine lc_aload_n C (pc' := 30) 0 dX2_digitHere_29 rfl rfl ?_
      refine lc_g190_at C (pc' := 33) (va_up_self _ _ _) dX2_digitHere_30 kf_RX2_24 rfl ?_
      obtain ⟨hi33, h⟩ := lc_ife h
      refine lc_ld191 C (pc' := 34) (jj := (s 0 1).toNatClampNeg) (va_up_self _ _ _) hi33 rfl dX2_digitHere_33 rfl ?_
      refine lc_bipush C (pc' := 36) (v := (57 : Int32)) dX2_digitHere_34 (by decide) rfl ?_
      refine lc_icmp_gt C (pc' := 39) (tgt := 43) dX2_digitHere_36 (by decide) rfl (fun c36 => ?_) (fun c36 => ?_)
      · have h := (lc_if2 h).1 c36
        exact w_X2_digitHere_43 C   out   s h
      · have h := (lc_if2 h).2 c36
        refine lc_iconst C (pc' := 40) (v := (1 : Int32)) dX2_digitHere_39 (by decide) rfl ?_
        refine lc_goto C (tgt := 44) dX2_digitHere_40 (by decide) ?_
        exact w_X2_digitHere_44 C   out   (1 : Int32) s h
abbrev rm_X2_readDigit : Room := { frames := 1, cells := 0, slots := 0, locals := 22 }
def P_X2_readDigit  (x1 : Int32) (x2 : Int32) (s : lc_St) : Option (Int32 × lc_St) :=
  lc_bd (P_X2_digitHere  s) (fun r1 => if r1 = (-9 : Int32) then some ((-9 : Int32), s) else lc_bd (P_X3_isWithin r1 x1 x2) (fun r14 => if r14 = 0 then some ((-9 : Int32), s) else lc_let (lc_ss s 0 1 ((s 0 1) + (1 : Int32))) (fun s1 => some (r1, s1))))
set_option maxRecDepth 100000 in
set_option maxHeartbeats 4000000 in
theorem c_X2_readDigit (S : lc_Se) (l : Launch) (M : lc_MM)  (x1 : Int32) (x2 : Int32) (s : lc_St) (out : Int32 × lc_St) (h : P_X2_readDigit x1 x2 s = some out) : lc_MI S l yX2_readDigit cX2_readDigit 4 (some .int) rm_X2_readDigit [.ref (lc_ad S 190), .int x1, .int x2] (va_up M 19 s) out.1 (va_up M 19 out.2) := by
  refine lc_mkI (own := RX2) pn_RX2 rfl (Nat.le_of_ble_eq_true rfl) (lo := [(0, .ref (lc_ad S 190)), (1, .int x1), (2, .int x2)]) rfl (fun X hX C => ?_)
  rw [P_X2_readDigit] at h
  refine lc_aload_n C (pc' := 1) 0 dX2_readDigit_0 rfl rfl ?_
  obtain ⟨r1, h1, h⟩ := lc_bde h
  refine lc_cvi C (pc' := 4) (r := r1) (M' := (va_up M 19 s)) (As := []) (rest := []) (c_X2_digitHere S X.2.1 M    s r1 h1) kl_RX2_58 (lc_at190 S _) rfl rfl rfl rfl (Nat.le_of_ble_eq_true rfl) ⟨Nat.le_of_ble_eq_true rfl, Nat.le_of_ble_eq_true rfl⟩ ⟨rfl, rfl⟩ (lc_z2 _ _) dX2_readDigit_1 rfl ?_
  refine lc_istore_n C (pc' := 5) (lo' := [(3, .int r1), (0, .ref (lc_ad S 190)), (1, .int x1), (2, .int x2)]) dX2_readDigit_4 (Nat.le_of_ble_eq_true rfl) rfl rfl ?_
  refine lc_iload_n C (pc' := 6) 0 dX2_readDigit_5 rfl rfl ?_
  refine lc_bipush C (pc' := 8) (v := (-9 : Int32)) dX2_readDigit_6 (by decide) rfl ?_
  refine lc_icmp_eq C (pc' := 11) (tgt := 20) dX2_readDigit_8 (by decide) rfl (fun c8 => ?_) (fun c8 => ?_)
  · have h := (lc_if2 h).1 c8
    refine lc_bipush C (pc' := 22) (v := (-9 : Int32)) dX2_readDigit_20 (by decide) rfl ?_
    obtain rfl := Option.some.inj h
    exact lc_iret C rfl dX2_readDigit_22
  · have h := (lc_if2 h).2 c8
    refine lc_iload_n C (pc' := 12) 0 dX2_readDigit_11 rfl rfl ?_
    refine lc_iload_n C (pc' := 13) 2 dX2_readDigit_12 rfl rfl ?_
    refine lc_iload_n C (pc' := 14) 3 dX2_readDigit_13 rfl rfl ?_
    obtain ⟨r14, h14, h⟩ := lc_bde h
    refine lc_cni C (pc' := 17) (r := r14) (M' := (va_up M 19 s)) (As := [.int r1, .int x1, .int x2]) (rest := []) (c_X3_isWithin S X.2.1 (va_up M 19 s)   r1 x1 x2  r14 h14) kl_RX2_74 rfl rfl (Nat.le_of_ble_eq_true rfl) ⟨Nat.le_of_ble_eq_true rfl, Nat.le_of_ble_eq_true rfl⟩ ⟨rfl, rfl⟩ (lc_z2 _ _) dX2_readDigit_14 rfl ?_
    refine lc_if_ne C (pc' := 20) (tgt := 23) dX2_readDigit_17 (by decide) rfl (fun c17 => ?_) (fun c17 => ?_)
    · have h := (lc_if2 h).2 c17
      refine lc_aload_n C (pc' := 24) 1 dX2_readDigit_23 rfl rfl ?_
      refine lc_dup C (pc' := 25) dX2_readDigit_24 rfl rfl ?_
      refine lc_g190_at C (pc' := 28) (va_up_self _ _ _) dX2_readDigit_25 kf_RX2_24 rfl ?_
      refine lc_iconst C (pc' := 29) (v := (1 : Int32)) dX2_readDigit_28 (by decide) rfl ?_
      refine lc_iadd C (pc' := 30) dX2_readDigit_29 rfl ?_
      obtain ⟨s1, es1, h⟩ := lc_let2 h
      refine lc_p190_at C (pc' := 33) (M' := (va_up M 19 s1)) (va_up_self _ _ _) es1 (lc_up_up _ _ _ _) dX2_readDigit_30 kf_RX2_24 rfl ?_
      refine lc_iload_n C (pc' := 34) 0 dX2_readDigit_33 rfl rfl ?_
      obtain rfl := Option.some.inj h
      exact lc_iret C rfl dX2_readDigit_34
    · have h := (lc_if2 h).1 c17
      refine lc_bipush C (pc' := 22) (v := (-9 : Int32)) dX2_readDigit_20 (by decide) rfl ?_
      obtain rfl := Option.some.inj h
      exact lc_iret C rfl dX2_readDigit_22
abbrev rm_X2_readNumber : Room := { frames := 2, cells := 0, slots := 0, locals := 45 }
def P_X2_readNumber_56  (x3 : Int32) (t1 : Int32) (t2 : Int32) (s : lc_St) : Option (Int32 × lc_St) :=
  lc_bd2 (P_X2_readDigit t1 t2 s) (fun r56 s2 => if r56 = (-9 : Int32) then some ((-9 : Int32), s2) else some ((((10 : Int32) * x3) + r56), s2))
set_option maxRecDepth 100000 in
set_option maxHeartbeats 4000000 in
theorem w_X2_readNumber_56 {S : lc_Se} {X : lc_X} (C : lc_C X cX2_readNumber RX2 5 (some .int) rm_X2_readNumber) {M : lc_MM}  (out : Int32 × lc_St)  : ∀ (x3 : Int32) (t1 : Int32) (t2 : Int32) (s : lc_St), P_X2_readNumber_56  x3 t1 t2 s = some out → lc_J S X 5 0 0 (lc_QI S X 0 0 out.1 (va_up M 19 out.2)) 56 [(3, .int x3)] [.int t2, .int t1, .ref (lc_ad S 190)] (va_up M 19 s) := by
  intro x3 t1 t2 s h
  rw [P_X2_readNumber_56] at h
  obtain ⟨r56, s2, h56, h⟩ := lc_bd2e h
  refine lc_cvi C (pc' := 59) (r := r56) (M' := (va_up M 19 s2)) (As := [.int t1, .int t2]) (rest := []) (c_X2_readDigit S X.2.1 M   t1 t2 s (r56, s2) h56) kl_RX2_48 (lc_at190 S _) rfl rfl rfl rfl (Nat.le_of_ble_eq_true rfl) ⟨Nat.le_of_ble_eq_true rfl, Nat.le_of_ble_eq_true rfl⟩ ⟨rfl, rfl⟩ (lc_z2 _ _) dX2_readNumber_56 rfl ?_
  refine lc_istore C (pc' := 61) (lo' := [(4, .int r56), (3, .int x3)]) dX2_readNumber_59 (Nat.le_of_ble_eq_true rfl) rfl rfl ?_
  refine lc_iload C (pc' := 63) 0 dX2_readNumber_61 rfl rfl ?_
  refine lc_bipush C (pc' := 65) (v := (-9 : Int32)) dX2_readNumber_63 (by decide) rfl ?_
  refine lc_icmp_ne C (pc' := 68) (tgt := 73) dX2_readNumber_65 (by decide) rfl (fun c65 => ?_) (fun c65 => ?_)
  · have h := (lc_if2 h).2 c65
    refine lc_bipush C (pc' := 75) (v := (10 : Int32)) dX2_readNumber_73 (by decide) rfl ?_
    refine lc_iload_n C (pc' := 76) 1 dX2_readNumber_75 rfl rfl ?_
    refine lc_imul C (pc' := 77) dX2_readNumber_76 rfl ?_
    refine lc_iload C (pc' := 79) 0 dX2_readNumber_77 rfl rfl ?_
    refine lc_iadd C (pc' := 80) dX2_readNumber_79 rfl ?_
    obtain rfl := Option.some.inj h
    exact lc_iret C rfl dX2_readNumber_80
  · have h := (lc_if2 h).1 c65
    refine lc_bipush C (pc' := 70) (v := (-9 : Int32)) dX2_readNumber_68 (by decide) rfl ?_
    refine lc_goto C (tgt := 80) dX2_readNumber_70 (by decide) ?_
    obtain rfl := Option.some.inj h
    exact lc_iret C rfl dX2_readNumber_80
def P_X2_readNumber_39  (x2 : Int32) (x3 : Int32) (t1 : Int32) (s : lc_St) : Option (Int32 × lc_St) :=
  if x3 = (x2 / (10 : Int32)) then P_X2_readNumber_56   x3 t1 (x2 - x2 / (10 : Int32) * (10 : Int32)) s else P_X2_readNumber_56   x3 t1 (9 : Int32) s
set_option maxRecDepth 100000 in
set_option maxHeartbeats 4000000 in
theorem w_X2_readNumber_39 {S : lc_Se} {X : lc_X} (C : lc_C X cX2_readNumber RX2 5 (some .int) rm_X2_readNumber) {M : lc_MM}  (out : Int32 × lc_St)  : ∀ (x2 : Int32) (x3 : Int32) (t1 : Int32) (s : lc_St), P_X2_readNumber_39  x2 x3 t1 s = some out → lc_J S X 5 0 0 (lc_QI S X 0 0 out.1 (va_up M 19 out.2)) 39 [(2, .int x2), (3, .int x3)] [.int t1, .ref (lc_ad S 190)] (va_up M 19 s) := by
  intro x2 x3 t1 s h
  rw [P_X2_readNumber_39] at h
  refine lc_iload_n C (pc' := 40) 1 dX2_readNumber_39 rfl rfl ?_
  refine lc_iload_n C (pc' := 41) 0 dX2_readNumber_40 rfl rfl ?_
  refine lc_bipush C (pc' := 43) (v := (10 : Int32)) dX2_readNumber_41 (by decide) rfl ?_
  refine lc_idiv C (pc' := 44) dX2_readNumber_43 (by decide) rfl ?_
  refine lc_icmp_ne C (pc' := 47) (tgt := 54) dX2_readNumber_44 (by decide) rfl (fun c44 => ?_) (fun c44 => ?_)
  · have h := (lc_if2 h).2 c44
    refine lc_bipush C (pc' := 56) (v := (9 : Int32)) dX2_readNumber_54 (by decide) rfl ?_
    refine lc_sub (lo' := [(3, .int x3)]) [1] rfl ?_
    exact w_X2_readNumber_56 C   out   x3 t1 (9 : Int32) s h
  · have h := (lc_if2 h).1 c44
    refine lc_iload_n C (pc' := 48) 0 dX2_readNumber_47 rfl rfl ?_
    refine lc_bipush C (pc' := 50) (v := (10 : Int32)) dX2_readNumber_48 (by decide) rfl ?_
    refine lc_irem C (pc' := 51) dX2_readNumber_50 (by decide) rfl ?_
    refine lc_goto C (tgt := 56) dX2_readNumber_51 (by decide) ?_
    refine lc_sub (lo' := [(3, .int x3)]) [1] rfl ?_
    exact w_X2_readNumber_56 C   out   x3 t1 (x2 - x2 / (10 : Int32) * (10 : Int32)) s h
def P_X2_readNumber  (x1 : Int32) (x2 : Int32) (s : lc_St) : Option (Int32 × lc_St) :=
  lc_bd2 (P_X2_readDigit (x1 / (10 : Int32)) (x2 / (10 : Int32)) s) (fun r9 s1 => if r9 = (-9 : Int32) then some ((-9 : Int32), s1) else if r9 = (x1 / (10 : Int32)) then P_X2_readNumber_39   x2 r9 (x1 - x1 / (10 : Int32) * (10 : Int32)) s1 else P_X2_readNumber_39   x2 r9 (0 : Int32) s1)
set_option maxRecDepth 100000 in
set_option maxHeartbeats 4000000 in
theorem c_X2_readNumber (S : lc_Se) (l : Launch) (M : lc_MM)  (x1 : Int32) (x2 : Int32) (s : lc_St) (out : Int32 × lc_St) (h : P_X2_readNumber x1 x2 s = some out) : lc_MI S l yX2_readNumber cX2_readNumber 5 (some .int) rm_X2_readNumber [.ref (lc_ad S 190), .int x1, .int x2] (va_up M 19 s) out.1 (va_up M 19 out.2) := by
  refine lc_mkI (own := RX2) pn_RX2 rfl (Nat.le_of_ble_eq_true rfl) (lo := [(0, .ref (lc_ad S 190)), (1, .int x1), (2, .int x2)]) rfl (fun X hX C => ?_)
  rw [P_X2_readNumber] at h
  refine lc_aload_n C (pc' := 1) 0 dX2_readNumber_0 rfl rfl ?_
  refine lc_iload_n C (pc' := 2) 1 dX2_readNumber_1 rfl rfl ?_
  refine lc_bipush C (pc' := 4) (v := (10 : Int32)) dX2_readNumber_2 (by decide) rfl ?_
  refine lc_idiv C (pc' := 5) dX2_readNumber_4 (by decide) rfl ?_
  refine lc_iload_n C (pc' := 6) 2 dX2_readNumber_5 rfl rfl ?_
  refine lc_bipush C (pc' := 8) (v := (10 : Int32)) dX2_readNumber_6 (by decide) rfl ?_
  refine lc_idiv C (pc' := 9) dX2_readNumber_8 (by decide) rfl ?_
  obtain ⟨r9, s1, h9, h⟩ := lc_bd2e h
  refine lc_cvi C (pc' := 12) (r := r9) (M' := (va_up M 19 s1)) (As := [.int (x1 / (10 : Int32)), .int (x2 / (10 : Int32))]) (rest := []) (c_X2_readDigit S X.2.1 M   (x1 / (10 : Int32)) (x2 / (10 : Int32)) s (r9, s1) h9) kl_RX2_48 (lc_at190 S _) rfl rfl rfl rfl (Nat.le_of_ble_eq_true rfl) ⟨Nat.le_of_ble_eq_true rfl, Nat.le_of_ble_eq_true rfl⟩ ⟨rfl, rfl⟩ (lc_z2 _ _) dX2_readNumber_9 rfl ?_
  refine lc_istore_n C (pc' := 13) (lo' := [(3, .int r9), (0, .ref (lc_ad S 190)), (1, .int x1), (2, .int x2)]) dX2_readNumber_12 (Nat.le_of_ble_eq_true rfl) rfl rfl ?_
  refine lc_iload_n C (pc' := 14) 0 dX2_readNumber_13 rfl rfl ?_
  refine lc_bipush C (pc' := 16) (v := (-9 : Int32)) dX2_readNumber_14 (by decide) rfl ?_
  refine lc_icmp_ne C (pc' := 19) (tgt := 22) dX2_readNumber_16 (by decide) rfl (fun c16 => ?_) (fun c16 => ?_)
  · have h := (lc_if2 h).2 c16
    refine lc_aload_n C (pc' := 23) 1 dX2_readNumber_22 rfl rfl ?_
    refine lc_iload_n C (pc' := 24) 0 dX2_readNumber_23 rfl rfl ?_
    refine lc_iload_n C (pc' := 25) 2 dX2_readNumber_24 rfl rfl ?_
    refine lc_bipush C (pc' := 27) (v := (10 : Int32)) dX2_readNumber_25 (by decide) rfl ?_
    refine lc_idiv C (pc' := 28) dX2_readNumber_27 (by decide) rfl ?_
    refine lc_icmp_ne C (pc' := 31) (tgt := 38) dX2_readNumber_28 (by decide) rfl (fun c28 => ?_) (fun c28 => ?_)
    · have h := (lc_if2 h).2 c28
      refine lc_iconst C (pc' := 39) (v := (0 : Int32)) dX2_readNumber_38 (by decide) rfl ?_
      refine lc_sub (lo' := [(2, .int x2), (3, .int r9)]) [3, 0] rfl ?_
      exact w_X2_readNumber_39 C   out   x2 r9 (0 : Int32) s1 h
    · have h := (lc_if2 h).1 c28
      refine lc_iload_n C (pc' := 32) 2 dX2_readNumber_31 rfl rfl ?_
      refine lc_bipush C (pc' := 34) (v := (10 : Int32)) dX2_readNumber_32 (by decide) rfl ?_
      refine lc_irem C (pc' := 35) dX2_readNumber_34 (by decide) rfl ?_
      refine lc_goto C (tgt := 39) dX2_readNumber_35 (by decide) ?_
      refine lc_sub (lo' := [(2, .int x2), (3, .int r9)]) [3, 0] rfl ?_
      exact w_X2_readNumber_39 C   out   x2 r9 (x1 - x1 / (10 : Int32) * (10 : Int32)) s1 h
  · have h := (lc_if2 h).1 c16
    refine lc_bipush C (pc' := 21) (v := (-9 : Int32)) dX2_readNumber_19 (by decide) rfl ?_
    obtain rfl := Option.some.inj h
    exact lc_iret C rfl dX2_readNumber_21
abbrev rm_X2_readCell : Room := { frames := 3, cells := 0, slots := 0, locals := 69 }
def P_X2_readCell   (b : lc_St) (s : lc_St) : Option (Int32 × lc_St × lc_St) :=
  if (b 0 0) < (8 : Int32) then lc_let (lc_ss s 0 1 ((s 0 1) + (1 : Int32))) (fun s1 => lc_bd2 (P_X2_readNumber (10 : Int32) (99 : Int32) s1) (fun r26 s2 => if r26 = (-9 : Int32) then some ((0 : Int32), b, s2) else lc_bd2 (P_X2_readNumber (0 : Int32) r26 s2) (fun r41 s3 => if r41 = (-9 : Int32) then some ((0 : Int32), b, s3) else lc_bd2 (P_X2_readDigit (0 : Int32) (3 : Int32) s3) (fun r56 s4 => if r56 = (-9 : Int32) then some ((0 : Int32), b, s4) else lc_bd2 (P_X0_putCell r26 r41 r56 b) (fun r73 s5 => if r73 = (-9 : Int32) then some ((0 : Int32), s5, s4) else some ((1 : Int32), s5, s4)))))) else some ((0 : Int32), b, s)
set_option maxRecDepth 100000 in
set_option maxHeartbeats 4000000 in
theorem c_X2_readCell (S : lc_Se) (l : Launch) (M : lc_MM) {k0 : Nat} (hk : k0 < 19)  (b : lc_St) (s : lc_St) (out : Int32 × lc_St × lc_St) (h : P_X2_readCell  b s = some out) : lc_MI S l yX2_readCell cX2_readCell 5 (some .boolean) rm_X2_readCell [.ref (lc_ad S 190), .ref (lc_ad S (10 * k0))] (va_up (va_up M k0 b) 19 s) out.1 (va_up (va_up M k0 out.2.1) 19 out.2.2) := by
  refine lc_mkI (own := RX2) pn_RX2 rfl (Nat.le_of_ble_eq_true rfl) (lo := [(0, .ref (lc_ad S 190)), (1, .ref (lc_ad S (10 * k0)))]) rfl (fun X hX C => ?_)
  rw [P_X2_readCell] at h
  refine lc_aload_n C (pc' := 1) 1 dX2_readCell_0 rfl rfl ?_
  refine lc_bg0 C (pc' := 4) (k0 := k0) hk (lc_in2 _ _ _ (Nat.ne_of_lt hk)) dX2_readCell_1 kf_RX2_41 rfl ?_
  refine lc_bipush C (pc' := 6) (v := (8 : Int32)) dX2_readCell_4 (by decide) rfl ?_
  refine lc_icmp_lt C (pc' := 9) (tgt := 11) dX2_readCell_6 (by decide) rfl (fun c6 => ?_) (fun c6 => ?_)
  · have h := (lc_if2 h).1 c6
    refine lc_aload_n C (pc' := 12) 0 dX2_readCell_11 rfl rfl ?_
    refine lc_dup C (pc' := 13) dX2_readCell_12 rfl rfl ?_
    refine lc_g190_at C (pc' := 16) (va_up_self _ _ _) dX2_readCell_13 kf_RX2_24 rfl ?_
    refine lc_iconst C (pc' := 17) (v := (1 : Int32)) dX2_readCell_16 (by decide) rfl ?_
    refine lc_iadd C (pc' := 18) dX2_readCell_17 rfl ?_
    obtain ⟨s1, es1, h⟩ := lc_let2 h
    refine lc_p190_at C (pc' := 21) (M' := (va_up (va_up M k0 b) 19 s1)) (va_up_self _ _ _) es1 (lc_up_up _ _ _ _) dX2_readCell_18 kf_RX2_24 rfl ?_
    refine lc_aload_n C (pc' := 22) 0 dX2_readCell_21 rfl rfl ?_
    refine lc_bipush C (pc' := 24) (v := (10 : Int32)) dX2_readCell_22 (by decide) rfl ?_
    refine lc_bipush C (pc' := 26) (v := (99 : Int32)) dX2_readCell_24 (by decide) rfl ?_
    obtain ⟨r26, s2, h26, h⟩ := lc_bd2e h
    refine lc_cvi C (pc' := 29) (r := r26) (M' := (va_up (va_up M k0 b) 19 s2)) (As := [.int (10 : Int32), .int (99 : Int32)]) (rest := []) (c_X2_readNumber S X.2.1 (va_up M k0 b)   (10 : Int32) (99 : Int32) s1 (r26, s2) h26) kl_RX2_44 (lc_at190 S _) rfl rfl rfl rfl (Nat.le_of_ble_eq_true rfl) ⟨Nat.le_of_ble_eq_true rfl, Nat.le_of_ble_eq_true rfl⟩ ⟨rfl, rfl⟩ (lc_z2 _ _) dX2_readCell_26 rfl ?_
    refine lc_istore_n C (pc' := 30) (lo' := [(2, .int r26), (0, .ref (lc_ad S 190)), (1, .ref (lc_ad S (10 * k0)))]) dX2_readCell_29 (Nat.le_of_ble_eq_true rfl) rfl rfl ?_
    refine lc_iload_n C (pc' := 31) 0 dX2_readCell_30 rfl rfl ?_
    refine lc_bipush C (pc' := 33) (v := (-9 : Int32)) dX2_readCell_31 (by decide) rfl ?_
    refine lc_icmp_ne C (pc' := 36) (tgt := 38) dX2_readCell_33 (by decide) rfl (fun c33 => ?_) (fun c33 => ?_)
    · have h := (lc_if2 h).2 c33
      refine lc_aload_n C (pc' := 39) 1 dX2_readCell_38 rfl rfl ?_
      refine lc_iconst C (pc' := 40) (v := (0 : Int32)) dX2_readCell_39 (by decide) rfl ?_
      refine lc_iload_n C (pc' := 41) 0 dX2_readCell_40 rfl rfl ?_
      obtain ⟨r41, s3, h41, h⟩ := lc_bd2e h
      refine lc_cvi C (pc' := 44) (r := r41) (M' := (va_up (va_up M k0 b) 19 s3)) (As := [.int (0 : Int32), .int r26]) (rest := []) (c_X2_readNumber S X.2.1 (va_up M k0 b)   (0 : Int32) r26 s2 (r41, s3) h41) kl_RX2_44 (lc_at190 S _) rfl rfl rfl rfl (Nat.le_of_ble_eq_true rfl) ⟨Nat.le_of_ble_eq_true rfl, Nat.le_of_ble_eq_true rfl⟩ ⟨rfl, rfl⟩ (lc_z2 _ _) dX2_readCell_41 rfl ?_
      refine lc_istore_n C (pc' := 45) (lo' := [(3, .int r41), (2, .int r26), (0, .ref (lc_ad S 190)), (1, .ref (lc_ad S (10 * k0)))]) dX2_readCell_44 (Nat.le_of_ble_eq_true rfl) rfl rfl ?_
      refine lc_iload_n C (pc' := 46) 0 dX2_readCell_45 rfl rfl ?_
      refine lc_bipush C (pc' := 48) (v := (-9 : Int32)) dX2_readCell_46 (by decide) rfl ?_
      refine lc_icmp_ne C (pc' := 51) (tgt := 53) dX2_readCell_48 (by decide) rfl (fun c48 => ?_) (fun c48 => ?_)
      · have h := (lc_if2 h).2 c48
        refine lc_aload_n C (pc' := 54) 2 dX2_readCell_53 rfl rfl ?_
        refine lc_iconst C (pc' := 55) (v := (0 : Int32)) dX2_readCell_54 (by decide) rfl ?_
        refine lc_iconst C (pc' := 56) (v := (3 : Int32)) dX2_readCell_55 (by decide) rfl ?_
        obtain ⟨r56, s4, h56, h⟩ := lc_bd2e h
        refine lc_cvi C (pc' := 59) (r := r56) (M' := (va_up (va_up M k0 b) 19 s4)) (As := [.int (0 : Int32), .int (3 : Int32)]) (rest := []) (c_X2_readDigit S X.2.1 (va_up M k0 b)   (0 : Int32) (3 : Int32) s3 (r56, s4) h56) kl_RX2_48 (lc_at190 S _) rfl rfl rfl rfl (Nat.le_of_ble_eq_true rfl) ⟨Nat.le_of_ble_eq_true rfl, Nat.le_of_ble_eq_true rfl⟩ ⟨rfl, rfl⟩ (lc_z2 _ _) dX2_readCell_56 rfl ?_
        refine lc_istore C (pc' := 61) (lo' := [(4, .int r56), (3, .int r41), (2, .int r26), (0, .ref (lc_ad S 190)), (1, .ref (lc_ad S (10 * k0)))]) dX2_readCell_59 (Nat.le_of_ble_eq_true rfl) rfl rfl ?_
        refine lc_iload C (pc' := 63) 0 dX2_readCell_61 rfl rfl ?_
        refine lc_bipush C (pc' := 65) (v := (-9 : Int32)) dX2_readCell_63 (by decide) rfl ?_
        refine lc_icmp_eq C (pc' := 68) (tgt := 85) dX2_readCell_65 (by decide) rfl (fun c65 => ?_) (fun c65 => ?_)
        · have h := (lc_if2 h).1 c65
          refine lc_iconst C (pc' := 86) (v := (0 : Int32)) dX2_readCell_85 (by decide) rfl ?_
          obtain rfl := Option.some.inj h
          exact lc_zret C rfl (Or.inl rfl) dX2_readCell_86
        · have h := (lc_if2 h).2 c65
          refine lc_aload_n C (pc' := 69) 4 dX2_readCell_68 rfl rfl ?_
          refine lc_iload_n C (pc' := 70) 2 dX2_readCell_69 rfl rfl ?_
          refine lc_iload_n C (pc' := 71) 1 dX2_readCell_70 rfl rfl ?_
          refine lc_iload C (pc' := 73) 0 dX2_readCell_71 rfl rfl ?_
          refine lc_meq (lc_up_swap M b s4 (Ne.symm (Nat.ne_of_lt hk))) ?_
          obtain ⟨r73, s5, h73, h⟩ := lc_bd2e h
          refine lc_cvi C (pc' := 76) (r := r73) (M' := (va_up (va_up M 19 s4) k0 s5)) (As := [.int r26, .int r41, .int r56]) (rest := []) (c_X0_putCell S X.2.1 (va_up M 19 s4) (k0 := k0) hk r26 r41 r56 b (r73, s5) h73) kl_RX2_51 (lc_at_b S _ hk) rfl rfl rfl rfl (Nat.le_of_ble_eq_true rfl) ⟨Nat.le_of_ble_eq_true rfl, Nat.le_of_ble_eq_true rfl⟩ ⟨rfl, rfl⟩ (lc_z2 _ _) dX2_readCell_73 rfl ?_
          refine lc_meq (lc_up_swap M s4 s5 (Nat.ne_of_lt hk)) ?_
          refine lc_bipush C (pc' := 78) (v := (-9 : Int32)) dX2_readCell_76 (by decide) rfl ?_
          refine lc_icmp_eq C (pc' := 81) (tgt := 85) dX2_readCell_78 (by decide) rfl (fun c78 => ?_) (fun c78 => ?_)
          · have h := (lc_if2 h).1 c78
            refine lc_iconst C (pc' := 86) (v := (0 : Int32)) dX2_readCell_85 (by decide) rfl ?_
            obtain rfl := Option.some.inj h
            exact lc_zret C rfl (Or.inl rfl) dX2_readCell_86
          · have h := (lc_if2 h).2 c78
            refine lc_iconst C (pc' := 82) (v := (1 : Int32)) dX2_readCell_81 (by decide) rfl ?_
            refine lc_goto C (tgt := 86) dX2_readCell_82 (by decide) ?_
            obtain rfl := Option.some.inj h
            exact lc_zret C rfl (Or.inr rfl) dX2_readCell_86
      · have h := (lc_if2 h).1 c48
        refine lc_iconst C (pc' := 52) (v := (0 : Int32)) dX2_readCell_51 (by decide) rfl ?_
        obtain rfl := Option.some.inj h
        exact lc_zret C rfl (Or.inl rfl) dX2_readCell_52
    · have h := (lc_if2 h).1 c33
      refine lc_iconst C (pc' := 37) (v := (0 : Int32)) dX2_readCell_36 (by decide) rfl ?_
      obtain rfl := Option.some.inj h
      exact lc_zret C rfl (Or.inl rfl) dX2_readCell_37
  · have h := (lc_if2 h).2 c6
    refine lc_iconst C (pc' := 10) (v := (0 : Int32)) dX2_readCell_9 (by decide) rfl ?_
    obtain rfl := Option.some.inj h
    exact lc_zret C rfl (Or.inl rfl) dX2_readCell_10
abbrev rm_X2_readLoan : Room := { frames := 4, cells := 0, slots := 0, locals := 90 }
def P_X2_readLoan   (b : lc_St) (s : lc_St) : Option (Int32 × lc_St × lc_St) :=
  if (b 0 0) < (2 : Int32) then some ((0 : Int32), b, s) else if (b 0 1) < (12 : Int32) then lc_let (s 0 1) (fun x2_23 => lc_let (lc_ss s 0 1 ((s 0 1) + (1 : Int32))) (fun s1 => lc_bd (P_X2_digitHere  s1) (fun r35 => lc_bd (P_X0_chargeOf r35 b) (fun r41 => if r41 = 0 then some ((0 : Int32), b, s1) else lc_let (lc_ss s1 0 1 ((s1 0 1) + (1 : Int32))) (fun s2 => lc_bd (P_X2_digitHere  s2) (fun r60 => lc_bd (P_X0_hasCell r60 b) (fun r68 => if r68 = 0 then some ((0 : Int32), b, s2) else if r60 = r35 then some ((0 : Int32), b, s2) else lc_let (lc_ss s2 0 1 ((s2 0 1) + (1 : Int32))) (fun s3 => lc_bd (P_X0_chargeOf r35 b) (fun r96 => lc_bd2 (P_X2_readNumber (1 : Int32) r96 s3) (fun r99 s4 => if r99 = (-9 : Int32) then some ((0 : Int32), b, s4) else lc_bd2 (P_X2_readNumber (0 : Int32) (50 : Int32) s4) (fun r117 s5 => if r117 = (-9 : Int32) then some ((0 : Int32), b, s5) else lc_bd2 (P_X0_makeLoan r35 r60 r99 r117 b) (fun r139 s6 => if r139 = (-9 : Int32) then lc_let (lc_ss s5 0 1 x2_23) (fun s7 => some ((0 : Int32), s6, s7)) else some ((1 : Int32), s6, s5))))))))))))) else some ((0 : Int32), b, s)
set_option maxRecDepth 100000 in
set_option maxHeartbeats 4000000 in
theorem c_X2_readLoan (S : lc_Se) (l : Launch) (M : lc_MM) {k0 : Nat} (hk : k0 < 19)  (b : lc_St) (s : lc_St) (out : Int32 × lc_St × lc_St) (h : P_X2_readLoan  b s = some out) : lc_MI S l yX2_readLoan cX2_readLoan 7 (some .boolean) rm_X2_readLoan [.ref (lc_ad S 190), .ref (lc_ad S (10 * k0))] (va_up (va_up M k0 b) 19 s) out.1 (va_up (va_up M k0 out.2.1) 19 out.2.2) := by
  refine lc_mkI (own := RX2) pn_RX2 rfl (Nat.le_of_ble_eq_true rfl) (lo := [(0, .ref (lc_ad S 190)), (1, .ref (lc_ad S (10 * k0)))]) rfl (fun X hX C => ?_)
  rw [P_X2_readLoan] at h
  refine lc_aload_n C (pc' := 1) 1 dX2_readLoan_0 rfl rfl ?_
  refine lc_bg0 C (pc' := 4) (k0 := k0) hk (lc_in2 _ _ _ (Nat.ne_of_lt hk)) dX2_readLoan_1 kf_RX2_41 rfl ?_
  refine lc_iconst C (pc' := 5) (v := (2 : Int32)) dX2_readLoan_4 (by decide) rfl ?_
  refine lc_icmp_lt C (pc' := 8) (tgt := 17) dX2_readLoan_5 (by decide) rfl (fun c5 => ?_) (fun c5 => ?_)
  · have h := (lc_if2 h).1 c5
    refine lc_iconst C (pc' := 18) (v := (0 : Int32)) dX2_readLoan_17 (by decide) rfl ?_
    obtain rfl := Option.some.inj h
    exact lc_zret C rfl (Or.inl rfl) dX2_readLoan_18
  · have h := (lc_if2 h).2 c5
    refine lc_aload_n C (pc' := 9) 1 dX2_readLoan_8 rfl rfl ?_
    refine lc_bg1 C (pc' := 12) (k0 := k0) hk (lc_in2 _ _ _ (Nat.ne_of_lt hk)) dX2_readLoan_9 kf_RX2_55 rfl ?_
    refine lc_bipush C (pc' := 14) (v := (12 : Int32)) dX2_readLoan_12 (by decide) rfl ?_
    refine lc_icmp_lt C (pc' := 17) (tgt := 19) dX2_readLoan_14 (by decide) rfl (fun c14 => ?_) (fun c14 => ?_)
    · have h := (lc_if2 h).1 c14
      refine lc_aload_n C (pc' := 20) 0 dX2_readLoan_19 rfl rfl ?_
      refine lc_g190_at C (pc' := 23) (va_up_self _ _ _) dX2_readLoan_20 kf_RX2_24 rfl ?_
      obtain ⟨x2_23, e2_23, h⟩ := lc_let2 h
      rw [e2_23]
      refine lc_istore_n C (pc' := 24) (lo' := [(2, .int x2_23), (0, .ref (lc_ad S 190)), (1, .ref (lc_ad S (10 * k0)))]) dX2_readLoan_23 (Nat.le_of_ble_eq_true rfl) rfl rfl ?_
      refine lc_aload_n C (pc' := 25) 1 dX2_readLoan_24 rfl rfl ?_
      refine lc_dup C (pc' := 26) dX2_readLoan_25 rfl rfl ?_
      refine lc_g190_at C (pc' := 29) (va_up_self _ _ _) dX2_readLoan_26 kf_RX2_24 rfl ?_
      refine lc_iconst C (pc' := 30) (v := (1 : Int32)) dX2_readLoan_29 (by decide) rfl ?_
      refine lc_iadd C (pc' := 31) dX2_readLoan_30 rfl ?_
      obtain ⟨s1, es1, h⟩ := lc_let2 h
      refine lc_p190_at C (pc' := 34) (M' := (va_up (va_up M k0 b) 19 s1)) (va_up_self _ _ _) es1 (lc_up_up _ _ _ _) dX2_readLoan_31 kf_RX2_24 rfl ?_
      refine lc_aload_n C (pc' := 35) 1 dX2_readLoan_34 rfl rfl ?_
      obtain ⟨r35, h35, h⟩ := lc_bde h
      refine lc_cvi C (pc' := 38) (r := r35) (M' := (va_up (va_up M k0 b) 19 s1)) (As := []) (rest := []) (c_X2_digitHere S X.2.1 (va_up M k0 b)    s1 r35 h35) kl_RX2_58 (lc_at190 S _) rfl rfl rfl rfl (Nat.le_of_ble_eq_true rfl) ⟨Nat.le_of_ble_eq_true rfl, Nat.le_of_ble_eq_true rfl⟩ ⟨rfl, rfl⟩ (lc_z2 _ _) dX2_readLoan_35 rfl ?_
      refine lc_istore_n C (pc' := 39) (lo' := [(3, .int r35), (2, .int x2_23), (0, .ref (lc_ad S 190)), (1, .ref (lc_ad S (10 * k0)))]) dX2_readLoan_38 (Nat.le_of_ble_eq_true rfl) rfl rfl ?_
      refine lc_aload_n C (pc' := 40) 3 dX2_readLoan_39 rfl rfl ?_
      refine lc_iload_n C (pc' := 41) 0 dX2_readLoan_40 rfl rfl ?_
      refine lc_meq (lc_up_swap M b s1 (Ne.symm (Nat.ne_of_lt hk))) ?_
      obtain ⟨r41, h41, h⟩ := lc_bde h
      refine lc_cvi C (pc' := 44) (r := r41) (M' := (va_up (va_up M 19 s1) k0 b)) (As := [.int r35]) (rest := []) (c_X0_chargeOf S X.2.1 (va_up M 19 s1) (k0 := k0) hk r35 b r41 h41) kl_RX2_62 (lc_at_b S _ hk) rfl rfl rfl rfl (Nat.le_of_ble_eq_true rfl) ⟨Nat.le_of_ble_eq_true rfl, Nat.le_of_ble_eq_true rfl⟩ ⟨rfl, rfl⟩ (lc_z2 _ _) dX2_readLoan_41 rfl ?_
      refine lc_meq (lc_up_swap M s1 b (Nat.ne_of_lt hk)) ?_
      refine lc_if_ne C (pc' := 47) (tgt := 49) dX2_readLoan_44 (by decide) rfl (fun c44 => ?_) (fun c44 => ?_)
      · have h := (lc_if2 h).2 c44
        refine lc_aload_n C (pc' := 50) 2 dX2_readLoan_49 rfl rfl ?_
        refine lc_dup C (pc' := 51) dX2_readLoan_50 rfl rfl ?_
        refine lc_g190_at C (pc' := 54) (va_up_self _ _ _) dX2_readLoan_51 kf_RX2_24 rfl ?_
        refine lc_iconst C (pc' := 55) (v := (1 : Int32)) dX2_readLoan_54 (by decide) rfl ?_
        refine lc_iadd C (pc' := 56) dX2_readLoan_55 rfl ?_
        obtain ⟨s2, es2, h⟩ := lc_let2 h
        refine lc_p190_at C (pc' := 59) (M' := (va_up (va_up M k0 b) 19 s2)) (va_up_self _ _ _) es2 (lc_up_up _ _ _ _) dX2_readLoan_56 kf_RX2_24 rfl ?_
        refine lc_aload_n C (pc' := 60) 2 dX2_readLoan_59 rfl rfl ?_
        obtain ⟨r60, h60, h⟩ := lc_bde h
        refine lc_cvi C (pc' := 63) (r := r60) (M' := (va_up (va_up M k0 b) 19 s2)) (As := []) (rest := []) (c_X2_digitHere S X.2.1 (va_up M k0 b)    s2 r60 h60) kl_RX2_58 (lc_at190 S _) rfl rfl rfl rfl (Nat.le_of_ble_eq_true rfl) ⟨Nat.le_of_ble_eq_true rfl, Nat.le_of_ble_eq_true rfl⟩ ⟨rfl, rfl⟩ (lc_z2 _ _) dX2_readLoan_60 rfl ?_
        refine lc_istore C (pc' := 65) (lo' := [(4, .int r60), (3, .int r35), (2, .int x2_23), (0, .ref (lc_ad S 190)), (1, .ref (lc_ad S (10 * k0)))]) dX2_readLoan_63 (Nat.le_of_ble_eq_true rfl) rfl rfl ?_
        refine lc_aload_n C (pc' := 66) 4 dX2_readLoan_65 rfl rfl ?_
        refine lc_iload C (pc' := 68) 0 dX2_readLoan_66 rfl rfl ?_
        refine lc_meq (lc_up_swap M b s2 (Ne.symm (Nat.ne_of_lt hk))) ?_
        obtain ⟨r68, h68, h⟩ := lc_bde h
        refine lc_cvi C (pc' := 71) (r := r68) (M' := (va_up (va_up M 19 s2) k0 b)) (As := [.int r60]) (rest := []) (c_X0_hasCell S X.2.1 (va_up M 19 s2) (k0 := k0) hk r60 b r68 h68) kl_RX2_66 (lc_at_b S _ hk) rfl rfl rfl rfl (Nat.le_of_ble_eq_true rfl) ⟨Nat.le_of_ble_eq_true rfl, Nat.le_of_ble_eq_true rfl⟩ ⟨rfl, rfl⟩ (lc_z2 _ _) dX2_readLoan_68 rfl ?_
        refine lc_meq (lc_up_swap M s2 b (Nat.ne_of_lt hk)) ?_
        refine lc_if_eq C (pc' := 74) (tgt := 80) dX2_readLoan_71 (by decide) rfl (fun c71 => ?_) (fun c71 => ?_)
        · have h := (lc_if2 h).1 c71
          refine lc_iconst C (pc' := 81) (v := (0 : Int32)) dX2_readLoan_80 (by decide) rfl ?_
          obtain rfl := Option.some.inj h
          exact lc_zret C rfl (Or.inl rfl) dX2_readLoan_81
        · have h := (lc_if2 h).2 c71
          refine lc_iload C (pc' := 76) 0 dX2_readLoan_74 rfl rfl ?_
          refine lc_iload_n C (pc' := 77) 1 dX2_readLoan_76 rfl rfl ?_
          refine lc_icmp_ne C (pc' := 80) (tgt := 82) dX2_readLoan_77 (by decide) rfl (fun c77 => ?_) (fun c77 => ?_)
          · have h := (lc_if2 h).2 c77
            refine lc_aload_n C (pc' := 83) 3 dX2_readLoan_82 rfl rfl ?_
            refine lc_dup C (pc' := 84) dX2_readLoan_83 rfl rfl ?_
            refine lc_g190_at C (pc' := 87) (va_up_self _ _ _) dX2_readLoan_84 kf_RX2_24 rfl ?_
            refine lc_iconst C (pc' := 88) (v := (1 : Int32)) dX2_readLoan_87 (by decide) rfl ?_
            refine lc_iadd C (pc' := 89) dX2_readLoan_88 rfl ?_
            obtain ⟨s3, es3, h⟩ := lc_let2 h
            refine lc_p190_at C (pc' := 92) (M' := (va_up (va_up M k0 b) 19 s3)) (va_up_self _ _ _) es3 (lc_up_up _ _ _ _) dX2_readLoan_89 kf_RX2_24 rfl ?_
            refine lc_aload_n C (pc' := 93) 3 dX2_readLoan_92 rfl rfl ?_
            refine lc_iconst C (pc' := 94) (v := (1 : Int32)) dX2_readLoan_93 (by decide) rfl ?_
            refine lc_aload_n C (pc' := 95) 4 dX2_readLoan_94 rfl rfl ?_
            refine lc_iload_n C (pc' := 96) 1 dX2_readLoan_95 rfl rfl ?_
            refine lc_meq (lc_up_swap M b s3 (Ne.symm (Nat.ne_of_lt hk))) ?_
            obtain ⟨r96, h96, h⟩ := lc_bde h
            refine lc_cvi C (pc' := 99) (r := r96) (M' := (va_up (va_up M 19 s3) k0 b)) (As := [.int r35]) (rest := [.int (1 : Int32), .ref (lc_ad S 190)]) (c_X0_chargeOf S X.2.1 (va_up M 19 s3) (k0 := k0) hk r35 b r96 h96) kl_RX2_62 (lc_at_b S _ hk) rfl rfl rfl rfl (Nat.le_of_ble_eq_true rfl) ⟨Nat.le_of_ble_eq_true rfl, Nat.le_of_ble_eq_true rfl⟩ ⟨rfl, rfl⟩ (lc_z2 _ _) dX2_readLoan_96 rfl ?_
            refine lc_meq (lc_up_swap M s3 b (Nat.ne_of_lt hk)) ?_
            obtain ⟨r99, s4, h99, h⟩ := lc_bd2e h
            refine lc_cvi C (pc' := 102) (r := r99) (M' := (va_up (va_up M k0 b) 19 s4)) (As := [.int (1 : Int32), .int r96]) (rest := []) (c_X2_readNumber S X.2.1 (va_up M k0 b)   (1 : Int32) r96 s3 (r99, s4) h99) kl_RX2_44 (lc_at190 S _) rfl rfl rfl rfl (Nat.le_of_ble_eq_true rfl) ⟨Nat.le_of_ble_eq_true rfl, Nat.le_of_ble_eq_true rfl⟩ ⟨rfl, rfl⟩ (lc_z2 _ _) dX2_readLoan_99 rfl ?_
            refine lc_istore C (pc' := 104) (lo' := [(5, .int r99), (4, .int r60), (3, .int r35), (2, .int x2_23), (0, .ref (lc_ad S 190)), (1, .ref (lc_ad S (10 * k0)))]) dX2_readLoan_102 (Nat.le_of_ble_eq_true rfl) rfl rfl ?_
            refine lc_iload C (pc' := 106) 0 dX2_readLoan_104 rfl rfl ?_
            refine lc_bipush C (pc' := 108) (v := (-9 : Int32)) dX2_readLoan_106 (by decide) rfl ?_
            refine lc_icmp_ne C (pc' := 111) (tgt := 113) dX2_readLoan_108 (by decide) rfl (fun c108 => ?_) (fun c108 => ?_)
            · have h := (lc_if2 h).2 c108
              refine lc_aload_n C (pc' := 114) 4 dX2_readLoan_113 rfl rfl ?_
              refine lc_iconst C (pc' := 115) (v := (0 : Int32)) dX2_readLoan_114 (by decide) rfl ?_
              refine lc_bipush C (pc' := 117) (v := (50 : Int32)) dX2_readLoan_115 (by decide) rfl ?_
              obtain ⟨r117, s5, h117, h⟩ := lc_bd2e h
              refine lc_cvi C (pc' := 120) (r := r117) (M' := (va_up (va_up M k0 b) 19 s5)) (As := [.int (0 : Int32), .int (50 : Int32)]) (rest := []) (c_X2_readNumber S X.2.1 (va_up M k0 b)   (0 : Int32) (50 : Int32) s4 (r117, s5) h117) kl_RX2_44 (lc_at190 S _) rfl rfl rfl rfl (Nat.le_of_ble_eq_true rfl) ⟨Nat.le_of_ble_eq_true rfl, Nat.le_of_ble_eq_true rfl⟩ ⟨rfl, rfl⟩ (lc_z2 _ _) dX2_readLoan_117 rfl ?_
              refine lc_istore C (pc' := 122) (lo' := [(6, .int r117), (5, .int r99), (4, .int r60), (3, .int r35), (2, .int x2_23), (0, .ref (lc_ad S 190)), (1, .ref (lc_ad S (10 * k0)))]) dX2_readLoan_120 (Nat.le_of_ble_eq_true rfl) rfl rfl ?_
              refine lc_iload C (pc' := 124) 0 dX2_readLoan_122 rfl rfl ?_
              refine lc_bipush C (pc' := 126) (v := (-9 : Int32)) dX2_readLoan_124 (by decide) rfl ?_
              refine lc_icmp_ne C (pc' := 129) (tgt := 131) dX2_readLoan_126 (by decide) rfl (fun c126 => ?_) (fun c126 => ?_)
              · have h := (lc_if2 h).2 c126
                refine lc_aload_n C (pc' := 132) 6 dX2_readLoan_131 rfl rfl ?_
                refine lc_iload_n C (pc' := 133) 3 dX2_readLoan_132 rfl rfl ?_
                refine lc_iload C (pc' := 135) 2 dX2_readLoan_133 rfl rfl ?_
                refine lc_iload C (pc' := 137) 1 dX2_readLoan_135 rfl rfl ?_
                refine lc_iload C (pc' := 139) 0 dX2_readLoan_137 rfl rfl ?_
                refine lc_meq (lc_up_swap M b s5 (Ne.symm (Nat.ne_of_lt hk))) ?_
                obtain ⟨r139, s6, h139, h⟩ := lc_bd2e h
                refine lc_cvi C (pc' := 142) (r := r139) (M' := (va_up (va_up M 19 s5) k0 s6)) (As := [.int r35, .int r60, .int r99, .int r117]) (rest := []) (c_X0_makeLoan S X.2.1 (va_up M 19 s5) (k0 := k0) hk r35 r60 r99 r117 b (r139, s6) h139) kl_RX2_70 (lc_at_b S _ hk) rfl rfl rfl rfl (Nat.le_of_ble_eq_true rfl) ⟨Nat.le_of_ble_eq_true rfl, Nat.le_of_ble_eq_true rfl⟩ ⟨rfl, rfl⟩ (lc_z2 _ _) dX2_readLoan_139 rfl ?_
                refine lc_meq (lc_up_swap M s5 s6 (Nat.ne_of_lt hk)) ?_
                refine lc_bipush C (pc' := 144) (v := (-9 : Int32)) dX2_readLoan_142 (by decide) rfl ?_
                refine lc_icmp_ne C (pc' := 147) (tgt := 154) dX2_readLoan_144 (by decide) rfl (fun c144 => ?_) (fun c144 => ?_)
                · have h := (lc_if2 h).2 c144
                  refine lc_iconst C (pc' := 155) (v := (1 : Int32)) dX2_readLoan_154 (by decide) rfl ?_
                  obtain rfl := Option.some.inj h
                  exact lc_zret C rfl (Or.inr rfl) dX2_readLoan_155
                · have h := (lc_if2 h).1 c144
                  refine lc_aload_n C (pc' := 148) 5 dX2_readLoan_147 rfl rfl ?_
                  refine lc_iload_n C (pc' := 149) 4 dX2_readLoan_148 rfl rfl ?_
                  obtain ⟨s7, es7, h⟩ := lc_let2 h
                  refine lc_p190_at C (pc' := 152) (M' := (va_up (va_up M k0 s6) 19 s7)) (va_up_self _ _ _) es7 (lc_up_up _ _ _ _) dX2_readLoan_149 kf_RX2_24 rfl ?_
                  refine lc_iconst C (pc' := 153) (v := (0 : Int32)) dX2_readLoan_152 (by decide) rfl ?_
                  obtain rfl := Option.some.inj h
                  exact lc_zret C rfl (Or.inl rfl) dX2_readLoan_153
              · have h := (lc_if2 h).1 c126
                refine lc_iconst C (pc' := 130) (v := (0 : Int32)) dX2_readLoan_129 (by decide) rfl ?_
                obtain rfl := Option.some.inj h
                exact lc_zret C rfl (Or.inl rfl) dX2_readLoan_130
            · have h := (lc_if2 h).1 c108
              refine lc_iconst C (pc' := 112) (v := (0 : Int32)) dX2_readLoan_111 (by decide) rfl ?_
              obtain rfl := Option.some.inj h
              exact lc_zret C rfl (Or.inl rfl) dX2_readLoan_112
          · have h := (lc_if2 h).1 c77
            refine lc_iconst C (pc' := 81) (v := (0 : Int32)) dX2_readLoan_80 (by decide) rfl ?_
            obtain rfl := Option.some.inj h
            exact lc_zret C rfl (Or.inl rfl) dX2_readLoan_81
      · have h := (lc_if2 h).1 c44
        refine lc_iconst C (pc' := 48) (v := (0 : Int32)) dX2_readLoan_47 (by decide) rfl ?_
        obtain rfl := Option.some.inj h
        exact lc_zret C rfl (Or.inl rfl) dX2_readLoan_48
    · have h := (lc_if2 h).2 c14
      refine lc_iconst C (pc' := 18) (v := (0 : Int32)) dX2_readLoan_17 (by decide) rfl ?_
      obtain rfl := Option.some.inj h
      exact lc_zret C rfl (Or.inl rfl) dX2_readLoan_18
abbrev rm_X2_readPart : Room := { frames := 5, cells := 0, slots := 0, locals := 116 }
def P_X2_readPart   (b : lc_St) (s : lc_St) : Option (Int32 × lc_St × lc_St) :=
  lc_bd (P_X2_isAt (99 : Int32) s) (fun r3 => if r3 = 0 then lc_bd (P_X2_isAt (108 : Int32) s) (fun r18 => if r18 = 0 then some ((0 : Int32), b, s) else lc_bd3 (P_X2_readLoan  b s) (fun r26 s1 s2 => if r26 = 0 then some ((0 : Int32), s1, s2) else some ((1 : Int32), s1, s2))) else lc_bd3 (P_X2_readCell  b s) (fun r11 s3 s4 => lc_if (r11 = 0 ∨ r11 = 1) (some (r11, s3, s4))))
set_option maxRecDepth 100000 in
set_option maxHeartbeats 4000000 in
theorem c_X2_readPart (S : lc_Se) (l : Launch) (M : lc_MM) {k0 : Nat} (hk : k0 < 19)  (b : lc_St) (s : lc_St) (out : Int32 × lc_St × lc_St) (h : P_X2_readPart  b s = some out) : lc_MI S l yX2_readPart cX2_readPart 2 (some .boolean) rm_X2_readPart [.ref (lc_ad S 190), .ref (lc_ad S (10 * k0))] (va_up (va_up M k0 b) 19 s) out.1 (va_up (va_up M k0 out.2.1) 19 out.2.2) := by
  refine lc_mkI (own := RX2) pn_RX2 rfl (Nat.le_of_ble_eq_true rfl) (lo := [(0, .ref (lc_ad S 190)), (1, .ref (lc_ad S (10 * k0)))]) rfl (fun X hX C => ?_)
  rw [P_X2_readPart] at h
  refine lc_aload_n C (pc' := 1) 0 dX2_readPart_0 rfl rfl ?_
  refine lc_bipush C (pc' := 3) (v := (99 : Int32)) dX2_readPart_1 (by decide) rfl ?_
  obtain ⟨r3, h3, h⟩ := lc_bde h
  refine lc_cvi C (pc' := 6) (r := r3) (M' := (va_up (va_up M k0 b) 19 s)) (As := [.int (99 : Int32)]) (rest := []) (c_X2_isAt S X.2.1 (va_up M k0 b)   (99 : Int32) s r3 h3) kl_RX2_27 (lc_at190 S _) rfl rfl rfl rfl (Nat.le_of_ble_eq_true rfl) ⟨Nat.le_of_ble_eq_true rfl, Nat.le_of_ble_eq_true rfl⟩ ⟨rfl, rfl⟩ (lc_z2 _ _) dX2_readPart_3 rfl ?_
  refine lc_if_eq C (pc' := 9) (tgt := 15) dX2_readPart_6 (by decide) rfl (fun c6 => ?_) (fun c6 => ?_)
  · have h := (lc_if2 h).1 c6
    refine lc_aload_n C (pc' := 16) 0 dX2_readPart_15 rfl rfl ?_
    refine lc_bipush C (pc' := 18) (v := (108 : Int32)) dX2_readPart_16 (by decide) rfl ?_
    obtain ⟨r18, h18, h⟩ := lc_bde h
    refine lc_cvi C (pc' := 21) (r := r18) (M' := (va_up (va_up M k0 b) 19 s)) (As := [.int (108 : Int32)]) (rest := []) (c_X2_isAt S X.2.1 (va_up M k0 b)   (108 : Int32) s r18 h18) kl_RX2_27 (lc_at190 S _) rfl rfl rfl rfl (Nat.le_of_ble_eq_true rfl) ⟨Nat.le_of_ble_eq_true rfl, Nat.le_of_ble_eq_true rfl⟩ ⟨rfl, rfl⟩ (lc_z2 _ _) dX2_readPart_18 rfl ?_
    refine lc_if_eq C (pc' := 24) (tgt := 36) dX2_readPart_21 (by decide) rfl (fun c21 => ?_) (fun c21 => ?_)
    · have h := (lc_if2 h).1 c21
      refine lc_iconst C (pc' := 37) (v := (0 : Int32)) dX2_readPart_36 (by decide) rfl ?_
      obtain rfl := Option.some.inj h
      exact lc_zret C rfl (Or.inl rfl) dX2_readPart_37
    · have h := (lc_if2 h).2 c21
      refine lc_aload_n C (pc' := 25) 0 dX2_readPart_24 rfl rfl ?_
      refine lc_aload_n C (pc' := 26) 1 dX2_readPart_25 rfl rfl ?_
      obtain ⟨r26, s1, s2, h26, h⟩ := lc_bd3e h
      refine lc_cvi C (pc' := 29) (r := r26) (M' := (va_up (va_up M k0 s1) 19 s2)) (As := [.ref (lc_ad S (10 * k0))]) (rest := []) (c_X2_readLoan S X.2.1 M (k0 := k0) hk  b s (r26, s1, s2) h26) kl_RX2_38 (lc_at190 S _) rfl rfl rfl rfl (Nat.le_of_ble_eq_true rfl) ⟨Nat.le_of_ble_eq_true rfl, Nat.le_of_ble_eq_true rfl⟩ ⟨rfl, rfl⟩ (lc_z2 _ _) dX2_readPart_26 rfl ?_
      refine lc_if_eq C (pc' := 32) (tgt := 36) dX2_readPart_29 (by decide) rfl (fun c29 => ?_) (fun c29 => ?_)
      · have h := (lc_if2 h).1 c29
        refine lc_iconst C (pc' := 37) (v := (0 : Int32)) dX2_readPart_36 (by decide) rfl ?_
        obtain rfl := Option.some.inj h
        exact lc_zret C rfl (Or.inl rfl) dX2_readPart_37
      · have h := (lc_if2 h).2 c29
        refine lc_iconst C (pc' := 33) (v := (1 : Int32)) dX2_readPart_32 (by decide) rfl ?_
        refine lc_goto C (tgt := 37) dX2_readPart_33 (by decide) ?_
        obtain rfl := Option.some.inj h
        exact lc_zret C rfl (Or.inr rfl) dX2_readPart_37
  · have h := (lc_if2 h).2 c6
    refine lc_aload_n C (pc' := 10) 0 dX2_readPart_9 rfl rfl ?_
    refine lc_aload_n C (pc' := 11) 1 dX2_readPart_10 rfl rfl ?_
    obtain ⟨r11, s3, s4, h11, h⟩ := lc_bd3e h
    refine lc_cvi C (pc' := 14) (r := r11) (M' := (va_up (va_up M k0 s3) 19 s4)) (As := [.ref (lc_ad S (10 * k0))]) (rest := []) (c_X2_readCell S X.2.1 M (k0 := k0) hk  b s (r11, s3, s4) h11) kl_RX2_35 (lc_at190 S _) rfl rfl rfl rfl (Nat.le_of_ble_eq_true rfl) ⟨Nat.le_of_ble_eq_true rfl, Nat.le_of_ble_eq_true rfl⟩ ⟨rfl, rfl⟩ (lc_z2 _ _) dX2_readPart_11 rfl ?_
    obtain ⟨hb14, h⟩ := lc_ife h
    obtain rfl := Option.some.inj h
    exact lc_zret C rfl hb14 dX2_readPart_14
abbrev rm_X2_readInto : Room := { frames := 6, cells := 0, slots := 0, locals := 137 }
def P_X2_readInto_35  : Nat → Int32 → lc_St → lc_St → Option (Int32 × lc_St × lc_St)
  | 0, _, _, _ => none
  | n + 1, x2, b, s =>
    if (120 : Int32) ≤ x2 then some ((-9 : Int32), b, s) else if (s 0 0) ≤ (s 0 1) then some ((-9 : Int32), b, s) else lc_bd3 (P_X2_readPart  b s) (fun r54 s4 s5 => if r54 = 0 then some ((s5 0 1), s4, s5) else lc_let (x2 + (1 : Int32)) (fun x2_65 => P_X2_readInto_35  n x2_65 s4 s5))
set_option maxRecDepth 100000 in
set_option maxHeartbeats 4000000 in
theorem w_X2_readInto_35 {S : lc_Se} {X : lc_X} (C : lc_C X cX2_readInto RX2 3 (some .int) rm_X2_readInto) {M : lc_MM} {k0 : Nat} (hk : k0 < 19) (out : Int32 × lc_St × lc_St)  : ∀ (n : Nat) (x2 : Int32) (b : lc_St) (s : lc_St), P_X2_readInto_35  n x2 b s = some out → lc_J S X 3 0 0 (lc_QI S X 0 0 out.1 (va_up (va_up M k0 out.2.1) 19 out.2.2)) 35 [(0, .ref (lc_ad S 190)), (1, .ref (lc_ad S (10 * k0))), (2, .int x2)] [] (va_up (va_up M k0 b) 19 s) := by
  intro n
  induction n with
  | zero =>
    intro x2 b s h
    rw [P_X2_readInto_35] at h
    cases h
  | succ n ih =>
    intro x2 b s h
    rw [P_X2_readInto_35] at h
    refine lc_iload_n C (pc' := 36) 2 dX2_readInto_35 rfl rfl ?_
    refine lc_bipush C (pc' := 38) (v := (120 : Int32)) dX2_readInto_36 (by decide) rfl ?_
    refine lc_icmp_ge C (pc' := 41) (tgt := 71) dX2_readInto_38 (by decide) rfl (fun c38 => ?_) (fun c38 => ?_)
    · have h := (lc_if2 h).1 c38
      refine lc_bipush C (pc' := 73) (v := (-9 : Int32)) dX2_readInto_71 (by decide) rfl ?_
      obtain rfl := Option.some.inj h
      exact lc_iret C rfl dX2_readInto_73
    · have h := (lc_if2 h).2 c38
      refine lc_aload_n C (pc' := 42) 0 dX2_readInto_41 rfl rfl ?_
      refine lc_g190_at C (pc' := 45) (va_up_self _ _ _) dX2_readInto_42 kf_RX2_24 rfl ?_
      refine lc_aload_n C (pc' := 46) 0 dX2_readInto_45 rfl rfl ?_
      refine lc_g190_length C (pc' := 49) (va_up_self _ _ _) dX2_readInto_46 kf_RX2_15 rfl ?_
      refine lc_icmp_ge C (pc' := 52) (tgt := 71) dX2_readInto_49 (by decide) rfl (fun c49 => ?_) (fun c49 => ?_)
      · have h := (lc_if2 h).1 c49
        refine lc_bipush C (pc' := 73) (v := (-9 : Int32)) dX2_readInto_71 (by decide) rfl ?_
        obtain rfl := Option.some.inj h
        exact lc_iret C rfl dX2_readInto_73
      · have h := (lc_if2 h).2 c49
        refine lc_aload_n C (pc' := 53) 0 dX2_readInto_52 rfl rfl ?_
        refine lc_aload_n C (pc' := 54) 1 dX2_readInto_53 rfl rfl ?_
        obtain ⟨r54, s4, s5, h54, h⟩ := lc_bd3e h
        refine lc_cvi C (pc' := 57) (r := r54) (M' := (va_up (va_up M k0 s4) 19 s5)) (As := [.ref (lc_ad S (10 * k0))]) (rest := []) (c_X2_readPart S X.2.1 M (k0 := k0) hk  b s (r54, s4, s5) h54) kl_RX2_31 (lc_at190 S _) rfl rfl rfl rfl (Nat.le_of_ble_eq_true rfl) ⟨Nat.le_of_ble_eq_true rfl, Nat.le_of_ble_eq_true rfl⟩ ⟨rfl, rfl⟩ (lc_z2 _ _) dX2_readInto_54 rfl ?_
        refine lc_if_ne C (pc' := 60) (tgt := 65) dX2_readInto_57 (by decide) rfl (fun c57 => ?_) (fun c57 => ?_)
        · have h := (lc_if2 h).2 c57
          obtain ⟨x2_65, e2_65, h⟩ := lc_let2 h
          refine lc_iinc C (pc' := 68) (lo' := [(2, .int x2_65), (0, .ref (lc_ad S 190)), (1, .ref (lc_ad S (10 * k0)))]) (q := 2) dX2_readInto_65 rfl (by rw [← e2_65]; rfl) (Nat.le_of_ble_eq_true rfl) rfl rfl ?_
          refine lc_goto C (tgt := 35) dX2_readInto_68 (by decide) ?_
          refine lc_sub (lo' := [(0, .ref (lc_ad S 190)), (1, .ref (lc_ad S (10 * k0))), (2, .int x2_65)]) [1, 2, 0] rfl ?_
          exact ih x2_65 s4 s5 h
        · have h := (lc_if2 h).1 c57
          refine lc_aload_n C (pc' := 61) 0 dX2_readInto_60 rfl rfl ?_
          refine lc_g190_at C (pc' := 64) (va_up_self _ _ _) dX2_readInto_61 kf_RX2_24 rfl ?_
          obtain rfl := Option.some.inj h
          exact lc_iret C rfl dX2_readInto_64
def P_X2_readInto   (b : lc_St) (s : lc_St) : Option (Int32 × lc_St × lc_St) :=
  lc_bd (P_X0_becomeEmpty  b) (fun s1 => lc_let (lc_ss s 0 1 (0 : Int32)) (fun s2 => lc_bd (P_X2_isAt (66 : Int32) s2) (fun r12 => if r12 = 0 then some ((s2 0 1), s1, s2) else lc_let (lc_ss s2 0 1 ((s2 0 1) + (1 : Int32))) (fun s3 => P_X2_readInto_35  lc_FU (0 : Int32) s1 s3))))
set_option maxRecDepth 100000 in
set_option maxHeartbeats 4000000 in
theorem c_X2_readInto (S : lc_Se) (l : Launch) (M : lc_MM) {k0 : Nat} (hk : k0 < 19)  (b : lc_St) (s : lc_St) (out : Int32 × lc_St × lc_St) (h : P_X2_readInto  b s = some out) : lc_MI S l yX2_readInto cX2_readInto 3 (some .int) rm_X2_readInto [.ref (lc_ad S 190), .ref (lc_ad S (10 * k0))] (va_up (va_up M k0 b) 19 s) out.1 (va_up (va_up M k0 out.2.1) 19 out.2.2) := by
  refine lc_mkI (own := RX2) pn_RX2 rfl (Nat.le_of_ble_eq_true rfl) (lo := [(0, .ref (lc_ad S 190)), (1, .ref (lc_ad S (10 * k0)))]) rfl (fun X hX C => ?_)
  rw [P_X2_readInto] at h
  refine lc_aload_n C (pc' := 1) 1 dX2_readInto_0 rfl rfl ?_
  refine lc_meq (lc_up_swap M b s (Ne.symm (Nat.ne_of_lt hk))) ?_
  obtain ⟨s1, h1, h⟩ := lc_bde h
  refine lc_cvv C (pc' := 4) (M' := (va_up (va_up M 19 s) k0 s1)) (As := []) (rest := []) (c_X0_becomeEmpty S X.2.1 (va_up M 19 s) (k0 := k0) hk  b s1 h1) kl_RX2_19 (lc_at_b S _ hk) rfl rfl rfl rfl (Nat.le_of_ble_eq_true rfl) ⟨Nat.le_of_ble_eq_true rfl, Nat.le_of_ble_eq_true rfl⟩ ⟨rfl, rfl⟩ (lc_z2 _ _) dX2_readInto_1 rfl ?_
  refine lc_meq (lc_up_swap M s s1 (Nat.ne_of_lt hk)) ?_
  refine lc_aload_n C (pc' := 5) 0 dX2_readInto_4 rfl rfl ?_
  refine lc_iconst C (pc' := 6) (v := (0 : Int32)) dX2_readInto_5 (by decide) rfl ?_
  obtain ⟨s2, es2, h⟩ := lc_let2 h
  refine lc_p190_at C (pc' := 9) (M' := (va_up (va_up M k0 s1) 19 s2)) (va_up_self _ _ _) es2 (lc_up_up _ _ _ _) dX2_readInto_6 kf_RX2_24 rfl ?_
  refine lc_aload_n C (pc' := 10) 0 dX2_readInto_9 rfl rfl ?_
  refine lc_bipush C (pc' := 12) (v := (66 : Int32)) dX2_readInto_10 (by decide) rfl ?_
  obtain ⟨r12, h12, h⟩ := lc_bde h
  refine lc_cvi C (pc' := 15) (r := r12) (M' := (va_up (va_up M k0 s1) 19 s2)) (As := [.int (66 : Int32)]) (rest := []) (c_X2_isAt S X.2.1 (va_up M k0 s1)   (66 : Int32) s2 r12 h12) kl_RX2_27 (lc_at190 S _) rfl rfl rfl rfl (Nat.le_of_ble_eq_true rfl) ⟨Nat.le_of_ble_eq_true rfl, Nat.le_of_ble_eq_true rfl⟩ ⟨rfl, rfl⟩ (lc_z2 _ _) dX2_readInto_12 rfl ?_
  refine lc_if_ne C (pc' := 18) (tgt := 23) dX2_readInto_15 (by decide) rfl (fun c15 => ?_) (fun c15 => ?_)
  · have h := (lc_if2 h).2 c15
    refine lc_aload_n C (pc' := 24) 0 dX2_readInto_23 rfl rfl ?_
    refine lc_dup C (pc' := 25) dX2_readInto_24 rfl rfl ?_
    refine lc_g190_at C (pc' := 28) (va_up_self _ _ _) dX2_readInto_25 kf_RX2_24 rfl ?_
    refine lc_iconst C (pc' := 29) (v := (1 : Int32)) dX2_readInto_28 (by decide) rfl ?_
    refine lc_iadd C (pc' := 30) dX2_readInto_29 rfl ?_
    obtain ⟨s3, es3, h⟩ := lc_let2 h
    refine lc_p190_at C (pc' := 33) (M' := (va_up (va_up M k0 s1) 19 s3)) (va_up_self _ _ _) es3 (lc_up_up _ _ _ _) dX2_readInto_30 kf_RX2_24 rfl ?_
    refine lc_iconst C (pc' := 34) (v := (0 : Int32)) dX2_readInto_33 (by decide) rfl ?_
    refine lc_istore_n C (pc' := 35) (lo' := [(2, .int (0 : Int32)), (0, .ref (lc_ad S 190)), (1, .ref (lc_ad S (10 * k0)))]) dX2_readInto_34 (Nat.le_of_ble_eq_true rfl) rfl rfl ?_
    refine lc_sub (lo' := [(0, .ref (lc_ad S 190)), (1, .ref (lc_ad S (10 * k0))), (2, .int (0 : Int32))]) [1, 2, 0] rfl ?_
    exact w_X2_readInto_35 C  hk out  lc_FU (0 : Int32) s1 s3 h
  · have h := (lc_if2 h).1 c15
    refine lc_aload_n C (pc' := 19) 0 dX2_readInto_18 rfl rfl ?_
    refine lc_g190_at C (pc' := 22) (va_up_self _ _ _) dX2_readInto_19 kf_RX2_24 rfl ?_
    obtain rfl := Option.some.inj h
    exact lc_iret C rfl dX2_readInto_22
abbrev rm_X3_succeeds : Room := { frames := 6, cells := 0, slots := 0, locals := 139 }
def P_X3_succeeds_45  (x1 : Int32) (x2 : Int32) (x3 : Int32) (x4 : Int32) (x5 : Int32) (t0 : Int32) (s : lc_St) : Option (Int32 × lc_St) :=
  lc_let (x1 / (10000 : Int32)) (fun y52 => if y52 = (1 : Int32) then lc_bd (P_X3_isUnits x5) (fun r106 => if r106 = 0 then some ((0 : Int32), s) else lc_bd2 (P_X0_makeLoan x2 x3 x5 (10 : Int32) s) (fun r119 s1 => if r119 = (-9 : Int32) then some ((0 : Int32), s1) else some ((1 : Int32), s1))) else if y52 = (2 : Int32) then lc_bd (P_X3_isUnits x5) (fun r135 => if r135 = 0 then some ((0 : Int32), s) else lc_let (x1 / (100 : Int32)) (fun y148 => lc_bd2 (P_X0_payBack (y148 - y148 / (100 : Int32) * (100 : Int32)) x5 s) (fun r151 s2 => if r151 = (-9 : Int32) then some ((0 : Int32), s2) else some ((1 : Int32), s2)))) else if y52 = (3 : Int32) then if t0 = 0 then some ((0 : Int32), s) else lc_bd (P_X3_isUnits x5) (fun r172 => if r172 = 0 then some ((0 : Int32), s) else lc_bd2 (P_X0_fillEach x5 s) (fun r181 s3 => if r181 = (-9 : Int32) then some ((0 : Int32), s3) else some ((1 : Int32), s3))) else if y52 = (4 : Int32) then if t0 = 0 then some ((0 : Int32), s) else lc_bd (P_X3_isUnits x5) (fun r202 => if r202 = 0 then some ((0 : Int32), s) else lc_bd2 (P_X0_giveEach x5 s) (fun r211 s4 => if r211 ≤ 0 then some ((0 : Int32), s4) else some ((1 : Int32), s4))) else if y52 = (5 : Int32) then if t0 = 0 then some ((0 : Int32), s) else lc_bd (P_X3_isWithin x5 (1 : Int32) (50 : Int32)) (fun r233 => if r233 = 0 then some ((0 : Int32), s) else lc_bd2 (P_X0_letRoundsGoBy x5 s) (fun r242 s5 => if r242 = (-9 : Int32) then some ((0 : Int32), s5) else some ((1 : Int32), s5))) else if y52 = (6 : Int32) then if x3 = 0 then lc_bd (P_X0_hasCell x2 s) (fun r262 => if r262 = 0 then some ((0 : Int32), s) else lc_bd (P_X0_chargeOf x2 s) (fun r270 => if r270 < x5 then some ((0 : Int32), s) else some ((1 : Int32), s))) else some ((0 : Int32), s) else if y52 = (7 : Int32) then if x3 = 0 then if x4 = 0 then lc_bd (P_X0_hasCell x2 s) (fun r295 => if r295 = 0 then some ((0 : Int32), s) else lc_bd (P_X0_kindOf x2 s) (fun r303 => if r303 = x5 then some ((1 : Int32), s) else some ((0 : Int32), s))) else some ((0 : Int32), s) else some ((0 : Int32), s) else if y52 = (8 : Int32) then if x2 = 0 then lc_bd (P_X0_allOwed  s) (fun r322 => if (x1 - x1 / (1000 : Int32) * (1000 : Int32)) < r322 then some ((0 : Int32), s) else some ((1 : Int32), s)) else some ((0 : Int32), s) else if y52 = (9 : Int32) then if t0 = 0 then some ((0 : Int32), s) else if x4 = 0 then lc_bd (P_X0_bankruptCells  s) (fun r350 => lc_bd (P_J6_bitCount_0f7a4 r350) (fun r353 => if x5 < r353 then some ((0 : Int32), s) else some ((1 : Int32), s))) else some ((0 : Int32), s) else some ((0 : Int32), s))
set_option maxRecDepth 100000 in
set_option maxHeartbeats 4000000 in
theorem w_X3_succeeds_45 {S : lc_Se} {X : lc_X} (C : lc_C X cX3_succeeds RX3 7 (some .boolean) rm_X3_succeeds) {M : lc_MM} {k0 : Nat} (hk : k0 < 19) (out : Int32 × lc_St)  : ∀ (x1 : Int32) (x2 : Int32) (x3 : Int32) (x4 : Int32) (x5 : Int32) (t0 : Int32) (s : lc_St), P_X3_succeeds_45  x1 x2 x3 x4 x5 t0 s = some out → lc_J S X 7 0 0 (lc_QI S X 0 0 out.1 (va_up M k0 out.2)) 45 [(0, .ref (lc_ad S (10 * k0))), (1, .int x1), (2, .int x2), (3, .int x3), (4, .int x4), (5, .int x5)] [.int t0] (va_up M k0 s) := by
  intro x1 x2 x3 x4 x5 t0 s h
  rw [P_X3_succeeds_45] at h
  refine lc_istore C (pc' := 47) (lo' := [(6, .int t0), (0, .ref (lc_ad S (10 * k0))), (1, .int x1), (2, .int x2), (3, .int x3), (4, .int x4), (5, .int x5)]) dX3_succeeds_45 (Nat.le_of_ble_eq_true rfl) rfl rfl ?_
  refine lc_iload_n C (pc' := 48) 2 dX3_succeeds_47 rfl rfl ?_
  refine lc_sipush C (pc' := 51) (v := (10000 : Int32)) dX3_succeeds_48 (by decide) rfl ?_
  refine lc_idiv C (pc' := 52) dX3_succeeds_51 (by decide) rfl ?_
  obtain ⟨y52, ey52, h⟩ := lc_let2 h
  rw [ey52]
  by_cases q52_1 : y52 = (1 : Int32)
  · have h := (lc_if2 h).1 q52_1
    refine lc_tabIn C (tgt := 104) dX3_succeeds_52 (1 : Int) (by rw [q52_1]; decide) (by decide) (by decide) rfl (by decide) ?_
    refine lc_iload C (pc' := 106) 6 dX3_succeeds_104 rfl rfl ?_
    obtain ⟨r106, h106, h⟩ := lc_bde h
    refine lc_csi C (pc' := 109) (r := r106) (M' := (va_up M k0 s)) (As := [.int x5]) (rest := []) (c_X3_isUnits S X.2.1 (va_up M k0 s)   x5  r106 h106) kl_RX3_195 rfl rfl (Nat.le_of_ble_eq_true rfl) ⟨Nat.le_of_ble_eq_true rfl, Nat.le_of_ble_eq_true rfl⟩ ⟨rfl, rfl⟩ (lc_z2 _ _) dX3_succeeds_106 rfl ?_
    refine lc_if_eq C (pc' := 112) (tgt := 131) dX3_succeeds_109 (by decide) rfl (fun c109 => ?_) (fun c109 => ?_)
    · have h := (lc_if2 h).1 c109
      refine lc_iconst C (pc' := 132) (v := (0 : Int32)) dX3_succeeds_131 (by decide) rfl ?_
      obtain rfl := Option.some.inj h
      exact lc_zret C rfl (Or.inl rfl) dX3_succeeds_132
    · have h := (lc_if2 h).2 c109
      refine lc_aload_n C (pc' := 113) 1 dX3_succeeds_112 rfl rfl ?_
      refine lc_iload_n C (pc' := 114) 3 dX3_succeeds_113 rfl rfl ?_
      refine lc_iload_n C (pc' := 115) 4 dX3_succeeds_114 rfl rfl ?_
      refine lc_iload C (pc' := 117) 6 dX3_succeeds_115 rfl rfl ?_
      refine lc_bipush C (pc' := 119) (v := (10 : Int32)) dX3_succeeds_117 (by decide) rfl ?_
      obtain ⟨r119, s1, h119, h⟩ := lc_bd2e h
      refine lc_cvi C (pc' := 122) (r := r119) (M' := (va_up M k0 s1)) (As := [.int x2, .int x3, .int x5, .int (10 : Int32)]) (rest := []) (c_X0_makeLoan S X.2.1 M (k0 := k0) hk x2 x3 x5 (10 : Int32) s (r119, s1) h119) kl_RX3_205 (lc_at_b S _ hk) rfl rfl rfl rfl (Nat.le_of_ble_eq_true rfl) ⟨Nat.le_of_ble_eq_true rfl, Nat.le_of_ble_eq_true rfl⟩ ⟨rfl, rfl⟩ (lc_z2 _ _) dX3_succeeds_119 rfl ?_
      refine lc_bipush C (pc' := 124) (v := (-9 : Int32)) dX3_succeeds_122 (by decide) rfl ?_
      refine lc_icmp_eq C (pc' := 127) (tgt := 131) dX3_succeeds_124 (by decide) rfl (fun c124 => ?_) (fun c124 => ?_)
      · have h := (lc_if2 h).1 c124
        refine lc_iconst C (pc' := 132) (v := (0 : Int32)) dX3_succeeds_131 (by decide) rfl ?_
        obtain rfl := Option.some.inj h
        exact lc_zret C rfl (Or.inl rfl) dX3_succeeds_132
      · have h := (lc_if2 h).2 c124
        refine lc_iconst C (pc' := 128) (v := (1 : Int32)) dX3_succeeds_127 (by decide) rfl ?_
        refine lc_goto C (tgt := 132) dX3_succeeds_128 (by decide) ?_
        obtain rfl := Option.some.inj h
        exact lc_zret C rfl (Or.inr rfl) dX3_succeeds_132
  have h := (lc_if2 h).2 q52_1
  by_cases q52_2 : y52 = (2 : Int32)
  · have h := (lc_if2 h).1 q52_2
    refine lc_tabIn C (tgt := 133) dX3_succeeds_52 (2 : Int) (by rw [q52_2]; decide) (by decide) (by decide) rfl (by decide) ?_
    refine lc_iload C (pc' := 135) 6 dX3_succeeds_133 rfl rfl ?_
    obtain ⟨r135, h135, h⟩ := lc_bde h
    refine lc_csi C (pc' := 138) (r := r135) (M' := (va_up M k0 s)) (As := [.int x5]) (rest := []) (c_X3_isUnits S X.2.1 (va_up M k0 s)   x5  r135 h135) kl_RX3_195 rfl rfl (Nat.le_of_ble_eq_true rfl) ⟨Nat.le_of_ble_eq_true rfl, Nat.le_of_ble_eq_true rfl⟩ ⟨rfl, rfl⟩ (lc_z2 _ _) dX3_succeeds_135 rfl ?_
    refine lc_if_eq C (pc' := 141) (tgt := 163) dX3_succeeds_138 (by decide) rfl (fun c138 => ?_) (fun c138 => ?_)
    · have h := (lc_if2 h).1 c138
      refine lc_iconst C (pc' := 164) (v := (0 : Int32)) dX3_succeeds_163 (by decide) rfl ?_
      obtain rfl := Option.some.inj h
      exact lc_zret C rfl (Or.inl rfl) dX3_succeeds_164
    · have h := (lc_if2 h).2 c138
      refine lc_aload_n C (pc' := 142) 1 dX3_succeeds_141 rfl rfl ?_
      refine lc_iload_n C (pc' := 143) 2 dX3_succeeds_142 rfl rfl ?_
      refine lc_bipush C (pc' := 145) (v := (100 : Int32)) dX3_succeeds_143 (by decide) rfl ?_
      refine lc_idiv C (pc' := 146) dX3_succeeds_145 (by decide) rfl ?_
      refine lc_bipush C (pc' := 148) (v := (100 : Int32)) dX3_succeeds_146 (by decide) rfl ?_
      obtain ⟨y148, ey148, h⟩ := lc_let2 h
      rw [ey148]
      refine lc_irem C (pc' := 149) dX3_succeeds_148 (by decide) rfl ?_
      refine lc_iload C (pc' := 151) 6 dX3_succeeds_149 rfl rfl ?_
      obtain ⟨r151, s2, h151, h⟩ := lc_bd2e h
      refine lc_cvi C (pc' := 154) (r := r151) (M' := (va_up M k0 s2)) (As := [.int (y148 - y148 / (100 : Int32) * (100 : Int32)), .int x5]) (rest := []) (c_X0_payBack S X.2.1 M (k0 := k0) hk (y148 - y148 / (100 : Int32) * (100 : Int32)) x5 s (r151, s2) h151) kl_RX3_217 (lc_at_b S _ hk) rfl rfl rfl rfl (Nat.le_of_ble_eq_true rfl) ⟨Nat.le_of_ble_eq_true rfl, Nat.le_of_ble_eq_true rfl⟩ ⟨rfl, rfl⟩ (lc_z2 _ _) dX3_succeeds_151 rfl ?_
      refine lc_bipush C (pc' := 156) (v := (-9 : Int32)) dX3_succeeds_154 (by decide) rfl ?_
      refine lc_icmp_eq C (pc' := 159) (tgt := 163) dX3_succeeds_156 (by decide) rfl (fun c156 => ?_) (fun c156 => ?_)
      · have h := (lc_if2 h).1 c156
        refine lc_iconst C (pc' := 164) (v := (0 : Int32)) dX3_succeeds_163 (by decide) rfl ?_
        obtain rfl := Option.some.inj h
        exact lc_zret C rfl (Or.inl rfl) dX3_succeeds_164
      · have h := (lc_if2 h).2 c156
        refine lc_iconst C (pc' := 160) (v := (1 : Int32)) dX3_succeeds_159 (by decide) rfl ?_
        refine lc_goto C (tgt := 164) dX3_succeeds_160 (by decide) ?_
        obtain rfl := Option.some.inj h
        exact lc_zret C rfl (Or.inr rfl) dX3_succeeds_164
  have h := (lc_if2 h).2 q52_2
  by_cases q52_3 : y52 = (3 : Int32)
  · have h := (lc_if2 h).1 q52_3
    refine lc_tabIn C (tgt := 165) dX3_succeeds_52 (3 : Int) (by rw [q52_3]; decide) (by decide) (by decide) rfl (by decide) ?_
    refine lc_iload C (pc' := 167) 0 dX3_succeeds_165 rfl rfl ?_
    refine lc_if_eq C (pc' := 170) (tgt := 193) dX3_succeeds_167 (by decide) rfl (fun c167 => ?_) (fun c167 => ?_)
    · have h := (lc_if2 h).1 c167
      refine lc_iconst C (pc' := 194) (v := (0 : Int32)) dX3_succeeds_193 (by decide) rfl ?_
      obtain rfl := Option.some.inj h
      exact lc_zret C rfl (Or.inl rfl) dX3_succeeds_194
    · have h := (lc_if2 h).2 c167
      refine lc_iload C (pc' := 172) 6 dX3_succeeds_170 rfl rfl ?_
      obtain ⟨r172, h172, h⟩ := lc_bde h
      refine lc_csi C (pc' := 175) (r := r172) (M' := (va_up M k0 s)) (As := [.int x5]) (rest := []) (c_X3_isUnits S X.2.1 (va_up M k0 s)   x5  r172 h172) kl_RX3_195 rfl rfl (Nat.le_of_ble_eq_true rfl) ⟨Nat.le_of_ble_eq_true rfl, Nat.le_of_ble_eq_true rfl⟩ ⟨rfl, rfl⟩ (lc_z2 _ _) dX3_succeeds_172 rfl ?_
      refine lc_if_eq C (pc' := 178) (tgt := 193) dX3_succeeds_175 (by decide) rfl (fun c175 => ?_) (fun c175 => ?_)
      · have h := (lc_if2 h).1 c175
        refine lc_iconst C (pc' := 194) (v := (0 : Int32)) dX3_succeeds_193 (by decide) rfl ?_
        obtain rfl := Option.some.inj h
        exact lc_zret C rfl (Or.inl rfl) dX3_succeeds_194
      · have h := (lc_if2 h).2 c175
        refine lc_aload_n C (pc' := 179) 1 dX3_succeeds_178 rfl rfl ?_
        refine lc_iload C (pc' := 181) 6 dX3_succeeds_179 rfl rfl ?_
        obtain ⟨r181, s3, h181, h⟩ := lc_bd2e h
        refine lc_cvi C (pc' := 184) (r := r181) (M' := (va_up M k0 s3)) (As := [.int x5]) (rest := []) (c_X0_fillEach S X.2.1 M (k0 := k0) hk x5 s (r181, s3) h181) kl_RX3_223 (lc_at_b S _ hk) rfl rfl rfl rfl (Nat.le_of_ble_eq_true rfl) ⟨Nat.le_of_ble_eq_true rfl, Nat.le_of_ble_eq_true rfl⟩ ⟨rfl, rfl⟩ (lc_z2 _ _) dX3_succeeds_181 rfl ?_
        refine lc_bipush C (pc' := 186) (v := (-9 : Int32)) dX3_succeeds_184 (by decide) rfl ?_
        refine lc_icmp_eq C (pc' := 189) (tgt := 193) dX3_succeeds_186 (by decide) rfl (fun c186 => ?_) (fun c186 => ?_)
        · have h := (lc_if2 h).1 c186
          refine lc_iconst C (pc' := 194) (v := (0 : Int32)) dX3_succeeds_193 (by decide) rfl ?_
          obtain rfl := Option.some.inj h
          exact lc_zret C rfl (Or.inl rfl) dX3_succeeds_194
        · have h := (lc_if2 h).2 c186
          refine lc_iconst C (pc' := 190) (v := (1 : Int32)) dX3_succeeds_189 (by decide) rfl ?_
          refine lc_goto C (tgt := 194) dX3_succeeds_190 (by decide) ?_
          obtain rfl := Option.some.inj h
          exact lc_zret C rfl (Or.inr rfl) dX3_succeeds_194
  have h := (lc_if2 h).2 q52_3
  by_cases q52_4 : y52 = (4 : Int32)
  · have h := (lc_if2 h).1 q52_4
    refine lc_tabIn C (tgt := 195) dX3_succeeds_52 (4 : Int) (by rw [q52_4]; decide) (by decide) (by decide) rfl (by decide) ?_
    refine lc_iload C (pc' := 197) 0 dX3_succeeds_195 rfl rfl ?_
    refine lc_if_eq C (pc' := 200) (tgt := 221) dX3_succeeds_197 (by decide) rfl (fun c197 => ?_) (fun c197 => ?_)
    · have h := (lc_if2 h).1 c197
      refine lc_iconst C (pc' := 222) (v := (0 : Int32)) dX3_succeeds_221 (by decide) rfl ?_
      obtain rfl := Option.some.inj h
      exact lc_zret C rfl (Or.inl rfl) dX3_succeeds_222
    · have h := (lc_if2 h).2 c197
      refine lc_iload C (pc' := 202) 6 dX3_succeeds_200 rfl rfl ?_
      obtain ⟨r202, h202, h⟩ := lc_bde h
      refine lc_csi C (pc' := 205) (r := r202) (M' := (va_up M k0 s)) (As := [.int x5]) (rest := []) (c_X3_isUnits S X.2.1 (va_up M k0 s)   x5  r202 h202) kl_RX3_195 rfl rfl (Nat.le_of_ble_eq_true rfl) ⟨Nat.le_of_ble_eq_true rfl, Nat.le_of_ble_eq_true rfl⟩ ⟨rfl, rfl⟩ (lc_z2 _ _) dX3_succeeds_202 rfl ?_
      refine lc_if_eq C (pc' := 208) (tgt := 221) dX3_succeeds_205 (by decide) rfl (fun c205 => ?_) (fun c205 => ?_)
      · have h := (lc_if2 h).1 c205
        refine lc_iconst C (pc' := 222) (v := (0 : Int32)) dX3_succeeds_221 (by decide) rfl ?_
        obtain rfl := Option.some.inj h
        exact lc_zret C rfl (Or.inl rfl) dX3_succeeds_222
      · have h := (lc_if2 h).2 c205
        refine lc_aload_n C (pc' := 209) 1 dX3_succeeds_208 rfl rfl ?_
        refine lc_iload C (pc' := 211) 6 dX3_succeeds_209 rfl rfl ?_
        obtain ⟨r211, s4, h211, h⟩ := lc_bd2e h
        refine lc_cvi C (pc' := 214) (r := r211) (M' := (va_up M k0 s4)) (As := [.int x5]) (rest := []) (c_X0_giveEach S X.2.1 M (k0 := k0) hk x5 s (r211, s4) h211) kl_RX3_226 (lc_at_b S _ hk) rfl rfl rfl rfl (Nat.le_of_ble_eq_true rfl) ⟨Nat.le_of_ble_eq_true rfl, Nat.le_of_ble_eq_true rfl⟩ ⟨rfl, rfl⟩ (lc_z2 _ _) dX3_succeeds_211 rfl ?_
        refine lc_if_le C (pc' := 217) (tgt := 221) dX3_succeeds_214 (by decide) rfl (fun c214 => ?_) (fun c214 => ?_)
        · have h := (lc_if2 h).1 c214
          refine lc_iconst C (pc' := 222) (v := (0 : Int32)) dX3_succeeds_221 (by decide) rfl ?_
          obtain rfl := Option.some.inj h
          exact lc_zret C rfl (Or.inl rfl) dX3_succeeds_222
        · have h := (lc_if2 h).2 c214
          refine lc_iconst C (pc' := 218) (v := (1 : Int32)) dX3_succeeds_217 (by decide) rfl ?_
          refine lc_goto C (tgt := 222) dX3_succeeds_218 (by decide) ?_
          obtain rfl := Option.some.inj h
          exact lc_zret C rfl (Or.inr rfl) dX3_succeeds_222
  have h := (lc_if2 h).2 q52_4
  by_cases q52_5 : y52 = (5 : Int32)
  · have h := (lc_if2 h).1 q52_5
    refine lc_tabIn C (tgt := 223) dX3_succeeds_52 (5 : Int) (by rw [q52_5]; decide) (by decide) (by decide) rfl (by decide) ?_
    refine lc_iload C (pc' := 225) 0 dX3_succeeds_223 rfl rfl ?_
    refine lc_if_eq C (pc' := 228) (tgt := 254) dX3_succeeds_225 (by decide) rfl (fun c225 => ?_) (fun c225 => ?_)
    · have h := (lc_if2 h).1 c225
      refine lc_iconst C (pc' := 255) (v := (0 : Int32)) dX3_succeeds_254 (by decide) rfl ?_
      obtain rfl := Option.some.inj h
      exact lc_zret C rfl (Or.inl rfl) dX3_succeeds_255
    · have h := (lc_if2 h).2 c225
      refine lc_iload C (pc' := 230) 6 dX3_succeeds_228 rfl rfl ?_
      refine lc_iconst C (pc' := 231) (v := (1 : Int32)) dX3_succeeds_230 (by decide) rfl ?_
      refine lc_bipush C (pc' := 233) (v := (50 : Int32)) dX3_succeeds_231 (by decide) rfl ?_
      obtain ⟨r233, h233, h⟩ := lc_bde h
      refine lc_csi C (pc' := 236) (r := r233) (M' := (va_up M k0 s)) (As := [.int x5, .int (1 : Int32), .int (50 : Int32)]) (rest := []) (c_X3_isWithin S X.2.1 (va_up M k0 s)   x5 (1 : Int32) (50 : Int32)  r233 h233) kl_RX3_44 rfl rfl (Nat.le_of_ble_eq_true rfl) ⟨Nat.le_of_ble_eq_true rfl, Nat.le_of_ble_eq_true rfl⟩ ⟨rfl, rfl⟩ (lc_z2 _ _) dX3_succeeds_233 rfl ?_
      refine lc_if_eq C (pc' := 239) (tgt := 254) dX3_succeeds_236 (by decide) rfl (fun c236 => ?_) (fun c236 => ?_)
      · have h := (lc_if2 h).1 c236
        refine lc_iconst C (pc' := 255) (v := (0 : Int32)) dX3_succeeds_254 (by decide) rfl ?_
        obtain rfl := Option.some.inj h
        exact lc_zret C rfl (Or.inl rfl) dX3_succeeds_255
      · have h := (lc_if2 h).2 c236
        refine lc_aload_n C (pc' := 240) 1 dX3_succeeds_239 rfl rfl ?_
        refine lc_iload C (pc' := 242) 6 dX3_succeeds_240 rfl rfl ?_
        obtain ⟨r242, s5, h242, h⟩ := lc_bd2e h
        refine lc_cvi C (pc' := 245) (r := r242) (M' := (va_up M k0 s5)) (As := [.int x5]) (rest := []) (c_X0_letRoundsGoBy S X.2.1 M (k0 := k0) hk x5 s (r242, s5) h242) kl_RX3_233 (lc_at_b S _ hk) rfl rfl rfl rfl (Nat.le_of_ble_eq_true rfl) ⟨Nat.le_of_ble_eq_true rfl, Nat.le_of_ble_eq_true rfl⟩ ⟨rfl, rfl⟩ (lc_z2 _ _) dX3_succeeds_242 rfl ?_
        refine lc_bipush C (pc' := 247) (v := (-9 : Int32)) dX3_succeeds_245 (by decide) rfl ?_
        refine lc_icmp_eq C (pc' := 250) (tgt := 254) dX3_succeeds_247 (by decide) rfl (fun c247 => ?_) (fun c247 => ?_)
        · have h := (lc_if2 h).1 c247
          refine lc_iconst C (pc' := 255) (v := (0 : Int32)) dX3_succeeds_254 (by decide) rfl ?_
          obtain rfl := Option.some.inj h
          exact lc_zret C rfl (Or.inl rfl) dX3_succeeds_255
        · have h := (lc_if2 h).2 c247
          refine lc_iconst C (pc' := 251) (v := (1 : Int32)) dX3_succeeds_250 (by decide) rfl ?_
          refine lc_goto C (tgt := 255) dX3_succeeds_251 (by decide) ?_
          obtain rfl := Option.some.inj h
          exact lc_zret C rfl (Or.inr rfl) dX3_succeeds_255
  have h := (lc_if2 h).2 q52_5
  by_cases q52_6 : y52 = (6 : Int32)
  · have h := (lc_if2 h).1 q52_6
    refine lc_tabIn C (tgt := 256) dX3_succeeds_52 (6 : Int) (by rw [q52_6]; decide) (by decide) (by decide) rfl (by decide) ?_
    refine lc_iload_n C (pc' := 257) 4 dX3_succeeds_256 rfl rfl ?_
    refine lc_if_ne C (pc' := 260) (tgt := 282) dX3_succeeds_257 (by decide) rfl (fun c257 => ?_) (fun c257 => ?_)
    · have h := (lc_if2 h).2 c257
      refine lc_iconst C (pc' := 283) (v := (0 : Int32)) dX3_succeeds_282 (by decide) rfl ?_
      obtain rfl := Option.some.inj h
      exact lc_zret C rfl (Or.inl rfl) dX3_succeeds_283
    · have h := (lc_if2 h).1 c257
      refine lc_aload_n C (pc' := 261) 1 dX3_succeeds_260 rfl rfl ?_
      refine lc_iload_n C (pc' := 262) 3 dX3_succeeds_261 rfl rfl ?_
      obtain ⟨r262, h262, h⟩ := lc_bde h
      refine lc_cvi C (pc' := 265) (r := r262) (M' := (va_up M k0 s)) (As := [.int x2]) (rest := []) (c_X0_hasCell S X.2.1 M (k0 := k0) hk x2 s r262 h262) kl_RX3_117 (lc_at_b S _ hk) rfl rfl rfl rfl (Nat.le_of_ble_eq_true rfl) ⟨Nat.le_of_ble_eq_true rfl, Nat.le_of_ble_eq_true rfl⟩ ⟨rfl, rfl⟩ (lc_z2 _ _) dX3_succeeds_262 rfl ?_
      refine lc_if_eq C (pc' := 268) (tgt := 282) dX3_succeeds_265 (by decide) rfl (fun c265 => ?_) (fun c265 => ?_)
      · have h := (lc_if2 h).1 c265
        refine lc_iconst C (pc' := 283) (v := (0 : Int32)) dX3_succeeds_282 (by decide) rfl ?_
        obtain rfl := Option.some.inj h
        exact lc_zret C rfl (Or.inl rfl) dX3_succeeds_283
      · have h := (lc_if2 h).2 c265
        refine lc_aload_n C (pc' := 269) 1 dX3_succeeds_268 rfl rfl ?_
        refine lc_iload_n C (pc' := 270) 3 dX3_succeeds_269 rfl rfl ?_
        obtain ⟨r270, h270, h⟩ := lc_bde h
        refine lc_cvi C (pc' := 273) (r := r270) (M' := (va_up M k0 s)) (As := [.int x2]) (rest := []) (c_X0_chargeOf S X.2.1 M (k0 := k0) hk x2 s r270 h270) kl_RX3_293 (lc_at_b S _ hk) rfl rfl rfl rfl (Nat.le_of_ble_eq_true rfl) ⟨Nat.le_of_ble_eq_true rfl, Nat.le_of_ble_eq_true rfl⟩ ⟨rfl, rfl⟩ (lc_z2 _ _) dX3_succeeds_270 rfl ?_
        refine lc_iload C (pc' := 275) 6 dX3_succeeds_273 rfl rfl ?_
        refine lc_icmp_lt C (pc' := 278) (tgt := 282) dX3_succeeds_275 (by decide) rfl (fun c275 => ?_) (fun c275 => ?_)
        · have h := (lc_if2 h).1 c275
          refine lc_iconst C (pc' := 283) (v := (0 : Int32)) dX3_succeeds_282 (by decide) rfl ?_
          obtain rfl := Option.some.inj h
          exact lc_zret C rfl (Or.inl rfl) dX3_succeeds_283
        · have h := (lc_if2 h).2 c275
          refine lc_iconst C (pc' := 279) (v := (1 : Int32)) dX3_succeeds_278 (by decide) rfl ?_
          refine lc_goto C (tgt := 283) dX3_succeeds_279 (by decide) ?_
          obtain rfl := Option.some.inj h
          exact lc_zret C rfl (Or.inr rfl) dX3_succeeds_283
  have h := (lc_if2 h).2 q52_6
  by_cases q52_7 : y52 = (7 : Int32)
  · have h := (lc_if2 h).1 q52_7
    refine lc_tabIn C (tgt := 284) dX3_succeeds_52 (7 : Int) (by rw [q52_7]; decide) (by decide) (by decide) rfl (by decide) ?_
    refine lc_iload_n C (pc' := 285) 4 dX3_succeeds_284 rfl rfl ?_
    refine lc_if_ne C (pc' := 288) (tgt := 315) dX3_succeeds_285 (by decide) rfl (fun c285 => ?_) (fun c285 => ?_)
    · have h := (lc_if2 h).2 c285
      refine lc_iconst C (pc' := 316) (v := (0 : Int32)) dX3_succeeds_315 (by decide) rfl ?_
      obtain rfl := Option.some.inj h
      exact lc_zret C rfl (Or.inl rfl) dX3_succeeds_316
    · have h := (lc_if2 h).1 c285
      refine lc_iload C (pc' := 290) 5 dX3_succeeds_288 rfl rfl ?_
      refine lc_if_ne C (pc' := 293) (tgt := 315) dX3_succeeds_290 (by decide) rfl (fun c290 => ?_) (fun c290 => ?_)
      · have h := (lc_if2 h).2 c290
        refine lc_iconst C (pc' := 316) (v := (0 : Int32)) dX3_succeeds_315 (by decide) rfl ?_
        obtain rfl := Option.some.inj h
        exact lc_zret C rfl (Or.inl rfl) dX3_succeeds_316
      · have h := (lc_if2 h).1 c290
        refine lc_aload_n C (pc' := 294) 1 dX3_succeeds_293 rfl rfl ?_
        refine lc_iload_n C (pc' := 295) 3 dX3_succeeds_294 rfl rfl ?_
        obtain ⟨r295, h295, h⟩ := lc_bde h
        refine lc_cvi C (pc' := 298) (r := r295) (M' := (va_up M k0 s)) (As := [.int x2]) (rest := []) (c_X0_hasCell S X.2.1 M (k0 := k0) hk x2 s r295 h295) kl_RX3_117 (lc_at_b S _ hk) rfl rfl rfl rfl (Nat.le_of_ble_eq_true rfl) ⟨Nat.le_of_ble_eq_true rfl, Nat.le_of_ble_eq_true rfl⟩ ⟨rfl, rfl⟩ (lc_z2 _ _) dX3_succeeds_295 rfl ?_
        refine lc_if_eq C (pc' := 301) (tgt := 315) dX3_succeeds_298 (by decide) rfl (fun c298 => ?_) (fun c298 => ?_)
        · have h := (lc_if2 h).1 c298
          refine lc_iconst C (pc' := 316) (v := (0 : Int32)) dX3_succeeds_315 (by decide) rfl ?_
          obtain rfl := Option.some.inj h
          exact lc_zret C rfl (Or.inl rfl) dX3_succeeds_316
        · have h := (lc_if2 h).2 c298
          refine lc_aload_n C (pc' := 302) 1 dX3_succeeds_301 rfl rfl ?_
          refine lc_iload_n C (pc' := 303) 3 dX3_succeeds_302 rfl rfl ?_
          obtain ⟨r303, h303, h⟩ := lc_bde h
          refine lc_cvi C (pc' := 306) (r := r303) (M' := (va_up M k0 s)) (As := [.int x2]) (rest := []) (c_X0_kindOf S X.2.1 M (k0 := k0) hk x2 s r303 h303) kl_RX3_149 (lc_at_b S _ hk) rfl rfl rfl rfl (Nat.le_of_ble_eq_true rfl) ⟨Nat.le_of_ble_eq_true rfl, Nat.le_of_ble_eq_true rfl⟩ ⟨rfl, rfl⟩ (lc_z2 _ _) dX3_succeeds_303 rfl ?_
          refine lc_iload C (pc' := 308) 6 dX3_succeeds_306 rfl rfl ?_
          refine lc_icmp_ne C (pc' := 311) (tgt := 315) dX3_succeeds_308 (by decide) rfl (fun c308 => ?_) (fun c308 => ?_)
          · have h := (lc_if2 h).2 c308
            refine lc_iconst C (pc' := 316) (v := (0 : Int32)) dX3_succeeds_315 (by decide) rfl ?_
            obtain rfl := Option.some.inj h
            exact lc_zret C rfl (Or.inl rfl) dX3_succeeds_316
          · have h := (lc_if2 h).1 c308
            refine lc_iconst C (pc' := 312) (v := (1 : Int32)) dX3_succeeds_311 (by decide) rfl ?_
            refine lc_goto C (tgt := 316) dX3_succeeds_312 (by decide) ?_
            obtain rfl := Option.some.inj h
            exact lc_zret C rfl (Or.inr rfl) dX3_succeeds_316
  have h := (lc_if2 h).2 q52_7
  by_cases q52_8 : y52 = (8 : Int32)
  · have h := (lc_if2 h).1 q52_8
    refine lc_tabIn C (tgt := 317) dX3_succeeds_52 (8 : Int) (by rw [q52_8]; decide) (by decide) (by decide) rfl (by decide) ?_
    refine lc_iload_n C (pc' := 318) 3 dX3_succeeds_317 rfl rfl ?_
    refine lc_if_ne C (pc' := 321) (tgt := 337) dX3_succeeds_318 (by decide) rfl (fun c318 => ?_) (fun c318 => ?_)
    · have h := (lc_if2 h).2 c318
      refine lc_iconst C (pc' := 338) (v := (0 : Int32)) dX3_succeeds_337 (by decide) rfl ?_
      obtain rfl := Option.some.inj h
      exact lc_zret C rfl (Or.inl rfl) dX3_succeeds_338
    · have h := (lc_if2 h).1 c318
      refine lc_aload_n C (pc' := 322) 1 dX3_succeeds_321 rfl rfl ?_
      obtain ⟨r322, h322, h⟩ := lc_bde h
      refine lc_cvi C (pc' := 325) (r := r322) (M' := (va_up M k0 s)) (As := []) (rest := []) (c_X0_allOwed S X.2.1 M (k0 := k0) hk  s r322 h322) kl_RX3_106 (lc_at_b S _ hk) rfl rfl rfl rfl (Nat.le_of_ble_eq_true rfl) ⟨Nat.le_of_ble_eq_true rfl, Nat.le_of_ble_eq_true rfl⟩ ⟨rfl, rfl⟩ (lc_z2 _ _) dX3_succeeds_322 rfl ?_
      refine lc_iload_n C (pc' := 326) 2 dX3_succeeds_325 rfl rfl ?_
      refine lc_sipush C (pc' := 329) (v := (1000 : Int32)) dX3_succeeds_326 (by decide) rfl ?_
      refine lc_irem C (pc' := 330) dX3_succeeds_329 (by decide) rfl ?_
      refine lc_icmp_gt C (pc' := 333) (tgt := 337) dX3_succeeds_330 (by decide) rfl (fun c330 => ?_) (fun c330 => ?_)
      · have h := (lc_if2 h).1 c330
        refine lc_iconst C (pc' := 338) (v := (0 : Int32)) dX3_succeeds_337 (by decide) rfl ?_
        obtain rfl := Option.some.inj h
        exact lc_zret C rfl (Or.inl rfl) dX3_succeeds_338
      · have h := (lc_if2 h).2 c330
        refine lc_iconst C (pc' := 334) (v := (1 : Int32)) dX3_succeeds_333 (by decide) rfl ?_
        refine lc_goto C (tgt := 338) dX3_succeeds_334 (by decide) ?_
        obtain rfl := Option.some.inj h
        exact lc_zret C rfl (Or.inr rfl) dX3_succeeds_338
  have h := (lc_if2 h).2 q52_8
  by_cases q52_9 : y52 = (9 : Int32)
  · have h := (lc_if2 h).1 q52_9
    refine lc_tabIn C (tgt := 339) dX3_succeeds_52 (9 : Int) (by rw [q52_9]; decide) (by decide) (by decide) rfl (by decide) ?_
    refine lc_iload C (pc' := 341) 0 dX3_succeeds_339 rfl rfl ?_
    refine lc_if_eq C (pc' := 344) (tgt := 365) dX3_succeeds_341 (by decide) rfl (fun c341 => ?_) (fun c341 => ?_)
    · have h := (lc_if2 h).1 c341
      refine lc_iconst C (pc' := 366) (v := (0 : Int32)) dX3_succeeds_365 (by decide) rfl ?_
      obtain rfl := Option.some.inj h
      exact lc_zret C rfl (Or.inl rfl) dX3_succeeds_366
    · have h := (lc_if2 h).2 c341
      refine lc_iload C (pc' := 346) 5 dX3_succeeds_344 rfl rfl ?_
      refine lc_if_ne C (pc' := 349) (tgt := 365) dX3_succeeds_346 (by decide) rfl (fun c346 => ?_) (fun c346 => ?_)
      · have h := (lc_if2 h).2 c346
        refine lc_iconst C (pc' := 366) (v := (0 : Int32)) dX3_succeeds_365 (by decide) rfl ?_
        obtain rfl := Option.some.inj h
        exact lc_zret C rfl (Or.inl rfl) dX3_succeeds_366
      · have h := (lc_if2 h).1 c346
        refine lc_aload_n C (pc' := 350) 1 dX3_succeeds_349 rfl rfl ?_
        obtain ⟨r350, h350, h⟩ := lc_bde h
        refine lc_cvi C (pc' := 353) (r := r350) (M' := (va_up M k0 s)) (As := []) (rest := []) (c_X0_bankruptCells S X.2.1 M (k0 := k0) hk  s r350 h350) kl_RX3_112 (lc_at_b S _ hk) rfl rfl rfl rfl (Nat.le_of_ble_eq_true rfl) ⟨Nat.le_of_ble_eq_true rfl, Nat.le_of_ble_eq_true rfl⟩ ⟨rfl, rfl⟩ (lc_z2 _ _) dX3_succeeds_350 rfl ?_
        obtain ⟨r353, h353, h⟩ := lc_bde h
        refine lc_csi C (pc' := 356) (r := r353) (M' := (va_up M k0 s)) (As := [.int r350]) (rest := []) (c_J6_bitCount_0f7a4 S X.2.1 (va_up M k0 s)   r350  r353 h353) kl_RX3_283 rfl rfl (Nat.le_of_ble_eq_true rfl) ⟨Nat.le_of_ble_eq_true rfl, Nat.le_of_ble_eq_true rfl⟩ ⟨rfl, rfl⟩ (lc_z2 _ _) dX3_succeeds_353 rfl ?_
        refine lc_iload C (pc' := 358) 6 dX3_succeeds_356 rfl rfl ?_
        refine lc_icmp_gt C (pc' := 361) (tgt := 365) dX3_succeeds_358 (by decide) rfl (fun c358 => ?_) (fun c358 => ?_)
        · have h := (lc_if2 h).1 c358
          refine lc_iconst C (pc' := 366) (v := (0 : Int32)) dX3_succeeds_365 (by decide) rfl ?_
          obtain rfl := Option.some.inj h
          exact lc_zret C rfl (Or.inl rfl) dX3_succeeds_366
        · have h := (lc_if2 h).2 c358
          refine lc_iconst C (pc' := 362) (v := (1 : Int32)) dX3_succeeds_361 (by decide) rfl ?_
          refine lc_goto C (tgt := 366) dX3_succeeds_362 (by decide) ?_
          obtain rfl := Option.some.inj h
          exact lc_zret C rfl (Or.inr rfl) dX3_succeeds_366
  have h := (lc_if2 h).2 q52_9
  refine lc_tabOut C (tgt := 367) dX3_succeeds_52 (by have n1 : y52.toInt ≠ 1 := fun q => q52_1 (Int32.toInt_inj.mp q); have n2 : y52.toInt ≠ 2 := fun q => q52_2 (Int32.toInt_inj.mp q); have n3 : y52.toInt ≠ 3 := fun q => q52_3 (Int32.toInt_inj.mp q); have n4 : y52.toInt ≠ 4 := fun q => q52_4 (Int32.toInt_inj.mp q); have n5 : y52.toInt ≠ 5 := fun q => q52_5 (Int32.toInt_inj.mp q); have n6 : y52.toInt ≠ 6 := fun q => q52_6 (Int32.toInt_inj.mp q); have n7 : y52.toInt ≠ 7 := fun q => q52_7 (Int32.toInt_inj.mp q); have n8 : y52.toInt ≠ 8 := fun q => q52_8 (Int32.toInt_inj.mp q); have n9 : y52.toInt ≠ 9 := fun q => q52_9 (Int32.toInt_inj.mp q); omega) (by decide) ?_
  refine lc_iconst C (pc' := 368) (v := (0 : Int32)) dX3_succeeds_367 (by decide) rfl ?_
  obtain rfl := Option.some.inj h
  exact lc_zret C rfl (Or.inl rfl) dX3_succeeds_368
def P_X3_succeeds_44  (x1 : Int32) (x2 : Int32) (x3 : Int32) (x4 : Int32) (x5 : Int32) (s : lc_St) : Option (Int32 × lc_St) :=
  P_X3_succeeds_45   x1 x2 x3 x4 x5 (0 : Int32) s
set_option maxRecDepth 100000 in
set_option maxHeartbeats 4000000 in
theorem w_X3_succeeds_44 {S : lc_Se} {X : lc_X} (C : lc_C X cX3_succeeds RX3 7 (some .boolean) rm_X3_succeeds) {M : lc_MM} {k0 : Nat} (hk : k0 < 19) (out : Int32 × lc_St)  : ∀ (x1 : Int32) (x2 : Int32) (x3 : Int32) (x4 : Int32) (x5 : Int32) (s : lc_St), P_X3_succeeds_44  x1 x2 x3 x4 x5 s = some out → lc_J S X 7 0 0 (lc_QI S X 0 0 out.1 (va_up M k0 out.2)) 44 [(0, .ref (lc_ad S (10 * k0))), (1, .int x1), (2, .int x2), (3, .int x3), (4, .int x4), (5, .int x5)] [] (va_up M k0 s) := by
  intro x1 x2 x3 x4 x5 s h
  rw [P_X3_succeeds_44] at h
  refine lc_iconst C (pc' := 45) (v := (0 : Int32)) dX3_succeeds_44 (by decide) rfl ?_
  exact w_X3_succeeds_45 C  hk out   x1 x2 x3 x4 x5 (0 : Int32) s h
def P_X3_succeeds  (x1 : Int32) (s : lc_St) : Option (Int32 × lc_St) :=
  lc_let (x1 / (1000 : Int32)) (fun y7 => lc_let (y7 - y7 / (10 : Int32) * (10 : Int32)) (fun x2_8 => lc_let (x1 / (100 : Int32)) (fun y15 => lc_let (y15 - y15 / (10 : Int32) * (10 : Int32)) (fun x3_16 => lc_let (x1 / (10 : Int32)) (fun y23 => lc_let (y23 - y23 / (10 : Int32) * (10 : Int32)) (fun x4_24 => lc_let (x1 - x1 / (100 : Int32) * (100 : Int32)) (fun x5_30 => if x2_8 = 0 then if x3_16 = 0 then P_X3_succeeds_45   x1 x2_8 x3_16 x4_24 x5_30 (1 : Int32) s else P_X3_succeeds_44   x1 x2_8 x3_16 x4_24 x5_30 s else P_X3_succeeds_44   x1 x2_8 x3_16 x4_24 x5_30 s)))))))
set_option maxRecDepth 100000 in
set_option maxHeartbeats 4000000 in
theorem c_X3_succeeds (S : lc_Se) (l : Launch) (M : lc_MM) {k0 : Nat} (hk : k0 < 19) (x1 : Int32) (s : lc_St) (out : Int32 × lc_St) (h : P_X3_succeeds x1 s = some out) : lc_MI S l yX3_succeeds cX3_succeeds 7 (some .boolean) rm_X3_succeeds [.ref (lc_ad S (10 * k0)), .int x1] (va_up M k0 s) out.1 (va_up M k0 out.2) := by
  refine lc_mkI (own := RX3) pn_RX3 rfl (Nat.le_of_ble_eq_true rfl) (lo := [(0, .ref (lc_ad S (10 * k0))), (1, .int x1)]) rfl (fun X hX C => ?_)
  rw [P_X3_succeeds] at h
  refine lc_iload_n C (pc' := 1) 1 dX3_succeeds_0 rfl rfl ?_
  refine lc_sipush C (pc' := 4) (v := (1000 : Int32)) dX3_succeeds_1 (by decide) rfl ?_
  refine lc_idiv C (pc' := 5) dX3_succeeds_4 (by decide) rfl ?_
  refine lc_bipush C (pc' := 7) (v := (10 : Int32)) dX3_succeeds_5 (by decide) rfl ?_
  obtain ⟨y7, ey7, h⟩ := lc_let2 h
  rw [ey7]
  refine lc_irem C (pc' := 8) dX3_succeeds_7 (by decide) rfl ?_
  obtain ⟨x2_8, e2_8, h⟩ := lc_let2 h
  rw [e2_8]
  refine lc_istore_n C (pc' := 9) (lo' := [(2, .int x2_8), (0, .ref (lc_ad S (10 * k0))), (1, .int x1)]) dX3_succeeds_8 (Nat.le_of_ble_eq_true rfl) rfl rfl ?_
  refine lc_iload_n C (pc' := 10) 2 dX3_succeeds_9 rfl rfl ?_
  refine lc_bipush C (pc' := 12) (v := (100 : Int32)) dX3_succeeds_10 (by decide) rfl ?_
  refine lc_idiv C (pc' := 13) dX3_succeeds_12 (by decide) rfl ?_
  refine lc_bipush C (pc' := 15) (v := (10 : Int32)) dX3_succeeds_13 (by decide) rfl ?_
  obtain ⟨y15, ey15, h⟩ := lc_let2 h
  rw [ey15]
  refine lc_irem C (pc' := 16) dX3_succeeds_15 (by decide) rfl ?_
  obtain ⟨x3_16, e3_16, h⟩ := lc_let2 h
  rw [e3_16]
  refine lc_istore_n C (pc' := 17) (lo' := [(3, .int x3_16), (2, .int x2_8), (0, .ref (lc_ad S (10 * k0))), (1, .int x1)]) dX3_succeeds_16 (Nat.le_of_ble_eq_true rfl) rfl rfl ?_
  refine lc_iload_n C (pc' := 18) 3 dX3_succeeds_17 rfl rfl ?_
  refine lc_bipush C (pc' := 20) (v := (10 : Int32)) dX3_succeeds_18 (by decide) rfl ?_
  refine lc_idiv C (pc' := 21) dX3_succeeds_20 (by decide) rfl ?_
  refine lc_bipush C (pc' := 23) (v := (10 : Int32)) dX3_succeeds_21 (by decide) rfl ?_
  obtain ⟨y23, ey23, h⟩ := lc_let2 h
  rw [ey23]
  refine lc_irem C (pc' := 24) dX3_succeeds_23 (by decide) rfl ?_
  obtain ⟨x4_24, e4_24, h⟩ := lc_let2 h
  rw [e4_24]
  refine lc_istore C (pc' := 26) (lo' := [(4, .int x4_24), (3, .int x3_16), (2, .int x2_8), (0, .ref (lc_ad S (10 * k0))), (1, .int x1)]) dX3_succeeds_24 (Nat.le_of_ble_eq_true rfl) rfl rfl ?_
  refine lc_iload_n C (pc' := 27) 4 dX3_succeeds_26 rfl rfl ?_
  refine lc_bipush C (pc' := 29) (v := (100 : Int32)) dX3_succeeds_27 (by decide) rfl ?_
  refine lc_irem C (pc' := 30) dX3_succeeds_29 (by decide) rfl ?_
  obtain ⟨x5_30, e5_30, h⟩ := lc_let2 h
  rw [e5_30]
  refine lc_istore C (pc' := 32) (lo' := [(5, .int x5_30), (4, .int x4_24), (3, .int x3_16), (2, .int x2_8), (0, .ref (lc_ad S (10 * k0))), (1, .int x1)]) dX3_succeeds_30 (Nat.le_of_ble_eq_true rfl) rfl rfl ?_
  refine lc_iload_n C (pc' := 33) 3 dX3_succeeds_32 rfl rfl ?_
  refine lc_if_ne C (pc' := 36) (tgt := 44) dX3_succeeds_33 (by decide) rfl (fun c33 => ?_) (fun c33 => ?_)
  · have h := (lc_if2 h).2 c33
    refine lc_sub (lo' := [(0, .ref (lc_ad S (10 * k0))), (1, .int x1), (2, .int x2_8), (3, .int x3_16), (4, .int x4_24), (5, .int x5_30)]) [4, 5, 3, 2, 1, 0] rfl ?_
    exact w_X3_succeeds_44 C  hk out   x1 x2_8 x3_16 x4_24 x5_30 s h
  · have h := (lc_if2 h).1 c33
    refine lc_iload_n C (pc' := 37) 2 dX3_succeeds_36 rfl rfl ?_
    refine lc_if_ne C (pc' := 40) (tgt := 44) dX3_succeeds_37 (by decide) rfl (fun c37 => ?_) (fun c37 => ?_)
    · have h := (lc_if2 h).2 c37
      refine lc_sub (lo' := [(0, .ref (lc_ad S (10 * k0))), (1, .int x1), (2, .int x2_8), (3, .int x3_16), (4, .int x4_24), (5, .int x5_30)]) [4, 5, 3, 2, 1, 0] rfl ?_
      exact w_X3_succeeds_44 C  hk out   x1 x2_8 x3_16 x4_24 x5_30 s h
    · have h := (lc_if2 h).1 c37
      refine lc_iconst C (pc' := 41) (v := (1 : Int32)) dX3_succeeds_40 (by decide) rfl ?_
      refine lc_goto C (tgt := 45) dX3_succeeds_41 (by decide) ?_
      refine lc_sub (lo' := [(0, .ref (lc_ad S (10 * k0))), (1, .int x1), (2, .int x2_8), (3, .int x3_16), (4, .int x4_24), (5, .int x5_30)]) [4, 5, 3, 2, 1, 0] rfl ?_
      exact w_X3_succeeds_45 C  hk out   x1 x2_8 x3_16 x4_24 x5_30 (1 : Int32) s h
abbrev rm_X1_forgetAll : Room := { frames := 0, cells := 0, slots := 0, locals := 0 }
def P_X1_forgetAll   (s : lc_St) : Option (lc_St) :=
  lc_let (lc_ss s 0 1 (0 : Int32)) (fun s1 => some s1)
set_option maxRecDepth 100000 in
set_option maxHeartbeats 4000000 in
theorem c_X1_forgetAll (S : lc_Se) (l : Launch) (M : lc_MM)   (s : lc_St) (out : lc_St) (h : P_X1_forgetAll  s = some out) : lc_MV S l yX1_forgetAll cX1_forgetAll 1 none rm_X1_forgetAll [.ref (lc_ad S 192)] (va_up M 20 s)  (va_up M 20 out) := by
  refine lc_mkV (own := RX1) pn_RX1 rfl (Nat.le_of_ble_eq_true rfl) (lo := [(0, .ref (lc_ad S 192))]) rfl (fun X hX C => ?_)
  rw [P_X1_forgetAll] at h
  refine lc_aload_n C (pc' := 1) 0 dX1_forgetAll_0 rfl rfl ?_
  refine lc_iconst C (pc' := 2) (v := (0 : Int32)) dX1_forgetAll_1 (by decide) rfl ?_
  obtain ⟨s1, es1, h⟩ := lc_let2 h
  refine lc_p192_count C (pc' := 5) (M' := (va_up M 20 s1)) (va_up_self _ _ _) es1 (lc_up_up _ _ _ _) dX1_forgetAll_2 kf_RX1_22 rfl ?_
  obtain rfl := Option.some.inj h
  exact lc_vret C rfl dX1_forgetAll_5
