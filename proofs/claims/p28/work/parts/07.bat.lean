abbrev rm_X3_isWithin : Room := { frames := 0, cells := 0, slots := 0, locals := 0 }
def P_X3_isWithin  (x0 : Int32) (x1 : Int32) (x2 : Int32)  : Option (Int32) :=
  if x0 < x1 then some (0 : Int32) else if x2 < x0 then some (0 : Int32) else some (1 : Int32)
set_option maxRecDepth 100000 in
set_option maxHeartbeats 4000000 in
theorem c_X3_isWithin (S : lc_Se) (l : Launch) (M : lc_MM)  (x0 : Int32) (x1 : Int32) (x2 : Int32)  (out : Int32) (h : P_X3_isWithin x0 x1 x2  = some out) : lc_MI S l yX3_isWithin cX3_isWithin 3 (some .boolean) rm_X3_isWithin [.int x0, .int x1, .int x2] M out M := by
  refine lc_mkI (own := RX3) pn_RX3 rfl (Nat.le_of_ble_eq_true rfl) (lo := [(0, .int x0), (1, .int x1), (2, .int x2)]) rfl (fun X hX C => ?_)
  rw [P_X3_isWithin] at h
  refine lc_iload_n C (pc' := 1) 0 dX3_isWithin_0 rfl rfl ?_
  refine lc_iload_n C (pc' := 2) 1 dX3_isWithin_1 rfl rfl ?_
  refine lc_icmp_lt C (pc' := 5) (tgt := 14) dX3_isWithin_2 (by decide) rfl (fun c2 => ?_) (fun c2 => ?_)
  · have h := (lc_if2 h).1 c2
    refine lc_iconst C (pc' := 15) (v := (0 : Int32)) dX3_isWithin_14 (by decide) rfl ?_
    obtain rfl := Option.some.inj h
    exact lc_zret C rfl (Or.inl rfl) dX3_isWithin_15
  · have h := (lc_if2 h).2 c2
    refine lc_iload_n C (pc' := 6) 0 dX3_isWithin_5 rfl rfl ?_
    refine lc_iload_n C (pc' := 7) 2 dX3_isWithin_6 rfl rfl ?_
    refine lc_icmp_gt C (pc' := 10) (tgt := 14) dX3_isWithin_7 (by decide) rfl (fun c7 => ?_) (fun c7 => ?_)
    · have h := (lc_if2 h).1 c7
      refine lc_iconst C (pc' := 15) (v := (0 : Int32)) dX3_isWithin_14 (by decide) rfl ?_
      obtain rfl := Option.some.inj h
      exact lc_zret C rfl (Or.inl rfl) dX3_isWithin_15
    · have h := (lc_if2 h).2 c7
      refine lc_iconst C (pc' := 11) (v := (1 : Int32)) dX3_isWithin_10 (by decide) rfl ?_
      refine lc_goto C (tgt := 15) dX3_isWithin_11 (by decide) ?_
      obtain rfl := Option.some.inj h
      exact lc_zret C rfl (Or.inr rfl) dX3_isWithin_15
abbrev rm_X3_isUnits : Room := { frames := 1, cells := 0, slots := 0, locals := 22 }
def P_X3_isUnits  (x0 : Int32)  : Option (Int32) :=
  lc_bd (P_X3_isWithin x0 (1 : Int32) (99 : Int32)) (fun r4 => lc_if (r4 = 0 ∨ r4 = 1) (some r4))
set_option maxRecDepth 100000 in
set_option maxHeartbeats 4000000 in
theorem c_X3_isUnits (S : lc_Se) (l : Launch) (M : lc_MM)  (x0 : Int32)  (out : Int32) (h : P_X3_isUnits x0  = some out) : lc_MI S l yX3_isUnits cX3_isUnits 1 (some .boolean) rm_X3_isUnits [.int x0] M out M := by
  refine lc_mkI (own := RX3) pn_RX3 rfl (Nat.le_of_ble_eq_true rfl) (lo := [(0, .int x0)]) rfl (fun X hX C => ?_)
  rw [P_X3_isUnits] at h
  refine lc_iload_n C (pc' := 1) 0 dX3_isUnits_0 rfl rfl ?_
  refine lc_iconst C (pc' := 2) (v := (1 : Int32)) dX3_isUnits_1 (by decide) rfl ?_
  refine lc_bipush C (pc' := 4) (v := (99 : Int32)) dX3_isUnits_2 (by decide) rfl ?_
  obtain ⟨r4, h4, h⟩ := lc_bde h
  refine lc_csi C (pc' := 7) (r := r4) (M' := M) (As := [.int x0, .int (1 : Int32), .int (99 : Int32)]) (rest := []) (c_X3_isWithin S X.2.1 M   x0 (1 : Int32) (99 : Int32)  r4 h4) kl_RX3_44 rfl rfl (Nat.le_of_ble_eq_true rfl) ⟨Nat.le_of_ble_eq_true rfl, Nat.le_of_ble_eq_true rfl⟩ ⟨rfl, rfl⟩ (lc_z2 _ _) dX3_isUnits_4 rfl ?_
  obtain ⟨hb7, h⟩ := lc_ife h
  obtain rfl := Option.some.inj h
  exact lc_zret C rfl hb7 dX3_isUnits_7
abbrev rm_X0_copyFrom : Room := { frames := 1, cells := 0, slots := 0, locals := 40 }
def P_X0_copyFrom   (o : lc_St) (s : lc_St) : Option (lc_St) :=
  lc_let (va_up s 1 (va_cpy (o 1) (s 1) 0 0 8)) (fun s1 => lc_let (va_up s1 2 (va_cpy (o 2) (s1 2) 0 0 8)) (fun s2 => lc_let (va_up s2 3 (va_cpy (o 3) (s2 3) 0 0 8)) (fun s3 => lc_let (va_up s3 4 (va_cpy (o 4) (s3 4) 0 0 8)) (fun s4 => lc_let (va_up s4 5 (va_cpy (o 5) (s4 5) 0 0 12)) (fun s5 => lc_let (va_up s5 6 (va_cpy (o 6) (s5 6) 0 0 12)) (fun s6 => lc_let (va_up s6 7 (va_cpy (o 7) (s6 7) 0 0 12)) (fun s7 => lc_let (va_up s7 8 (va_cpy (o 8) (s7 8) 0 0 12)) (fun s8 => lc_let (va_up s8 9 (va_cpy (o 9) (s8 9) 0 0 12)) (fun s9 => lc_let (lc_ss s9 0 0 (o 0 0)) (fun s10 => lc_let (lc_ss s10 0 1 (o 0 1)) (fun s11 => lc_let (lc_ss s11 0 2 (o 0 2)) (fun s12 => lc_let (lc_ss s12 0 3 (o 0 3)) (fun s13 => lc_let (lc_ss s13 0 4 (o 0 4)) (fun s14 => lc_let (lc_ss s14 0 5 (o 0 5)) (fun s15 => lc_let (lc_ss s15 0 6 (o 0 6)) (fun s16 => lc_let (lc_ss s16 0 7 (-9 : Int32)) (fun s17 => lc_let (lc_ss s17 0 8 (0 : Int32)) (fun s18 => some s18))))))))))))))))))
set_option maxRecDepth 100000 in
set_option maxHeartbeats 4000000 in
theorem c_X0_copyFrom (S : lc_Se) (l : Launch) (M : lc_MM) {k0 k1 : Nat} (hk : k0 < 19) (hk1 : k1 < 19) (hne : k1 ≠ k0)  (o : lc_St) (s : lc_St) (out : lc_St) (h : P_X0_copyFrom  o s = some out) : lc_MV S l yX0_copyFrom cX0_copyFrom 2 none rm_X0_copyFrom [.ref (lc_ad S (10 * k0)), .ref (lc_ad S (10 * k1))] (va_up (va_up M k1 o) k0 s)  (va_up (va_up M k1 o) k0 out) := by
  refine lc_mkV (own := RX0) pn_RX0 rfl (Nat.le_of_ble_eq_true rfl) (lo := [(0, .ref (lc_ad S (10 * k0))), (1, .ref (lc_ad S (10 * k1)))]) rfl (fun X hX C => ?_)
  rw [P_X0_copyFrom] at h
  refine lc_aload_n C (pc' := 1) 1 dX0_copyFrom_0 rfl rfl ?_
  refine lc_br0 C (pc' := 4) (k0 := k1) hk1 dX0_copyFrom_1 kf_RX0_9 rfl ?_
  refine lc_iconst C (pc' := 5) (v := (0 : Int32)) dX0_copyFrom_4 (by decide) rfl ?_
  refine lc_aload_n C (pc' := 6) 0 dX0_copyFrom_5 rfl rfl ?_
  refine lc_br0 C (pc' := 9) (k0 := k0) hk dX0_copyFrom_6 kf_RX0_9 rfl ?_
  refine lc_iconst C (pc' := 10) (v := (0 : Int32)) dX0_copyFrom_9 (by decide) rfl ?_
  refine lc_bipush C (pc' := 12) (v := (8 : Int32)) dX0_copyFrom_10 (by decide) rfl ?_
  obtain ⟨s1, es1, h⟩ := lc_let2 h
  refine lc_acp C (pc' := 15) (k0 := k0) (k1 := k1) (r := 1) (len := 8) (M' := (va_up (va_up M k1 o) k0 s1)) hk hk1 (by decide) (by decide) (va_up_self _ _ _) (lc_in2 _ _ _ hne) rfl (by decide) (by decide) es1 (lc_up_up _ _ _ _) lc_ac ⟨Nat.le_of_ble_eq_true rfl, Nat.le_of_ble_eq_true rfl⟩ dX0_copyFrom_12 rfl ?_
  refine lc_aload_n C (pc' := 16) 1 dX0_copyFrom_15 rfl rfl ?_
  refine lc_br1 C (pc' := 19) (k0 := k1) hk1 dX0_copyFrom_16 kf_RX0_15 rfl ?_
  refine lc_iconst C (pc' := 20) (v := (0 : Int32)) dX0_copyFrom_19 (by decide) rfl ?_
  refine lc_aload_n C (pc' := 21) 0 dX0_copyFrom_20 rfl rfl ?_
  refine lc_br1 C (pc' := 24) (k0 := k0) hk dX0_copyFrom_21 kf_RX0_15 rfl ?_
  refine lc_iconst C (pc' := 25) (v := (0 : Int32)) dX0_copyFrom_24 (by decide) rfl ?_
  refine lc_bipush C (pc' := 27) (v := (8 : Int32)) dX0_copyFrom_25 (by decide) rfl ?_
  obtain ⟨s2, es2, h⟩ := lc_let2 h
  refine lc_acp C (pc' := 30) (k0 := k0) (k1 := k1) (r := 2) (len := 8) (M' := (va_up (va_up M k1 o) k0 s2)) hk hk1 (by decide) (by decide) (va_up_self _ _ _) (lc_in2 _ _ _ hne) rfl (by decide) (by decide) es2 (lc_up_up _ _ _ _) lc_ac ⟨Nat.le_of_ble_eq_true rfl, Nat.le_of_ble_eq_true rfl⟩ dX0_copyFrom_27 rfl ?_
  refine lc_aload_n C (pc' := 31) 1 dX0_copyFrom_30 rfl rfl ?_
  refine lc_br2 C (pc' := 34) (k0 := k1) hk1 dX0_copyFrom_31 kf_RX0_18 rfl ?_
  refine lc_iconst C (pc' := 35) (v := (0 : Int32)) dX0_copyFrom_34 (by decide) rfl ?_
  refine lc_aload_n C (pc' := 36) 0 dX0_copyFrom_35 rfl rfl ?_
  refine lc_br2 C (pc' := 39) (k0 := k0) hk dX0_copyFrom_36 kf_RX0_18 rfl ?_
  refine lc_iconst C (pc' := 40) (v := (0 : Int32)) dX0_copyFrom_39 (by decide) rfl ?_
  refine lc_bipush C (pc' := 42) (v := (8 : Int32)) dX0_copyFrom_40 (by decide) rfl ?_
  obtain ⟨s3, es3, h⟩ := lc_let2 h
  refine lc_acp C (pc' := 45) (k0 := k0) (k1 := k1) (r := 3) (len := 8) (M' := (va_up (va_up M k1 o) k0 s3)) hk hk1 (by decide) (by decide) (va_up_self _ _ _) (lc_in2 _ _ _ hne) rfl (by decide) (by decide) es3 (lc_up_up _ _ _ _) lc_ac ⟨Nat.le_of_ble_eq_true rfl, Nat.le_of_ble_eq_true rfl⟩ dX0_copyFrom_42 rfl ?_
  refine lc_aload_n C (pc' := 46) 1 dX0_copyFrom_45 rfl rfl ?_
  refine lc_br3 C (pc' := 49) (k0 := k1) hk1 dX0_copyFrom_46 kf_RX0_21 rfl ?_
  refine lc_iconst C (pc' := 50) (v := (0 : Int32)) dX0_copyFrom_49 (by decide) rfl ?_
  refine lc_aload_n C (pc' := 51) 0 dX0_copyFrom_50 rfl rfl ?_
  refine lc_br3 C (pc' := 54) (k0 := k0) hk dX0_copyFrom_51 kf_RX0_21 rfl ?_
  refine lc_iconst C (pc' := 55) (v := (0 : Int32)) dX0_copyFrom_54 (by decide) rfl ?_
  refine lc_bipush C (pc' := 57) (v := (8 : Int32)) dX0_copyFrom_55 (by decide) rfl ?_
  obtain ⟨s4, es4, h⟩ := lc_let2 h
  refine lc_acp C (pc' := 60) (k0 := k0) (k1 := k1) (r := 4) (len := 8) (M' := (va_up (va_up M k1 o) k0 s4)) hk hk1 (by decide) (by decide) (va_up_self _ _ _) (lc_in2 _ _ _ hne) rfl (by decide) (by decide) es4 (lc_up_up _ _ _ _) lc_ac ⟨Nat.le_of_ble_eq_true rfl, Nat.le_of_ble_eq_true rfl⟩ dX0_copyFrom_57 rfl ?_
  refine lc_aload_n C (pc' := 61) 1 dX0_copyFrom_60 rfl rfl ?_
  refine lc_br4 C (pc' := 64) (k0 := k1) hk1 dX0_copyFrom_61 kf_RX0_24 rfl ?_
  refine lc_iconst C (pc' := 65) (v := (0 : Int32)) dX0_copyFrom_64 (by decide) rfl ?_
  refine lc_aload_n C (pc' := 66) 0 dX0_copyFrom_65 rfl rfl ?_
  refine lc_br4 C (pc' := 69) (k0 := k0) hk dX0_copyFrom_66 kf_RX0_24 rfl ?_
  refine lc_iconst C (pc' := 70) (v := (0 : Int32)) dX0_copyFrom_69 (by decide) rfl ?_
  refine lc_bipush C (pc' := 72) (v := (12 : Int32)) dX0_copyFrom_70 (by decide) rfl ?_
  obtain ⟨s5, es5, h⟩ := lc_let2 h
  refine lc_acp C (pc' := 75) (k0 := k0) (k1 := k1) (r := 5) (len := 12) (M' := (va_up (va_up M k1 o) k0 s5)) hk hk1 (by decide) (by decide) (va_up_self _ _ _) (lc_in2 _ _ _ hne) rfl (by decide) (by decide) es5 (lc_up_up _ _ _ _) lc_ac ⟨Nat.le_of_ble_eq_true rfl, Nat.le_of_ble_eq_true rfl⟩ dX0_copyFrom_72 rfl ?_
  refine lc_aload_n C (pc' := 76) 1 dX0_copyFrom_75 rfl rfl ?_
  refine lc_br5 C (pc' := 79) (k0 := k1) hk1 dX0_copyFrom_76 kf_RX0_27 rfl ?_
  refine lc_iconst C (pc' := 80) (v := (0 : Int32)) dX0_copyFrom_79 (by decide) rfl ?_
  refine lc_aload_n C (pc' := 81) 0 dX0_copyFrom_80 rfl rfl ?_
  refine lc_br5 C (pc' := 84) (k0 := k0) hk dX0_copyFrom_81 kf_RX0_27 rfl ?_
  refine lc_iconst C (pc' := 85) (v := (0 : Int32)) dX0_copyFrom_84 (by decide) rfl ?_
  refine lc_bipush C (pc' := 87) (v := (12 : Int32)) dX0_copyFrom_85 (by decide) rfl ?_
  obtain ⟨s6, es6, h⟩ := lc_let2 h
  refine lc_acp C (pc' := 90) (k0 := k0) (k1 := k1) (r := 6) (len := 12) (M' := (va_up (va_up M k1 o) k0 s6)) hk hk1 (by decide) (by decide) (va_up_self _ _ _) (lc_in2 _ _ _ hne) rfl (by decide) (by decide) es6 (lc_up_up _ _ _ _) lc_ac ⟨Nat.le_of_ble_eq_true rfl, Nat.le_of_ble_eq_true rfl⟩ dX0_copyFrom_87 rfl ?_
  refine lc_aload_n C (pc' := 91) 1 dX0_copyFrom_90 rfl rfl ?_
  refine lc_br6 C (pc' := 94) (k0 := k1) hk1 dX0_copyFrom_91 kf_RX0_30 rfl ?_
  refine lc_iconst C (pc' := 95) (v := (0 : Int32)) dX0_copyFrom_94 (by decide) rfl ?_
  refine lc_aload_n C (pc' := 96) 0 dX0_copyFrom_95 rfl rfl ?_
  refine lc_br6 C (pc' := 99) (k0 := k0) hk dX0_copyFrom_96 kf_RX0_30 rfl ?_
  refine lc_iconst C (pc' := 100) (v := (0 : Int32)) dX0_copyFrom_99 (by decide) rfl ?_
  refine lc_bipush C (pc' := 102) (v := (12 : Int32)) dX0_copyFrom_100 (by decide) rfl ?_
  obtain ⟨s7, es7, h⟩ := lc_let2 h
  refine lc_acp C (pc' := 105) (k0 := k0) (k1 := k1) (r := 7) (len := 12) (M' := (va_up (va_up M k1 o) k0 s7)) hk hk1 (by decide) (by decide) (va_up_self _ _ _) (lc_in2 _ _ _ hne) rfl (by decide) (by decide) es7 (lc_up_up _ _ _ _) lc_ac ⟨Nat.le_of_ble_eq_true rfl, Nat.le_of_ble_eq_true rfl⟩ dX0_copyFrom_102 rfl ?_
  refine lc_aload_n C (pc' := 106) 1 dX0_copyFrom_105 rfl rfl ?_
  refine lc_br7 C (pc' := 109) (k0 := k1) hk1 dX0_copyFrom_106 kf_RX0_33 rfl ?_
  refine lc_iconst C (pc' := 110) (v := (0 : Int32)) dX0_copyFrom_109 (by decide) rfl ?_
  refine lc_aload_n C (pc' := 111) 0 dX0_copyFrom_110 rfl rfl ?_
  refine lc_br7 C (pc' := 114) (k0 := k0) hk dX0_copyFrom_111 kf_RX0_33 rfl ?_
  refine lc_iconst C (pc' := 115) (v := (0 : Int32)) dX0_copyFrom_114 (by decide) rfl ?_
  refine lc_bipush C (pc' := 117) (v := (12 : Int32)) dX0_copyFrom_115 (by decide) rfl ?_
  obtain ⟨s8, es8, h⟩ := lc_let2 h
  refine lc_acp C (pc' := 120) (k0 := k0) (k1 := k1) (r := 8) (len := 12) (M' := (va_up (va_up M k1 o) k0 s8)) hk hk1 (by decide) (by decide) (va_up_self _ _ _) (lc_in2 _ _ _ hne) rfl (by decide) (by decide) es8 (lc_up_up _ _ _ _) lc_ac ⟨Nat.le_of_ble_eq_true rfl, Nat.le_of_ble_eq_true rfl⟩ dX0_copyFrom_117 rfl ?_
  refine lc_aload_n C (pc' := 121) 1 dX0_copyFrom_120 rfl rfl ?_
  refine lc_br8 C (pc' := 124) (k0 := k1) hk1 dX0_copyFrom_121 kf_RX0_36 rfl ?_
  refine lc_iconst C (pc' := 125) (v := (0 : Int32)) dX0_copyFrom_124 (by decide) rfl ?_
  refine lc_aload_n C (pc' := 126) 0 dX0_copyFrom_125 rfl rfl ?_
  refine lc_br8 C (pc' := 129) (k0 := k0) hk dX0_copyFrom_126 kf_RX0_36 rfl ?_
  refine lc_iconst C (pc' := 130) (v := (0 : Int32)) dX0_copyFrom_129 (by decide) rfl ?_
  refine lc_bipush C (pc' := 132) (v := (12 : Int32)) dX0_copyFrom_130 (by decide) rfl ?_
  obtain ⟨s9, es9, h⟩ := lc_let2 h
  refine lc_acp C (pc' := 135) (k0 := k0) (k1 := k1) (r := 9) (len := 12) (M' := (va_up (va_up M k1 o) k0 s9)) hk hk1 (by decide) (by decide) (va_up_self _ _ _) (lc_in2 _ _ _ hne) rfl (by decide) (by decide) es9 (lc_up_up _ _ _ _) lc_ac ⟨Nat.le_of_ble_eq_true rfl, Nat.le_of_ble_eq_true rfl⟩ dX0_copyFrom_132 rfl ?_
  refine lc_aload_n C (pc' := 136) 0 dX0_copyFrom_135 rfl rfl ?_
  refine lc_aload_n C (pc' := 137) 1 dX0_copyFrom_136 rfl rfl ?_
  refine lc_bg0 C (pc' := 140) (k0 := k1) hk1 (lc_in2 _ _ _ hne) dX0_copyFrom_137 kf_RX0_43 rfl ?_
  obtain ⟨s10, es10, h⟩ := lc_let2 h
  refine lc_bp0 C (pc' := 143) (k0 := k0) (M' := (va_up (va_up M k1 o) k0 s10)) hk (va_up_self _ _ _) es10 (lc_up_up _ _ _ _) dX0_copyFrom_140 kf_RX0_43 rfl ?_
  refine lc_aload_n C (pc' := 144) 0 dX0_copyFrom_143 rfl rfl ?_
  refine lc_aload_n C (pc' := 145) 1 dX0_copyFrom_144 rfl rfl ?_
  refine lc_bg1 C (pc' := 148) (k0 := k1) hk1 (lc_in2 _ _ _ hne) dX0_copyFrom_145 kf_RX0_46 rfl ?_
  obtain ⟨s11, es11, h⟩ := lc_let2 h
  refine lc_bp1 C (pc' := 151) (k0 := k0) (M' := (va_up (va_up M k1 o) k0 s11)) hk (va_up_self _ _ _) es11 (lc_up_up _ _ _ _) dX0_copyFrom_148 kf_RX0_46 rfl ?_
  refine lc_aload_n C (pc' := 152) 0 dX0_copyFrom_151 rfl rfl ?_
  refine lc_aload_n C (pc' := 153) 1 dX0_copyFrom_152 rfl rfl ?_
  refine lc_bg2 C (pc' := 156) (k0 := k1) hk1 (lc_in2 _ _ _ hne) dX0_copyFrom_153 kf_RX0_49 rfl ?_
  obtain ⟨s12, es12, h⟩ := lc_let2 h
  refine lc_bp2 C (pc' := 159) (k0 := k0) (M' := (va_up (va_up M k1 o) k0 s12)) hk (va_up_self _ _ _) es12 (lc_up_up _ _ _ _) dX0_copyFrom_156 kf_RX0_49 rfl ?_
  refine lc_aload_n C (pc' := 160) 0 dX0_copyFrom_159 rfl rfl ?_
  refine lc_aload_n C (pc' := 161) 1 dX0_copyFrom_160 rfl rfl ?_
  refine lc_bg3 C (pc' := 164) (k0 := k1) hk1 (lc_in2 _ _ _ hne) dX0_copyFrom_161 kf_RX0_52 rfl ?_
  obtain ⟨s13, es13, h⟩ := lc_let2 h
  refine lc_bp3 C (pc' := 167) (k0 := k0) (M' := (va_up (va_up M k1 o) k0 s13)) hk (va_up_self _ _ _) es13 (lc_up_up _ _ _ _) dX0_copyFrom_164 kf_RX0_52 rfl ?_
  refine lc_aload_n C (pc' := 168) 0 dX0_copyFrom_167 rfl rfl ?_
  refine lc_aload_n C (pc' := 169) 1 dX0_copyFrom_168 rfl rfl ?_
  refine lc_bg4 C (pc' := 172) (k0 := k1) hk1 (lc_in2 _ _ _ hne) dX0_copyFrom_169 kf_RX0_55 rfl ?_
  obtain ⟨s14, es14, h⟩ := lc_let2 h
  refine lc_bp4 C (pc' := 175) (k0 := k0) (M' := (va_up (va_up M k1 o) k0 s14)) hk (va_up_self _ _ _) es14 (lc_up_up _ _ _ _) dX0_copyFrom_172 kf_RX0_55 rfl ?_
  refine lc_aload_n C (pc' := 176) 0 dX0_copyFrom_175 rfl rfl ?_
  refine lc_aload_n C (pc' := 177) 1 dX0_copyFrom_176 rfl rfl ?_
  refine lc_bg5 C (pc' := 180) (k0 := k1) hk1 (lc_in2 _ _ _ hne) dX0_copyFrom_177 kf_RX0_58 rfl ?_
  obtain ⟨s15, es15, h⟩ := lc_let2 h
  refine lc_bp5 C (pc' := 183) (k0 := k0) (M' := (va_up (va_up M k1 o) k0 s15)) hk (va_up_self _ _ _) es15 (lc_up_up _ _ _ _) dX0_copyFrom_180 kf_RX0_58 rfl ?_
  refine lc_aload_n C (pc' := 184) 0 dX0_copyFrom_183 rfl rfl ?_
  refine lc_aload_n C (pc' := 185) 1 dX0_copyFrom_184 rfl rfl ?_
  refine lc_bg6 C (pc' := 188) (k0 := k1) hk1 (lc_in2 _ _ _ hne) dX0_copyFrom_185 kf_RX0_61 rfl ?_
  obtain ⟨s16, es16, h⟩ := lc_let2 h
  refine lc_bp6 C (pc' := 191) (k0 := k0) (M' := (va_up (va_up M k1 o) k0 s16)) hk (va_up_self _ _ _) es16 (lc_up_up _ _ _ _) dX0_copyFrom_188 kf_RX0_61 rfl ?_
  refine lc_aload_n C (pc' := 192) 0 dX0_copyFrom_191 rfl rfl ?_
  refine lc_bipush C (pc' := 194) (v := (-9 : Int32)) dX0_copyFrom_192 (by decide) rfl ?_
  obtain ⟨s17, es17, h⟩ := lc_let2 h
  refine lc_bp7 C (pc' := 197) (k0 := k0) (M' := (va_up (va_up M k1 o) k0 s17)) hk (va_up_self _ _ _) es17 (lc_up_up _ _ _ _) dX0_copyFrom_194 kf_RX0_39 rfl ?_
  refine lc_aload_n C (pc' := 198) 0 dX0_copyFrom_197 rfl rfl ?_
  refine lc_iconst C (pc' := 199) (v := (0 : Int32)) dX0_copyFrom_198 (by decide) rfl ?_
  obtain ⟨s18, es18, h⟩ := lc_let2 h
  refine lc_bp8 C (pc' := 202) (k0 := k0) (M' := (va_up (va_up M k1 o) k0 s18)) hk (va_up_self _ _ _) es18 (lc_up_up _ _ _ _) dX0_copyFrom_199 kf_RX0_64 rfl ?_
  obtain rfl := Option.some.inj h
  exact lc_vret C rfl dX0_copyFrom_202
abbrev rm_X0_hasCell : Room := { frames := 0, cells := 0, slots := 0, locals := 0 }
def P_X0_hasCell  (x1 : Int32) (s : lc_St) : Option (Int32) :=
  if x1 < 0 then some (0 : Int32) else if (s 0 0) ≤ x1 then some (0 : Int32) else some (1 : Int32)
set_option maxRecDepth 100000 in
set_option maxHeartbeats 4000000 in
theorem c_X0_hasCell (S : lc_Se) (l : Launch) (M : lc_MM) {k0 : Nat} (hk : k0 < 19) (x1 : Int32) (s : lc_St) (out : Int32) (h : P_X0_hasCell x1 s = some out) : lc_MI S l yX0_hasCell cX0_hasCell 2 (some .boolean) rm_X0_hasCell [.ref (lc_ad S (10 * k0)), .int x1] (va_up M k0 s) out (va_up M k0 s) := by
  refine lc_mkI (own := RX0) pn_RX0 rfl (Nat.le_of_ble_eq_true rfl) (lo := [(0, .ref (lc_ad S (10 * k0))), (1, .int x1)]) rfl (fun X hX C => ?_)
  rw [P_X0_hasCell] at h
  refine lc_iload_n C (pc' := 1) 1 dX0_hasCell_0 rfl rfl ?_
  refine lc_if_lt C (pc' := 4) (tgt := 16) dX0_hasCell_1 (by decide) rfl (fun c1 => ?_) (fun c1 => ?_)
  · have h := (lc_if2 h).1 c1
    refine lc_iconst C (pc' := 17) (v := (0 : Int32)) dX0_hasCell_16 (by decide) rfl ?_
    obtain rfl := Option.some.inj h
    exact lc_zret C rfl (Or.inl rfl) dX0_hasCell_17
  · have h := (lc_if2 h).2 c1
    refine lc_iload_n C (pc' := 5) 1 dX0_hasCell_4 rfl rfl ?_
    refine lc_aload_n C (pc' := 6) 0 dX0_hasCell_5 rfl rfl ?_
    refine lc_bg0 C (pc' := 9) (k0 := k0) hk (va_up_self _ _ _) dX0_hasCell_6 kf_RX0_43 rfl ?_
    refine lc_icmp_ge C (pc' := 12) (tgt := 16) dX0_hasCell_9 (by decide) rfl (fun c9 => ?_) (fun c9 => ?_)
    · have h := (lc_if2 h).1 c9
      refine lc_iconst C (pc' := 17) (v := (0 : Int32)) dX0_hasCell_16 (by decide) rfl ?_
      obtain rfl := Option.some.inj h
      exact lc_zret C rfl (Or.inl rfl) dX0_hasCell_17
    · have h := (lc_if2 h).2 c9
      refine lc_iconst C (pc' := 13) (v := (1 : Int32)) dX0_hasCell_12 (by decide) rfl ?_
      refine lc_goto C (tgt := 17) dX0_hasCell_13 (by decide) ?_
      obtain rfl := Option.some.inj h
      exact lc_zret C rfl (Or.inr rfl) dX0_hasCell_17
abbrev rm_X0_hasLoan : Room := { frames := 0, cells := 0, slots := 0, locals := 0 }
def P_X0_hasLoan  (x1 : Int32) (s : lc_St) : Option (Int32) :=
  if x1 < 0 then some (0 : Int32) else if (s 0 1) ≤ x1 then some (0 : Int32) else some (1 : Int32)
set_option maxRecDepth 100000 in
set_option maxHeartbeats 4000000 in
theorem c_X0_hasLoan (S : lc_Se) (l : Launch) (M : lc_MM) {k0 : Nat} (hk : k0 < 19) (x1 : Int32) (s : lc_St) (out : Int32) (h : P_X0_hasLoan x1 s = some out) : lc_MI S l yX0_hasLoan cX0_hasLoan 2 (some .boolean) rm_X0_hasLoan [.ref (lc_ad S (10 * k0)), .int x1] (va_up M k0 s) out (va_up M k0 s) := by
  refine lc_mkI (own := RX0) pn_RX0 rfl (Nat.le_of_ble_eq_true rfl) (lo := [(0, .ref (lc_ad S (10 * k0))), (1, .int x1)]) rfl (fun X hX C => ?_)
  rw [P_X0_hasLoan] at h
  refine lc_iload_n C (pc' := 1) 1 dX0_hasLoan_0 rfl rfl ?_
  refine lc_if_lt C (pc' := 4) (tgt := 16) dX0_hasLoan_1 (by decide) rfl (fun c1 => ?_) (fun c1 => ?_)
  · have h := (lc_if2 h).1 c1
    refine lc_iconst C (pc' := 17) (v := (0 : Int32)) dX0_hasLoan_16 (by decide) rfl ?_
    obtain rfl := Option.some.inj h
    exact lc_zret C rfl (Or.inl rfl) dX0_hasLoan_17
  · have h := (lc_if2 h).2 c1
    refine lc_iload_n C (pc' := 5) 1 dX0_hasLoan_4 rfl rfl ?_
    refine lc_aload_n C (pc' := 6) 0 dX0_hasLoan_5 rfl rfl ?_
    refine lc_bg1 C (pc' := 9) (k0 := k0) hk (va_up_self _ _ _) dX0_hasLoan_6 kf_RX0_46 rfl ?_
    refine lc_icmp_ge C (pc' := 12) (tgt := 16) dX0_hasLoan_9 (by decide) rfl (fun c9 => ?_) (fun c9 => ?_)
    · have h := (lc_if2 h).1 c9
      refine lc_iconst C (pc' := 17) (v := (0 : Int32)) dX0_hasLoan_16 (by decide) rfl ?_
      obtain rfl := Option.some.inj h
      exact lc_zret C rfl (Or.inl rfl) dX0_hasLoan_17
    · have h := (lc_if2 h).2 c9
      refine lc_iconst C (pc' := 13) (v := (1 : Int32)) dX0_hasLoan_12 (by decide) rfl ?_
      refine lc_goto C (tgt := 17) dX0_hasLoan_13 (by decide) ?_
      obtain rfl := Option.some.inj h
      exact lc_zret C rfl (Or.inr rfl) dX0_hasLoan_17
abbrev rm_X0_isBankrupt : Room := { frames := 0, cells := 0, slots := 0, locals := 0 }
def P_X0_isBankrupt  (x1 : Int32) (s : lc_St) : Option (Int32) :=
  if x1 < 0 then some (0 : Int32) else if (s 0 0) ≤ x1 then some (0 : Int32) else lc_if (lc_ok x1 8) (if (s 4 x1.toNatClampNeg) < (3 : Int32) then some (0 : Int32) else some (1 : Int32))
set_option maxRecDepth 100000 in
set_option maxHeartbeats 4000000 in
theorem c_X0_isBankrupt (S : lc_Se) (l : Launch) (M : lc_MM) {k0 : Nat} (hk : k0 < 19) (x1 : Int32) (s : lc_St) (out : Int32) (h : P_X0_isBankrupt x1 s = some out) : lc_MI S l yX0_isBankrupt cX0_isBankrupt 2 (some .boolean) rm_X0_isBankrupt [.ref (lc_ad S (10 * k0)), .int x1] (va_up M k0 s) out (va_up M k0 s) := by
  refine lc_mkI (own := RX0) pn_RX0 rfl (Nat.le_of_ble_eq_true rfl) (lo := [(0, .ref (lc_ad S (10 * k0))), (1, .int x1)]) rfl (fun X hX C => ?_)
  rw [P_X0_isBankrupt] at h
  refine lc_iload_n C (pc' := 1) 1 dX0_isBankrupt_0 rfl rfl ?_
  refine lc_if_lt C (pc' := 4) (tgt := 26) dX0_isBankrupt_1 (by decide) rfl (fun c1 => ?_) (fun c1 => ?_)
  · have h := (lc_if2 h).1 c1
    refine lc_iconst C (pc' := 27) (v := (0 : Int32)) dX0_isBankrupt_26 (by decide) rfl ?_
    obtain rfl := Option.some.inj h
    exact lc_zret C rfl (Or.inl rfl) dX0_isBankrupt_27
  · have h := (lc_if2 h).2 c1
    refine lc_iload_n C (pc' := 5) 1 dX0_isBankrupt_4 rfl rfl ?_
    refine lc_aload_n C (pc' := 6) 0 dX0_isBankrupt_5 rfl rfl ?_
    refine lc_bg0 C (pc' := 9) (k0 := k0) hk (va_up_self _ _ _) dX0_isBankrupt_6 kf_RX0_43 rfl ?_
    refine lc_icmp_ge C (pc' := 12) (tgt := 26) dX0_isBankrupt_9 (by decide) rfl (fun c9 => ?_) (fun c9 => ?_)
    · have h := (lc_if2 h).1 c9
      refine lc_iconst C (pc' := 27) (v := (0 : Int32)) dX0_isBankrupt_26 (by decide) rfl ?_
      obtain rfl := Option.some.inj h
      exact lc_zret C rfl (Or.inl rfl) dX0_isBankrupt_27
    · have h := (lc_if2 h).2 c9
      refine lc_aload_n C (pc' := 13) 0 dX0_isBankrupt_12 rfl rfl ?_
      refine lc_br3 C (pc' := 16) (k0 := k0) hk dX0_isBankrupt_13 kf_RX0_21 rfl ?_
      refine lc_iload_n C (pc' := 17) 1 dX0_isBankrupt_16 rfl rfl ?_
      obtain ⟨hi17, h⟩ := lc_ife h
      refine lc_bald C (pc' := 18) (k0 := k0) (r := 4) (len := 8) (jj := x1.toNatClampNeg) hk (by decide) (by decide) (va_up_self _ _ _) rfl hi17 rfl dX0_isBankrupt_17 rfl ?_
      refine lc_iconst C (pc' := 19) (v := (3 : Int32)) dX0_isBankrupt_18 (by decide) rfl ?_
      refine lc_icmp_lt C (pc' := 22) (tgt := 26) dX0_isBankrupt_19 (by decide) rfl (fun c19 => ?_) (fun c19 => ?_)
      · have h := (lc_if2 h).1 c19
        refine lc_iconst C (pc' := 27) (v := (0 : Int32)) dX0_isBankrupt_26 (by decide) rfl ?_
        obtain rfl := Option.some.inj h
        exact lc_zret C rfl (Or.inl rfl) dX0_isBankrupt_27
      · have h := (lc_if2 h).2 c19
        refine lc_iconst C (pc' := 23) (v := (1 : Int32)) dX0_isBankrupt_22 (by decide) rfl ?_
        refine lc_goto C (tgt := 27) dX0_isBankrupt_23 (by decide) ?_
        obtain rfl := Option.some.inj h
        exact lc_zret C rfl (Or.inr rfl) dX0_isBankrupt_27
abbrev rm_X0_chargeOf : Room := { frames := 1, cells := 0, slots := 0, locals := 21 }
def P_X0_chargeOf  (x1 : Int32) (s : lc_St) : Option (Int32) :=
  lc_bd (P_X0_hasCell x1 s) (fun r2 => if r2 = 0 then some (0 : Int32) else lc_if (lc_ok x1 8) (some (s 2 x1.toNatClampNeg)))
set_option maxRecDepth 100000 in
set_option maxHeartbeats 4000000 in
theorem c_X0_chargeOf (S : lc_Se) (l : Launch) (M : lc_MM) {k0 : Nat} (hk : k0 < 19) (x1 : Int32) (s : lc_St) (out : Int32) (h : P_X0_chargeOf x1 s = some out) : lc_MI S l yX0_chargeOf cX0_chargeOf 2 (some .int) rm_X0_chargeOf [.ref (lc_ad S (10 * k0)), .int x1] (va_up M k0 s) out (va_up M k0 s) := by
  refine lc_mkI (own := RX0) pn_RX0 rfl (Nat.le_of_ble_eq_true rfl) (lo := [(0, .ref (lc_ad S (10 * k0))), (1, .int x1)]) rfl (fun X hX C => ?_)
  rw [P_X0_chargeOf] at h
  refine lc_aload_n C (pc' := 1) 0 dX0_chargeOf_0 rfl rfl ?_
  refine lc_iload_n C (pc' := 2) 1 dX0_chargeOf_1 rfl rfl ?_
  obtain ⟨r2, h2, h⟩ := lc_bde h
  refine lc_cvi C (pc' := 5) (r := r2) (M' := (va_up M k0 s)) (As := [.int x1]) (rest := []) (c_X0_hasCell S X.2.1 M (k0 := k0) hk x1 s r2 h2) kl_RX0_73 (lc_at_b S _ hk) rfl rfl rfl rfl (Nat.le_of_ble_eq_true rfl) ⟨Nat.le_of_ble_eq_true rfl, Nat.le_of_ble_eq_true rfl⟩ ⟨rfl, rfl⟩ (lc_z2 _ _) dX0_chargeOf_2 rfl ?_
  refine lc_if_eq C (pc' := 8) (tgt := 17) dX0_chargeOf_5 (by decide) rfl (fun c5 => ?_) (fun c5 => ?_)
  · have h := (lc_if2 h).1 c5
    refine lc_iconst C (pc' := 18) (v := (0 : Int32)) dX0_chargeOf_17 (by decide) rfl ?_
    obtain rfl := Option.some.inj h
    exact lc_iret C rfl dX0_chargeOf_18
  · have h := (lc_if2 h).2 c5
    refine lc_aload_n C (pc' := 9) 0 dX0_chargeOf_8 rfl rfl ?_
    refine lc_br1 C (pc' := 12) (k0 := k0) hk dX0_chargeOf_9 kf_RX0_15 rfl ?_
    refine lc_iload_n C (pc' := 13) 1 dX0_chargeOf_12 rfl rfl ?_
    obtain ⟨hi13, h⟩ := lc_ife h
    refine lc_bald C (pc' := 14) (k0 := k0) (r := 2) (len := 8) (jj := x1.toNatClampNeg) hk (by decide) (by decide) (va_up_self _ _ _) rfl hi13 rfl dX0_chargeOf_13 rfl ?_
    refine lc_goto C (tgt := 18) dX0_chargeOf_14 (by decide) ?_
    obtain rfl := Option.some.inj h
    exact lc_iret C rfl dX0_chargeOf_18
abbrev rm_X0_roomOf : Room := { frames := 1, cells := 0, slots := 0, locals := 21 }
def P_X0_roomOf  (x1 : Int32) (s : lc_St) : Option (Int32) :=
  lc_bd (P_X0_hasCell x1 s) (fun r2 => if r2 = 0 then some (0 : Int32) else lc_if (lc_ok x1 8) (lc_if (lc_ok x1 8) (some ((s 1 x1.toNatClampNeg) - (s 2 x1.toNatClampNeg)))))
set_option maxRecDepth 100000 in
set_option maxHeartbeats 4000000 in
theorem c_X0_roomOf (S : lc_Se) (l : Launch) (M : lc_MM) {k0 : Nat} (hk : k0 < 19) (x1 : Int32) (s : lc_St) (out : Int32) (h : P_X0_roomOf x1 s = some out) : lc_MI S l yX0_roomOf cX0_roomOf 2 (some .int) rm_X0_roomOf [.ref (lc_ad S (10 * k0)), .int x1] (va_up M k0 s) out (va_up M k0 s) := by
  refine lc_mkI (own := RX0) pn_RX0 rfl (Nat.le_of_ble_eq_true rfl) (lo := [(0, .ref (lc_ad S (10 * k0))), (1, .int x1)]) rfl (fun X hX C => ?_)
  rw [P_X0_roomOf] at h
  refine lc_aload_n C (pc' := 1) 0 dX0_roomOf_0 rfl rfl ?_
  refine lc_iload_n C (pc' := 2) 1 dX0_roomOf_1 rfl rfl ?_
  obtain ⟨r2, h2, h⟩ := lc_bde h
  refine lc_cvi C (pc' := 5) (r := r2) (M' := (va_up M k0 s)) (As := [.int x1]) (rest := []) (c_X0_hasCell S X.2.1 M (k0 := k0) hk x1 s r2 h2) kl_RX0_73 (lc_at_b S _ hk) rfl rfl rfl rfl (Nat.le_of_ble_eq_true rfl) ⟨Nat.le_of_ble_eq_true rfl, Nat.le_of_ble_eq_true rfl⟩ ⟨rfl, rfl⟩ (lc_z2 _ _) dX0_roomOf_2 rfl ?_
  refine lc_if_eq C (pc' := 8) (tgt := 24) dX0_roomOf_5 (by decide) rfl (fun c5 => ?_) (fun c5 => ?_)
  · have h := (lc_if2 h).1 c5
    refine lc_iconst C (pc' := 25) (v := (0 : Int32)) dX0_roomOf_24 (by decide) rfl ?_
    obtain rfl := Option.some.inj h
    exact lc_iret C rfl dX0_roomOf_25
  · have h := (lc_if2 h).2 c5
    refine lc_aload_n C (pc' := 9) 0 dX0_roomOf_8 rfl rfl ?_
    refine lc_br0 C (pc' := 12) (k0 := k0) hk dX0_roomOf_9 kf_RX0_9 rfl ?_
    refine lc_iload_n C (pc' := 13) 1 dX0_roomOf_12 rfl rfl ?_
    obtain ⟨hi13, h⟩ := lc_ife h
    refine lc_bald C (pc' := 14) (k0 := k0) (r := 1) (len := 8) (jj := x1.toNatClampNeg) hk (by decide) (by decide) (va_up_self _ _ _) rfl hi13 rfl dX0_roomOf_13 rfl ?_
    refine lc_aload_n C (pc' := 15) 0 dX0_roomOf_14 rfl rfl ?_
    refine lc_br1 C (pc' := 18) (k0 := k0) hk dX0_roomOf_15 kf_RX0_15 rfl ?_
    refine lc_iload_n C (pc' := 19) 1 dX0_roomOf_18 rfl rfl ?_
    obtain ⟨hi19, h⟩ := lc_ife h
    refine lc_bald C (pc' := 20) (k0 := k0) (r := 2) (len := 8) (jj := x1.toNatClampNeg) hk (by decide) (by decide) (va_up_self _ _ _) rfl hi19 rfl dX0_roomOf_19 rfl ?_
    refine lc_isub C (pc' := 21) dX0_roomOf_20 rfl ?_
    refine lc_goto C (tgt := 25) dX0_roomOf_21 (by decide) ?_
    obtain rfl := Option.some.inj h
    exact lc_iret C rfl dX0_roomOf_25
abbrev rm_X0_allCharge : Room := { frames := 0, cells := 0, slots := 0, locals := 0 }
def P_X0_allCharge_4  : Nat → Int32 → Int32 → lc_St → Option (Int32)
  | 0, _, _, _ => none
  | n + 1, x1, x2, s =>
    if (s 0 0) ≤ x2 then some x1 else lc_if (lc_ok x2 8) (lc_let (x1 + (s 2 x2.toNatClampNeg)) (fun x1_20 => lc_let (x2 + (1 : Int32)) (fun x2_21 => P_X0_allCharge_4  n x1_20 x2_21 s)))
set_option maxRecDepth 100000 in
set_option maxHeartbeats 4000000 in
theorem w_X0_allCharge_4 {S : lc_Se} {X : lc_X} (C : lc_C X cX0_allCharge RX0 3 (some .int) rm_X0_allCharge) {M : lc_MM} {k0 : Nat} (hk : k0 < 19) (out : Int32)  : ∀ (n : Nat) (x1 : Int32) (x2 : Int32) (s : lc_St), P_X0_allCharge_4  n x1 x2 s = some out → lc_J S X 3 0 0 (lc_QI S X 0 0 out (va_up M k0 s)) 4 [(0, .ref (lc_ad S (10 * k0))), (1, .int x1), (2, .int x2)] [] (va_up M k0 s) := by
  intro n
  induction n with
  | zero =>
    intro x1 x2 s h
    rw [P_X0_allCharge_4] at h
    cases h
  | succ n ih =>
    intro x1 x2 s h
    rw [P_X0_allCharge_4] at h
    refine lc_iload_n C (pc' := 5) 2 dX0_allCharge_4 rfl rfl ?_
    refine lc_aload_n C (pc' := 6) 0 dX0_allCharge_5 rfl rfl ?_
    refine lc_bg0 C (pc' := 9) (k0 := k0) hk (va_up_self _ _ _) dX0_allCharge_6 kf_RX0_43 rfl ?_
    refine lc_icmp_ge C (pc' := 12) (tgt := 27) dX0_allCharge_9 (by decide) rfl (fun c9 => ?_) (fun c9 => ?_)
    · have h := (lc_if2 h).1 c9
      refine lc_iload_n C (pc' := 28) 1 dX0_allCharge_27 rfl rfl ?_
      obtain rfl := Option.some.inj h
      exact lc_iret C rfl dX0_allCharge_28
    · have h := (lc_if2 h).2 c9
      refine lc_iload_n C (pc' := 13) 1 dX0_allCharge_12 rfl rfl ?_
      refine lc_aload_n C (pc' := 14) 0 dX0_allCharge_13 rfl rfl ?_
      refine lc_br1 C (pc' := 17) (k0 := k0) hk dX0_allCharge_14 kf_RX0_15 rfl ?_
      refine lc_iload_n C (pc' := 18) 2 dX0_allCharge_17 rfl rfl ?_
      obtain ⟨hi18, h⟩ := lc_ife h
      refine lc_bald C (pc' := 19) (k0 := k0) (r := 2) (len := 8) (jj := x2.toNatClampNeg) hk (by decide) (by decide) (va_up_self _ _ _) rfl hi18 rfl dX0_allCharge_18 rfl ?_
      refine lc_iadd C (pc' := 20) dX0_allCharge_19 rfl ?_
      obtain ⟨x1_20, e1_20, h⟩ := lc_let2 h
      rw [e1_20]
      refine lc_istore_n C (pc' := 21) (lo' := [(1, .int x1_20), (0, .ref (lc_ad S (10 * k0))), (2, .int x2)]) dX0_allCharge_20 (Nat.le_of_ble_eq_true rfl) rfl rfl ?_
      obtain ⟨x2_21, e2_21, h⟩ := lc_let2 h
      refine lc_iinc C (pc' := 24) (lo' := [(2, .int x2_21), (1, .int x1_20), (0, .ref (lc_ad S (10 * k0)))]) (q := 2) dX0_allCharge_21 rfl (by rw [← e2_21]; rfl) (Nat.le_of_ble_eq_true rfl) rfl rfl ?_
      refine lc_goto C (tgt := 4) dX0_allCharge_24 (by decide) ?_
      refine lc_sub (lo' := [(0, .ref (lc_ad S (10 * k0))), (1, .int x1_20), (2, .int x2_21)]) [2, 1, 0] rfl ?_
      exact ih x1_20 x2_21 s h
def P_X0_allCharge   (s : lc_St) : Option (Int32) :=
  P_X0_allCharge_4  lc_FU (0 : Int32) (0 : Int32) s
set_option maxRecDepth 100000 in
set_option maxHeartbeats 4000000 in
theorem c_X0_allCharge (S : lc_Se) (l : Launch) (M : lc_MM) {k0 : Nat} (hk : k0 < 19)  (s : lc_St) (out : Int32) (h : P_X0_allCharge  s = some out) : lc_MI S l yX0_allCharge cX0_allCharge 3 (some .int) rm_X0_allCharge [.ref (lc_ad S (10 * k0))] (va_up M k0 s) out (va_up M k0 s) := by
  refine lc_mkI (own := RX0) pn_RX0 rfl (Nat.le_of_ble_eq_true rfl) (lo := [(0, .ref (lc_ad S (10 * k0)))]) rfl (fun X hX C => ?_)
  rw [P_X0_allCharge] at h
  refine lc_iconst C (pc' := 1) (v := (0 : Int32)) dX0_allCharge_0 (by decide) rfl ?_
  refine lc_istore_n C (pc' := 2) (lo' := [(1, .int (0 : Int32)), (0, .ref (lc_ad S (10 * k0)))]) dX0_allCharge_1 (Nat.le_of_ble_eq_true rfl) rfl rfl ?_
  refine lc_iconst C (pc' := 3) (v := (0 : Int32)) dX0_allCharge_2 (by decide) rfl ?_
  refine lc_istore_n C (pc' := 4) (lo' := [(2, .int (0 : Int32)), (1, .int (0 : Int32)), (0, .ref (lc_ad S (10 * k0)))]) dX0_allCharge_3 (Nat.le_of_ble_eq_true rfl) rfl rfl ?_
  refine lc_sub (lo' := [(0, .ref (lc_ad S (10 * k0))), (1, .int (0 : Int32)), (2, .int (0 : Int32))]) [2, 1, 0] rfl ?_
  exact w_X0_allCharge_4 C  hk out  lc_FU (0 : Int32) (0 : Int32) s h
abbrev rm_X0_allOwed : Room := { frames := 0, cells := 0, slots := 0, locals := 0 }
def P_X0_allOwed_4  : Nat → Int32 → Int32 → lc_St → Option (Int32)
  | 0, _, _, _ => none
  | n + 1, x1, x2, s =>
    if (s 0 1) ≤ x2 then some x1 else lc_if (lc_ok x2 12) (lc_let (x1 + (s 7 x2.toNatClampNeg)) (fun x1_20 => lc_let (x2 + (1 : Int32)) (fun x2_21 => P_X0_allOwed_4  n x1_20 x2_21 s)))
set_option maxRecDepth 100000 in
set_option maxHeartbeats 4000000 in
theorem w_X0_allOwed_4 {S : lc_Se} {X : lc_X} (C : lc_C X cX0_allOwed RX0 3 (some .int) rm_X0_allOwed) {M : lc_MM} {k0 : Nat} (hk : k0 < 19) (out : Int32)  : ∀ (n : Nat) (x1 : Int32) (x2 : Int32) (s : lc_St), P_X0_allOwed_4  n x1 x2 s = some out → lc_J S X 3 0 0 (lc_QI S X 0 0 out (va_up M k0 s)) 4 [(0, .ref (lc_ad S (10 * k0))), (1, .int x1), (2, .int x2)] [] (va_up M k0 s) := by
  intro n
  induction n with
  | zero =>
    intro x1 x2 s h
    rw [P_X0_allOwed_4] at h
    cases h
  | succ n ih =>
    intro x1 x2 s h
    rw [P_X0_allOwed_4] at h
    refine lc_iload_n C (pc' := 5) 2 dX0_allOwed_4 rfl rfl ?_
    refine lc_aload_n C (pc' := 6) 0 dX0_allOwed_5 rfl rfl ?_
    refine lc_bg1 C (pc' := 9) (k0 := k0) hk (va_up_self _ _ _) dX0_allOwed_6 kf_RX0_46 rfl ?_
    refine lc_icmp_ge C (pc' := 12) (tgt := 27) dX0_allOwed_9 (by decide) rfl (fun c9 => ?_) (fun c9 => ?_)
    · have h := (lc_if2 h).1 c9
      refine lc_iload_n C (pc' := 28) 1 dX0_allOwed_27 rfl rfl ?_
      obtain rfl := Option.some.inj h
      exact lc_iret C rfl dX0_allOwed_28
    · have h := (lc_if2 h).2 c9
      refine lc_iload_n C (pc' := 13) 1 dX0_allOwed_12 rfl rfl ?_
      refine lc_aload_n C (pc' := 14) 0 dX0_allOwed_13 rfl rfl ?_
      refine lc_br6 C (pc' := 17) (k0 := k0) hk dX0_allOwed_14 kf_RX0_30 rfl ?_
      refine lc_iload_n C (pc' := 18) 2 dX0_allOwed_17 rfl rfl ?_
      obtain ⟨hi18, h⟩ := lc_ife h
      refine lc_bald C (pc' := 19) (k0 := k0) (r := 7) (len := 12) (jj := x2.toNatClampNeg) hk (by decide) (by decide) (va_up_self _ _ _) rfl hi18 rfl dX0_allOwed_18 rfl ?_
      refine lc_iadd C (pc' := 20) dX0_allOwed_19 rfl ?_
      obtain ⟨x1_20, e1_20, h⟩ := lc_let2 h
      rw [e1_20]
      refine lc_istore_n C (pc' := 21) (lo' := [(1, .int x1_20), (0, .ref (lc_ad S (10 * k0))), (2, .int x2)]) dX0_allOwed_20 (Nat.le_of_ble_eq_true rfl) rfl rfl ?_
      obtain ⟨x2_21, e2_21, h⟩ := lc_let2 h
      refine lc_iinc C (pc' := 24) (lo' := [(2, .int x2_21), (1, .int x1_20), (0, .ref (lc_ad S (10 * k0)))]) (q := 2) dX0_allOwed_21 rfl (by rw [← e2_21]; rfl) (Nat.le_of_ble_eq_true rfl) rfl rfl ?_
      refine lc_goto C (tgt := 4) dX0_allOwed_24 (by decide) ?_
      refine lc_sub (lo' := [(0, .ref (lc_ad S (10 * k0))), (1, .int x1_20), (2, .int x2_21)]) [2, 1, 0] rfl ?_
      exact ih x1_20 x2_21 s h
def P_X0_allOwed   (s : lc_St) : Option (Int32) :=
  P_X0_allOwed_4  lc_FU (0 : Int32) (0 : Int32) s
set_option maxRecDepth 100000 in
set_option maxHeartbeats 4000000 in
theorem c_X0_allOwed (S : lc_Se) (l : Launch) (M : lc_MM) {k0 : Nat} (hk : k0 < 19)  (s : lc_St) (out : Int32) (h : P_X0_allOwed  s = some out) : lc_MI S l yX0_allOwed cX0_allOwed 3 (some .int) rm_X0_allOwed [.ref (lc_ad S (10 * k0))] (va_up M k0 s) out (va_up M k0 s) := by
  refine lc_mkI (own := RX0) pn_RX0 rfl (Nat.le_of_ble_eq_true rfl) (lo := [(0, .ref (lc_ad S (10 * k0)))]) rfl (fun X hX C => ?_)
  rw [P_X0_allOwed] at h
  refine lc_iconst C (pc' := 1) (v := (0 : Int32)) dX0_allOwed_0 (by decide) rfl ?_
  refine lc_istore_n C (pc' := 2) (lo' := [(1, .int (0 : Int32)), (0, .ref (lc_ad S (10 * k0)))]) dX0_allOwed_1 (Nat.le_of_ble_eq_true rfl) rfl rfl ?_
  refine lc_iconst C (pc' := 3) (v := (0 : Int32)) dX0_allOwed_2 (by decide) rfl ?_
  refine lc_istore_n C (pc' := 4) (lo' := [(2, .int (0 : Int32)), (1, .int (0 : Int32)), (0, .ref (lc_ad S (10 * k0)))]) dX0_allOwed_3 (Nat.le_of_ble_eq_true rfl) rfl rfl ?_
  refine lc_sub (lo' := [(0, .ref (lc_ad S (10 * k0))), (1, .int (0 : Int32)), (2, .int (0 : Int32))]) [2, 1, 0] rfl ?_
  exact w_X0_allOwed_4 C  hk out  lc_FU (0 : Int32) (0 : Int32) s h
abbrev rm_X0_bankruptCells : Room := { frames := 1, cells := 0, slots := 0, locals := 21 }
def P_X0_bankruptCells_26 (K4 : Int32 → Int32 → lc_St → Option (Int32)) (x1 : Int32) (x2 : Int32) (s : lc_St) : Option (Int32) :=
  lc_let (x2 + (1 : Int32)) (fun x2_26 => K4 x1 x2_26 s)
set_option maxRecDepth 100000 in
set_option maxHeartbeats 4000000 in
theorem w_X0_bankruptCells_26 {S : lc_Se} {X : lc_X} (C : lc_C X cX0_bankruptCells RX0 3 (some .int) rm_X0_bankruptCells) {M : lc_MM} {k0 : Nat} (hk : k0 < 19) (out : Int32) (K4 : Int32 → Int32 → lc_St → Option (Int32)) (hK4 : ∀ (x1 : Int32) (x2 : Int32) (s : lc_St), K4 x1 x2 s = some out → lc_J S X 3 0 0 (lc_QI S X 0 0 out (va_up M k0 s)) 4 [(0, .ref (lc_ad S (10 * k0))), (1, .int x1), (2, .int x2)] [] (va_up M k0 s)) : ∀ (x1 : Int32) (x2 : Int32) (s : lc_St), P_X0_bankruptCells_26 K4 x1 x2 s = some out → lc_J S X 3 0 0 (lc_QI S X 0 0 out (va_up M k0 s)) 26 [(0, .ref (lc_ad S (10 * k0))), (1, .int x1), (2, .int x2)] [] (va_up M k0 s) := by
  intro x1 x2 s h
  rw [P_X0_bankruptCells_26] at h
  obtain ⟨x2_26, e2_26, h⟩ := lc_let2 h
  refine lc_iinc C (pc' := 29) (lo' := [(2, .int x2_26), (0, .ref (lc_ad S (10 * k0))), (1, .int x1)]) (q := 2) dX0_bankruptCells_26 rfl (by rw [← e2_26]; rfl) (Nat.le_of_ble_eq_true rfl) rfl rfl ?_
  refine lc_goto C (tgt := 4) dX0_bankruptCells_29 (by decide) ?_
  refine lc_sub (lo' := [(0, .ref (lc_ad S (10 * k0))), (1, .int x1), (2, .int x2_26)]) [1, 2, 0] rfl ?_
  exact hK4 x1 x2_26 s h
def P_X0_bankruptCells_4  : Nat → Int32 → Int32 → lc_St → Option (Int32)
  | 0, _, _, _ => none
  | n + 1, x1, x2, s =>
    if (s 0 0) ≤ x2 then some x1 else lc_bd (P_X0_isBankrupt x2 s) (fun r14 => if r14 = 0 then P_X0_bankruptCells_26 (fun x1 x2 s => P_X0_bankruptCells_4  n x1 x2 s)  x1 x2 s else lc_let (x1 ||| ((1 : Int32) <<< (x2 &&& 31))) (fun x1_25 => P_X0_bankruptCells_26 (fun x1 x2 s => P_X0_bankruptCells_4  n x1 x2 s)  x1_25 x2 s))
set_option maxRecDepth 100000 in
set_option maxHeartbeats 4000000 in
theorem w_X0_bankruptCells_4 {S : lc_Se} {X : lc_X} (C : lc_C X cX0_bankruptCells RX0 3 (some .int) rm_X0_bankruptCells) {M : lc_MM} {k0 : Nat} (hk : k0 < 19) (out : Int32)  : ∀ (n : Nat) (x1 : Int32) (x2 : Int32) (s : lc_St), P_X0_bankruptCells_4  n x1 x2 s = some out → lc_J S X 3 0 0 (lc_QI S X 0 0 out (va_up M k0 s)) 4 [(0, .ref (lc_ad S (10 * k0))), (1, .int x1), (2, .int x2)] [] (va_up M k0 s) := by
  intro n
  induction n with
  | zero =>
    intro x1 x2 s h
    rw [P_X0_bankruptCells_4] at h
    cases h
  | succ n ih =>
    intro x1 x2 s h
    rw [P_X0_bankruptCells_4] at h
    refine lc_iload_n C (pc' := 5) 2 dX0_bankruptCells_4 rfl rfl ?_
    refine lc_aload_n C (pc' := 6) 0 dX0_bankruptCells_5 rfl rfl ?_
    refine lc_bg0 C (pc' := 9) (k0 := k0) hk (va_up_self _ _ _) dX0_bankruptCells_6 kf_RX0_43 rfl ?_
    refine lc_icmp_ge C (pc' := 12) (tgt := 32) dX0_bankruptCells_9 (by decide) rfl (fun c9 => ?_) (fun c9 => ?_)
    · have h := (lc_if2 h).1 c9
      refine lc_iload_n C (pc' := 33) 1 dX0_bankruptCells_32 rfl rfl ?_
      obtain rfl := Option.some.inj h
      exact lc_iret C rfl dX0_bankruptCells_33
    · have h := (lc_if2 h).2 c9
      refine lc_aload_n C (pc' := 13) 0 dX0_bankruptCells_12 rfl rfl ?_
      refine lc_iload_n C (pc' := 14) 2 dX0_bankruptCells_13 rfl rfl ?_
      obtain ⟨r14, h14, h⟩ := lc_bde h
      refine lc_cvi C (pc' := 17) (r := r14) (M' := (va_up M k0 s)) (As := [.int x2]) (rest := []) (c_X0_isBankrupt S X.2.1 M (k0 := k0) hk x2 s r14 h14) kl_RX0_77 (lc_at_b S _ hk) rfl rfl rfl rfl (Nat.le_of_ble_eq_true rfl) ⟨Nat.le_of_ble_eq_true rfl, Nat.le_of_ble_eq_true rfl⟩ ⟨rfl, rfl⟩ (lc_z2 _ _) dX0_bankruptCells_14 rfl ?_
      refine lc_if_eq C (pc' := 20) (tgt := 26) dX0_bankruptCells_17 (by decide) rfl (fun c17 => ?_) (fun c17 => ?_)
      · have h := (lc_if2 h).1 c17
        exact w_X0_bankruptCells_26 C  hk out (fun x1 x2 s => P_X0_bankruptCells_4  n x1 x2 s) ih  x1 x2 s h
      · have h := (lc_if2 h).2 c17
        refine lc_iload_n C (pc' := 21) 1 dX0_bankruptCells_20 rfl rfl ?_
        refine lc_iconst C (pc' := 22) (v := (1 : Int32)) dX0_bankruptCells_21 (by decide) rfl ?_
        refine lc_iload_n C (pc' := 23) 2 dX0_bankruptCells_22 rfl rfl ?_
        refine lc_ishl C (pc' := 24) dX0_bankruptCells_23 rfl ?_
        refine lc_ior C (pc' := 25) dX0_bankruptCells_24 rfl ?_
        obtain ⟨x1_25, e1_25, h⟩ := lc_let2 h
        rw [e1_25]
        refine lc_istore_n C (pc' := 26) (lo' := [(1, .int x1_25), (0, .ref (lc_ad S (10 * k0))), (2, .int x2)]) dX0_bankruptCells_25 (Nat.le_of_ble_eq_true rfl) rfl rfl ?_
        refine lc_sub (lo' := [(0, .ref (lc_ad S (10 * k0))), (1, .int x1_25), (2, .int x2)]) [1, 0, 2] rfl ?_
        exact w_X0_bankruptCells_26 C  hk out (fun x1 x2 s => P_X0_bankruptCells_4  n x1 x2 s) ih  x1_25 x2 s h
def P_X0_bankruptCells   (s : lc_St) : Option (Int32) :=
  P_X0_bankruptCells_4  lc_FU (0 : Int32) (0 : Int32) s
set_option maxRecDepth 100000 in
set_option maxHeartbeats 4000000 in
theorem c_X0_bankruptCells (S : lc_Se) (l : Launch) (M : lc_MM) {k0 : Nat} (hk : k0 < 19)  (s : lc_St) (out : Int32) (h : P_X0_bankruptCells  s = some out) : lc_MI S l yX0_bankruptCells cX0_bankruptCells 3 (some .int) rm_X0_bankruptCells [.ref (lc_ad S (10 * k0))] (va_up M k0 s) out (va_up M k0 s) := by
  refine lc_mkI (own := RX0) pn_RX0 rfl (Nat.le_of_ble_eq_true rfl) (lo := [(0, .ref (lc_ad S (10 * k0)))]) rfl (fun X hX C => ?_)
  rw [P_X0_bankruptCells] at h
  refine lc_iconst C (pc' := 1) (v := (0 : Int32)) dX0_bankruptCells_0 (by decide) rfl ?_
  refine lc_istore_n C (pc' := 2) (lo' := [(1, .int (0 : Int32)), (0, .ref (lc_ad S (10 * k0)))]) dX0_bankruptCells_1 (Nat.le_of_ble_eq_true rfl) rfl rfl ?_
  refine lc_iconst C (pc' := 3) (v := (0 : Int32)) dX0_bankruptCells_2 (by decide) rfl ?_
  refine lc_istore_n C (pc' := 4) (lo' := [(2, .int (0 : Int32)), (1, .int (0 : Int32)), (0, .ref (lc_ad S (10 * k0)))]) dX0_bankruptCells_3 (Nat.le_of_ble_eq_true rfl) rfl rfl ?_
  refine lc_sub (lo' := [(0, .ref (lc_ad S (10 * k0))), (1, .int (0 : Int32)), (2, .int (0 : Int32))]) [2, 1, 0] rfl ?_
  exact w_X0_bankruptCells_4 C  hk out  lc_FU (0 : Int32) (0 : Int32) s h
abbrev rm_X0_owedBy : Room := { frames := 0, cells := 0, slots := 0, locals := 0 }
def P_X0_owedBy_31 (K4 : Int32 → Int32 → Int32 → lc_St → Option (Int32)) (x1 : Int32) (x2 : Int32) (x3 : Int32) (s : lc_St) : Option (Int32) :=
  lc_let (x3 + (1 : Int32)) (fun x3_31 => K4 x1 x2 x3_31 s)
set_option maxRecDepth 100000 in
set_option maxHeartbeats 4000000 in
theorem w_X0_owedBy_31 {S : lc_Se} {X : lc_X} (C : lc_C X cX0_owedBy RX0 4 (some .int) rm_X0_owedBy) {M : lc_MM} {k0 : Nat} (hk : k0 < 19) (out : Int32) (K4 : Int32 → Int32 → Int32 → lc_St → Option (Int32)) (hK4 : ∀ (x1 : Int32) (x2 : Int32) (x3 : Int32) (s : lc_St), K4 x1 x2 x3 s = some out → lc_J S X 4 0 0 (lc_QI S X 0 0 out (va_up M k0 s)) 4 [(0, .ref (lc_ad S (10 * k0))), (1, .int x1), (2, .int x2), (3, .int x3)] [] (va_up M k0 s)) : ∀ (x1 : Int32) (x2 : Int32) (x3 : Int32) (s : lc_St), P_X0_owedBy_31 K4 x1 x2 x3 s = some out → lc_J S X 4 0 0 (lc_QI S X 0 0 out (va_up M k0 s)) 31 [(0, .ref (lc_ad S (10 * k0))), (1, .int x1), (2, .int x2), (3, .int x3)] [] (va_up M k0 s) := by
  intro x1 x2 x3 s h
  rw [P_X0_owedBy_31] at h
  obtain ⟨x3_31, e3_31, h⟩ := lc_let2 h
  refine lc_iinc C (pc' := 34) (lo' := [(3, .int x3_31), (0, .ref (lc_ad S (10 * k0))), (1, .int x1), (2, .int x2)]) (q := 3) dX0_owedBy_31 rfl (by rw [← e3_31]; rfl) (Nat.le_of_ble_eq_true rfl) rfl rfl ?_
  refine lc_goto C (tgt := 4) dX0_owedBy_34 (by decide) ?_
  refine lc_sub (lo' := [(0, .ref (lc_ad S (10 * k0))), (1, .int x1), (2, .int x2), (3, .int x3_31)]) [1, 2, 3, 0] rfl ?_
  exact hK4 x1 x2 x3_31 s h
def P_X0_owedBy_4  : Nat → Int32 → Int32 → Int32 → lc_St → Option (Int32)
  | 0, _, _, _, _ => none
  | n + 1, x1, x2, x3, s =>
    if (s 0 1) ≤ x3 then some x2 else lc_if (lc_ok x3 12) (if (s 6 x3.toNatClampNeg) = x1 then lc_if (lc_ok x3 12) (lc_let (x2 + (s 7 x3.toNatClampNeg)) (fun x2_30 => P_X0_owedBy_31 (fun x1 x2 x3 s => P_X0_owedBy_4  n x1 x2 x3 s)  x1 x2_30 x3 s)) else P_X0_owedBy_31 (fun x1 x2 x3 s => P_X0_owedBy_4  n x1 x2 x3 s)  x1 x2 x3 s)
set_option maxRecDepth 100000 in
set_option maxHeartbeats 4000000 in
theorem w_X0_owedBy_4 {S : lc_Se} {X : lc_X} (C : lc_C X cX0_owedBy RX0 4 (some .int) rm_X0_owedBy) {M : lc_MM} {k0 : Nat} (hk : k0 < 19) (out : Int32)  : ∀ (n : Nat) (x1 : Int32) (x2 : Int32) (x3 : Int32) (s : lc_St), P_X0_owedBy_4  n x1 x2 x3 s = some out → lc_J S X 4 0 0 (lc_QI S X 0 0 out (va_up M k0 s)) 4 [(0, .ref (lc_ad S (10 * k0))), (1, .int x1), (2, .int x2), (3, .int x3)] [] (va_up M k0 s) := by
  intro n
  induction n with
  | zero =>
    intro x1 x2 x3 s h
    rw [P_X0_owedBy_4] at h
    cases h
  | succ n ih =>
    intro x1 x2 x3 s h
    rw [P_X0_owedBy_4] at h
    refine lc_iload_n C (pc' := 5) 3 dX0_owedBy_4 rfl rfl ?_
    refine lc_aload_n C (pc' := 6) 0 dX0_owedBy_5 rfl rfl ?_
    refine lc_bg1 C (pc' := 9) (k0 := k0) hk (va_up_self _ _ _) dX0_owedBy_6 kf_RX0_46 rfl ?_
    refine lc_icmp_ge C (pc' := 12) (tgt := 37) dX0_owedBy_9 (by decide) rfl (fun c9 => ?_) (fun c9 => ?_)
    · have h := (lc_if2 h).1 c9
      refine lc_iload_n C (pc' := 38) 2 dX0_owedBy_37 rfl rfl ?_
      obtain rfl := Option.some.inj h
      exact lc_iret C rfl dX0_owedBy_38
    · have h := (lc_if2 h).2 c9
      refine lc_aload_n C (pc' := 13) 0 dX0_owedBy_12 rfl rfl ?_
      refine lc_br5 C (pc' := 16) (k0 := k0) hk dX0_owedBy_13 kf_RX0_27 rfl ?_
      refine lc_iload_n C (pc' := 17) 3 dX0_owedBy_16 rfl rfl ?_
      obtain ⟨hi17, h⟩ := lc_ife h
      refine lc_bald C (pc' := 18) (k0 := k0) (r := 6) (len := 12) (jj := x3.toNatClampNeg) hk (by decide) (by decide) (va_up_self _ _ _) rfl hi17 rfl dX0_owedBy_17 rfl ?_
      refine lc_iload_n C (pc' := 19) 1 dX0_owedBy_18 rfl rfl ?_
      refine lc_icmp_ne C (pc' := 22) (tgt := 31) dX0_owedBy_19 (by decide) rfl (fun c19 => ?_) (fun c19 => ?_)
      · have h := (lc_if2 h).2 c19
        exact w_X0_owedBy_31 C  hk out (fun x1 x2 x3 s => P_X0_owedBy_4  n x1 x2 x3 s) ih  x1 x2 x3 s h
      · have h := (lc_if2 h).1 c19
        refine lc_iload_n C (pc' := 23) 2 dX0_owedBy_22 rfl rfl ?_
        refine lc_aload_n C (pc' := 24) 0 dX0_owedBy_23 rfl rfl ?_
        refine lc_br6 C (pc' := 27) (k0 := k0) hk dX0_owedBy_24 kf_RX0_30 rfl ?_
        refine lc_iload_n C (pc' := 28) 3 dX0_owedBy_27 rfl rfl ?_
        obtain ⟨hi28, h⟩ := lc_ife h
        refine lc_bald C (pc' := 29) (k0 := k0) (r := 7) (len := 12) (jj := x3.toNatClampNeg) hk (by decide) (by decide) (va_up_self _ _ _) rfl hi28 rfl dX0_owedBy_28 rfl ?_
        refine lc_iadd C (pc' := 30) dX0_owedBy_29 rfl ?_
        obtain ⟨x2_30, e2_30, h⟩ := lc_let2 h
        rw [e2_30]
        refine lc_istore_n C (pc' := 31) (lo' := [(2, .int x2_30), (0, .ref (lc_ad S (10 * k0))), (1, .int x1), (3, .int x3)]) dX0_owedBy_30 (Nat.le_of_ble_eq_true rfl) rfl rfl ?_
        refine lc_sub (lo' := [(0, .ref (lc_ad S (10 * k0))), (1, .int x1), (2, .int x2_30), (3, .int x3)]) [1, 2, 0, 3] rfl ?_
        exact w_X0_owedBy_31 C  hk out (fun x1 x2 x3 s => P_X0_owedBy_4  n x1 x2 x3 s) ih  x1 x2_30 x3 s h
def P_X0_owedBy  (x1 : Int32) (s : lc_St) : Option (Int32) :=
  P_X0_owedBy_4  lc_FU x1 (0 : Int32) (0 : Int32) s
set_option maxRecDepth 100000 in
set_option maxHeartbeats 4000000 in
theorem c_X0_owedBy (S : lc_Se) (l : Launch) (M : lc_MM) {k0 : Nat} (hk : k0 < 19) (x1 : Int32) (s : lc_St) (out : Int32) (h : P_X0_owedBy x1 s = some out) : lc_MI S l yX0_owedBy cX0_owedBy 4 (some .int) rm_X0_owedBy [.ref (lc_ad S (10 * k0)), .int x1] (va_up M k0 s) out (va_up M k0 s) := by
  refine lc_mkI (own := RX0) pn_RX0 rfl (Nat.le_of_ble_eq_true rfl) (lo := [(0, .ref (lc_ad S (10 * k0))), (1, .int x1)]) rfl (fun X hX C => ?_)
  rw [P_X0_owedBy] at h
  refine lc_iconst C (pc' := 1) (v := (0 : Int32)) dX0_owedBy_0 (by decide) rfl ?_
  refine lc_istore_n C (pc' := 2) (lo' := [(2, .int (0 : Int32)), (0, .ref (lc_ad S (10 * k0))), (1, .int x1)]) dX0_owedBy_1 (Nat.le_of_ble_eq_true rfl) rfl rfl ?_
  refine lc_iconst C (pc' := 3) (v := (0 : Int32)) dX0_owedBy_2 (by decide) rfl ?_
  refine lc_istore_n C (pc' := 4) (lo' := [(3, .int (0 : Int32)), (2, .int (0 : Int32)), (0, .ref (lc_ad S (10 * k0))), (1, .int x1)]) dX0_owedBy_3 (Nat.le_of_ble_eq_true rfl) rfl rfl ?_
  refine lc_sub (lo' := [(0, .ref (lc_ad S (10 * k0))), (1, .int x1), (2, .int (0 : Int32)), (3, .int (0 : Int32))]) [2, 3, 1, 0] rfl ?_
  exact w_X0_owedBy_4 C  hk out  lc_FU x1 (0 : Int32) (0 : Int32) s h
abbrev rm_X0_owedTo : Room := { frames := 0, cells := 0, slots := 0, locals := 0 }
def P_X0_owedTo_31 (K4 : Int32 → Int32 → Int32 → lc_St → Option (Int32)) (x1 : Int32) (x2 : Int32) (x3 : Int32) (s : lc_St) : Option (Int32) :=
  lc_let (x3 + (1 : Int32)) (fun x3_31 => K4 x1 x2 x3_31 s)
set_option maxRecDepth 100000 in
set_option maxHeartbeats 4000000 in
theorem w_X0_owedTo_31 {S : lc_Se} {X : lc_X} (C : lc_C X cX0_owedTo RX0 4 (some .int) rm_X0_owedTo) {M : lc_MM} {k0 : Nat} (hk : k0 < 19) (out : Int32) (K4 : Int32 → Int32 → Int32 → lc_St → Option (Int32)) (hK4 : ∀ (x1 : Int32) (x2 : Int32) (x3 : Int32) (s : lc_St), K4 x1 x2 x3 s = some out → lc_J S X 4 0 0 (lc_QI S X 0 0 out (va_up M k0 s)) 4 [(0, .ref (lc_ad S (10 * k0))), (1, .int x1), (2, .int x2), (3, .int x3)] [] (va_up M k0 s)) : ∀ (x1 : Int32) (x2 : Int32) (x3 : Int32) (s : lc_St), P_X0_owedTo_31 K4 x1 x2 x3 s = some out → lc_J S X 4 0 0 (lc_QI S X 0 0 out (va_up M k0 s)) 31 [(0, .ref (lc_ad S (10 * k0))), (1, .int x1), (2, .int x2), (3, .int x3)] [] (va_up M k0 s) := by
  intro x1 x2 x3 s h
  rw [P_X0_owedTo_31] at h
  obtain ⟨x3_31, e3_31, h⟩ := lc_let2 h
  refine lc_iinc C (pc' := 34) (lo' := [(3, .int x3_31), (0, .ref (lc_ad S (10 * k0))), (1, .int x1), (2, .int x2)]) (q := 3) dX0_owedTo_31 rfl (by rw [← e3_31]; rfl) (Nat.le_of_ble_eq_true rfl) rfl rfl ?_
  refine lc_goto C (tgt := 4) dX0_owedTo_34 (by decide) ?_
  refine lc_sub (lo' := [(0, .ref (lc_ad S (10 * k0))), (1, .int x1), (2, .int x2), (3, .int x3_31)]) [1, 2, 3, 0] rfl ?_
  exact hK4 x1 x2 x3_31 s h
def P_X0_owedTo_4  : Nat → Int32 → Int32 → Int32 → lc_St → Option (Int32)
  | 0, _, _, _, _ => none
  | n + 1, x1, x2, x3, s =>
    if (s 0 1) ≤ x3 then some x2 else lc_if (lc_ok x3 12) (if (s 5 x3.toNatClampNeg) = x1 then lc_if (lc_ok x3 12) (lc_let (x2 + (s 7 x3.toNatClampNeg)) (fun x2_30 => P_X0_owedTo_31 (fun x1 x2 x3 s => P_X0_owedTo_4  n x1 x2 x3 s)  x1 x2_30 x3 s)) else P_X0_owedTo_31 (fun x1 x2 x3 s => P_X0_owedTo_4  n x1 x2 x3 s)  x1 x2 x3 s)
set_option maxRecDepth 100000 in
set_option maxHeartbeats 4000000 in
theorem w_X0_owedTo_4 {S : lc_Se} {X : lc_X} (C : lc_C X cX0_owedTo RX0 4 (some .int) rm_X0_owedTo) {M : lc_MM} {k0 : Nat} (hk : k0 < 19) (out : Int32)  : ∀ (n : Nat) (x1 : Int32) (x2 : Int32) (x3 : Int32) (s : lc_St), P_X0_owedTo_4  n x1 x2 x3 s = some out → lc_J S X 4 0 0 (lc_QI S X 0 0 out (va_up M k0 s)) 4 [(0, .ref (lc_ad S (10 * k0))), (1, .int x1), (2, .int x2), (3, .int x3)] [] (va_up M k0 s) := by
  intro n
  induction n with
  | zero =>
    intro x1 x2 x3 s h
    rw [P_X0_owedTo_4] at h
    cases h
  | succ n ih =>
    intro x1 x2 x3 s h
    rw [P_X0_owedTo_4] at h
    refine lc_iload_n C (pc' := 5) 3 dX0_owedTo_4 rfl rfl ?_
    refine lc_aload_n C (pc' := 6) 0 dX0_owedTo_5 rfl rfl ?_
    refine lc_bg1 C (pc' := 9) (k0 := k0) hk (va_up_self _ _ _) dX0_owedTo_6 kf_RX0_46 rfl ?_
    refine lc_icmp_ge C (pc' := 12) (tgt := 37) dX0_owedTo_9 (by decide) rfl (fun c9 => ?_) (fun c9 => ?_)
    · have h := (lc_if2 h).1 c9
      refine lc_iload_n C (pc' := 38) 2 dX0_owedTo_37 rfl rfl ?_
      obtain rfl := Option.some.inj h
      exact lc_iret C rfl dX0_owedTo_38
    · have h := (lc_if2 h).2 c9
      refine lc_aload_n C (pc' := 13) 0 dX0_owedTo_12 rfl rfl ?_
      refine lc_br4 C (pc' := 16) (k0 := k0) hk dX0_owedTo_13 kf_RX0_24 rfl ?_
      refine lc_iload_n C (pc' := 17) 3 dX0_owedTo_16 rfl rfl ?_
      obtain ⟨hi17, h⟩ := lc_ife h
      refine lc_bald C (pc' := 18) (k0 := k0) (r := 5) (len := 12) (jj := x3.toNatClampNeg) hk (by decide) (by decide) (va_up_self _ _ _) rfl hi17 rfl dX0_owedTo_17 rfl ?_
      refine lc_iload_n C (pc' := 19) 1 dX0_owedTo_18 rfl rfl ?_
      refine lc_icmp_ne C (pc' := 22) (tgt := 31) dX0_owedTo_19 (by decide) rfl (fun c19 => ?_) (fun c19 => ?_)
      · have h := (lc_if2 h).2 c19
        exact w_X0_owedTo_31 C  hk out (fun x1 x2 x3 s => P_X0_owedTo_4  n x1 x2 x3 s) ih  x1 x2 x3 s h
      · have h := (lc_if2 h).1 c19
        refine lc_iload_n C (pc' := 23) 2 dX0_owedTo_22 rfl rfl ?_
        refine lc_aload_n C (pc' := 24) 0 dX0_owedTo_23 rfl rfl ?_
        refine lc_br6 C (pc' := 27) (k0 := k0) hk dX0_owedTo_24 kf_RX0_30 rfl ?_
        refine lc_iload_n C (pc' := 28) 3 dX0_owedTo_27 rfl rfl ?_
        obtain ⟨hi28, h⟩ := lc_ife h
        refine lc_bald C (pc' := 29) (k0 := k0) (r := 7) (len := 12) (jj := x3.toNatClampNeg) hk (by decide) (by decide) (va_up_self _ _ _) rfl hi28 rfl dX0_owedTo_28 rfl ?_
        refine lc_iadd C (pc' := 30) dX0_owedTo_29 rfl ?_
        obtain ⟨x2_30, e2_30, h⟩ := lc_let2 h
        rw [e2_30]
        refine lc_istore_n C (pc' := 31) (lo' := [(2, .int x2_30), (0, .ref (lc_ad S (10 * k0))), (1, .int x1), (3, .int x3)]) dX0_owedTo_30 (Nat.le_of_ble_eq_true rfl) rfl rfl ?_
        refine lc_sub (lo' := [(0, .ref (lc_ad S (10 * k0))), (1, .int x1), (2, .int x2_30), (3, .int x3)]) [1, 2, 0, 3] rfl ?_
        exact w_X0_owedTo_31 C  hk out (fun x1 x2 x3 s => P_X0_owedTo_4  n x1 x2 x3 s) ih  x1 x2_30 x3 s h
def P_X0_owedTo  (x1 : Int32) (s : lc_St) : Option (Int32) :=
  P_X0_owedTo_4  lc_FU x1 (0 : Int32) (0 : Int32) s
set_option maxRecDepth 100000 in
set_option maxHeartbeats 4000000 in
theorem c_X0_owedTo (S : lc_Se) (l : Launch) (M : lc_MM) {k0 : Nat} (hk : k0 < 19) (x1 : Int32) (s : lc_St) (out : Int32) (h : P_X0_owedTo x1 s = some out) : lc_MI S l yX0_owedTo cX0_owedTo 4 (some .int) rm_X0_owedTo [.ref (lc_ad S (10 * k0)), .int x1] (va_up M k0 s) out (va_up M k0 s) := by
  refine lc_mkI (own := RX0) pn_RX0 rfl (Nat.le_of_ble_eq_true rfl) (lo := [(0, .ref (lc_ad S (10 * k0))), (1, .int x1)]) rfl (fun X hX C => ?_)
  rw [P_X0_owedTo] at h
  refine lc_iconst C (pc' := 1) (v := (0 : Int32)) dX0_owedTo_0 (by decide) rfl ?_
  refine lc_istore_n C (pc' := 2) (lo' := [(2, .int (0 : Int32)), (0, .ref (lc_ad S (10 * k0))), (1, .int x1)]) dX0_owedTo_1 (Nat.le_of_ble_eq_true rfl) rfl rfl ?_
  refine lc_iconst C (pc' := 3) (v := (0 : Int32)) dX0_owedTo_2 (by decide) rfl ?_
  refine lc_istore_n C (pc' := 4) (lo' := [(3, .int (0 : Int32)), (2, .int (0 : Int32)), (0, .ref (lc_ad S (10 * k0))), (1, .int x1)]) dX0_owedTo_3 (Nat.le_of_ble_eq_true rfl) rfl rfl ?_
  refine lc_sub (lo' := [(0, .ref (lc_ad S (10 * k0))), (1, .int x1), (2, .int (0 : Int32)), (3, .int (0 : Int32))]) [2, 3, 1, 0] rfl ?_
  exact w_X0_owedTo_4 C  hk out  lc_FU x1 (0 : Int32) (0 : Int32) s h
abbrev rm_X0_interestOf : Room := { frames := 1, cells := 0, slots := 0, locals := 21 }
def P_X0_interestOf  (x1 : Int32) (s : lc_St) : Option (Int32) :=
  lc_bd (P_X0_hasLoan x1 s) (fun r2 => if r2 = 0 then some (0 : Int32) else lc_if (lc_ok x1 12) (lc_if (lc_ok x1 12) (some ((((s 7 x1.toNatClampNeg) * (s 8 x1.toNatClampNeg)) + (99 : Int32)) / (100 : Int32)))))
set_option maxRecDepth 100000 in
set_option maxHeartbeats 4000000 in
theorem c_X0_interestOf (S : lc_Se) (l : Launch) (M : lc_MM) {k0 : Nat} (hk : k0 < 19) (x1 : Int32) (s : lc_St) (out : Int32) (h : P_X0_interestOf x1 s = some out) : lc_MI S l yX0_interestOf cX0_interestOf 2 (some .int) rm_X0_interestOf [.ref (lc_ad S (10 * k0)), .int x1] (va_up M k0 s) out (va_up M k0 s) := by
  refine lc_mkI (own := RX0) pn_RX0 rfl (Nat.le_of_ble_eq_true rfl) (lo := [(0, .ref (lc_ad S (10 * k0))), (1, .int x1)]) rfl (fun X hX C => ?_)
  rw [P_X0_interestOf] at h
  refine lc_aload_n C (pc' := 1) 0 dX0_interestOf_0 rfl rfl ?_
  refine lc_iload_n C (pc' := 2) 1 dX0_interestOf_1 rfl rfl ?_
  obtain ⟨r2, h2, h⟩ := lc_bde h
  refine lc_cvi C (pc' := 5) (r := r2) (M' := (va_up M k0 s)) (As := [.int x1]) (rest := []) (c_X0_hasLoan S X.2.1 M (k0 := k0) hk x1 s r2 h2) kl_RX0_80 (lc_at_b S _ hk) rfl rfl rfl rfl (Nat.le_of_ble_eq_true rfl) ⟨Nat.le_of_ble_eq_true rfl, Nat.le_of_ble_eq_true rfl⟩ ⟨rfl, rfl⟩ (lc_z2 _ _) dX0_interestOf_2 rfl ?_
  refine lc_if_eq C (pc' := 8) (tgt := 30) dX0_interestOf_5 (by decide) rfl (fun c5 => ?_) (fun c5 => ?_)
  · have h := (lc_if2 h).1 c5
    refine lc_iconst C (pc' := 31) (v := (0 : Int32)) dX0_interestOf_30 (by decide) rfl ?_
    obtain rfl := Option.some.inj h
    exact lc_iret C rfl dX0_interestOf_31
  · have h := (lc_if2 h).2 c5
    refine lc_aload_n C (pc' := 9) 0 dX0_interestOf_8 rfl rfl ?_
    refine lc_br6 C (pc' := 12) (k0 := k0) hk dX0_interestOf_9 kf_RX0_30 rfl ?_
    refine lc_iload_n C (pc' := 13) 1 dX0_interestOf_12 rfl rfl ?_
    obtain ⟨hi13, h⟩ := lc_ife h
    refine lc_bald C (pc' := 14) (k0 := k0) (r := 7) (len := 12) (jj := x1.toNatClampNeg) hk (by decide) (by decide) (va_up_self _ _ _) rfl hi13 rfl dX0_interestOf_13 rfl ?_
    refine lc_aload_n C (pc' := 15) 0 dX0_interestOf_14 rfl rfl ?_
    refine lc_br7 C (pc' := 18) (k0 := k0) hk dX0_interestOf_15 kf_RX0_33 rfl ?_
    refine lc_iload_n C (pc' := 19) 1 dX0_interestOf_18 rfl rfl ?_
    obtain ⟨hi19, h⟩ := lc_ife h
    refine lc_bald C (pc' := 20) (k0 := k0) (r := 8) (len := 12) (jj := x1.toNatClampNeg) hk (by decide) (by decide) (va_up_self _ _ _) rfl hi19 rfl dX0_interestOf_19 rfl ?_
    refine lc_imul C (pc' := 21) dX0_interestOf_20 rfl ?_
    refine lc_bipush C (pc' := 23) (v := (99 : Int32)) dX0_interestOf_21 (by decide) rfl ?_
    refine lc_iadd C (pc' := 24) dX0_interestOf_23 rfl ?_
    refine lc_bipush C (pc' := 26) (v := (100 : Int32)) dX0_interestOf_24 (by decide) rfl ?_
    refine lc_idiv C (pc' := 27) dX0_interestOf_26 (by decide) rfl ?_
    refine lc_goto C (tgt := 31) dX0_interestOf_27 (by decide) ?_
    obtain rfl := Option.some.inj h
    exact lc_iret C rfl dX0_interestOf_31
abbrev rm_X0_interestBy : Room := { frames := 2, cells := 0, slots := 0, locals := 42 }
def P_X0_interestBy_30 (K4 : Int32 → Int32 → Int32 → lc_St → Option (Int32)) (x1 : Int32) (x2 : Int32) (x3 : Int32) (s : lc_St) : Option (Int32) :=
  lc_let (x3 + (1 : Int32)) (fun x3_30 => K4 x1 x2 x3_30 s)
set_option maxRecDepth 100000 in
set_option maxHeartbeats 4000000 in
theorem w_X0_interestBy_30 {S : lc_Se} {X : lc_X} (C : lc_C X cX0_interestBy RX0 4 (some .int) rm_X0_interestBy) {M : lc_MM} {k0 : Nat} (hk : k0 < 19) (out : Int32) (K4 : Int32 → Int32 → Int32 → lc_St → Option (Int32)) (hK4 : ∀ (x1 : Int32) (x2 : Int32) (x3 : Int32) (s : lc_St), K4 x1 x2 x3 s = some out → lc_J S X 4 0 0 (lc_QI S X 0 0 out (va_up M k0 s)) 4 [(0, .ref (lc_ad S (10 * k0))), (1, .int x1), (2, .int x2), (3, .int x3)] [] (va_up M k0 s)) : ∀ (x1 : Int32) (x2 : Int32) (x3 : Int32) (s : lc_St), P_X0_interestBy_30 K4 x1 x2 x3 s = some out → lc_J S X 4 0 0 (lc_QI S X 0 0 out (va_up M k0 s)) 30 [(0, .ref (lc_ad S (10 * k0))), (1, .int x1), (2, .int x2), (3, .int x3)] [] (va_up M k0 s) := by
  intro x1 x2 x3 s h
  rw [P_X0_interestBy_30] at h
  obtain ⟨x3_30, e3_30, h⟩ := lc_let2 h
  refine lc_iinc C (pc' := 33) (lo' := [(3, .int x3_30), (0, .ref (lc_ad S (10 * k0))), (1, .int x1), (2, .int x2)]) (q := 3) dX0_interestBy_30 rfl (by rw [← e3_30]; rfl) (Nat.le_of_ble_eq_true rfl) rfl rfl ?_
  refine lc_goto C (tgt := 4) dX0_interestBy_33 (by decide) ?_
  refine lc_sub (lo' := [(0, .ref (lc_ad S (10 * k0))), (1, .int x1), (2, .int x2), (3, .int x3_30)]) [1, 2, 3, 0] rfl ?_
  exact hK4 x1 x2 x3_30 s h
def P_X0_interestBy_4  : Nat → Int32 → Int32 → Int32 → lc_St → Option (Int32)
  | 0, _, _, _, _ => none
  | n + 1, x1, x2, x3, s =>
    if (s 0 1) ≤ x3 then some x2 else lc_if (lc_ok x3 12) (if (s 6 x3.toNatClampNeg) = x1 then lc_bd (P_X0_interestOf x3 s) (fun r25 => lc_let (x2 + r25) (fun x2_29 => P_X0_interestBy_30 (fun x1 x2 x3 s => P_X0_interestBy_4  n x1 x2 x3 s)  x1 x2_29 x3 s)) else P_X0_interestBy_30 (fun x1 x2 x3 s => P_X0_interestBy_4  n x1 x2 x3 s)  x1 x2 x3 s)
set_option maxRecDepth 100000 in
set_option maxHeartbeats 4000000 in
theorem w_X0_interestBy_4 {S : lc_Se} {X : lc_X} (C : lc_C X cX0_interestBy RX0 4 (some .int) rm_X0_interestBy) {M : lc_MM} {k0 : Nat} (hk : k0 < 19) (out : Int32)  : ∀ (n : Nat) (x1 : Int32) (x2 : Int32) (x3 : Int32) (s : lc_St), P_X0_interestBy_4  n x1 x2 x3 s = some out → lc_J S X 4 0 0 (lc_QI S X 0 0 out (va_up M k0 s)) 4 [(0, .ref (lc_ad S (10 * k0))), (1, .int x1), (2, .int x2), (3, .int x3)] [] (va_up M k0 s) := by
  intro n
  induction n with
  | zero =>
    intro x1 x2 x3 s h
    rw [P_X0_interestBy_4] at h
    cases h
  | succ n ih =>
    intro x1 x2 x3 s h
    rw [P_X0_interestBy_4] at h
    refine lc_iload_n C (pc' := 5) 3 dX0_interestBy_4 rfl rfl ?_
    refine lc_aload_n C (pc' := 6) 0 dX0_interestBy_5 rfl rfl ?_
    refine lc_bg1 C (pc' := 9) (k0 := k0) hk (va_up_self _ _ _) dX0_interestBy_6 kf_RX0_46 rfl ?_
    refine lc_icmp_ge C (pc' := 12) (tgt := 36) dX0_interestBy_9 (by decide) rfl (fun c9 => ?_) (fun c9 => ?_)
    · have h := (lc_if2 h).1 c9
      refine lc_iload_n C (pc' := 37) 2 dX0_interestBy_36 rfl rfl ?_
      obtain rfl := Option.some.inj h
      exact lc_iret C rfl dX0_interestBy_37
    · have h := (lc_if2 h).2 c9
      refine lc_aload_n C (pc' := 13) 0 dX0_interestBy_12 rfl rfl ?_
      refine lc_br5 C (pc' := 16) (k0 := k0) hk dX0_interestBy_13 kf_RX0_27 rfl ?_
      refine lc_iload_n C (pc' := 17) 3 dX0_interestBy_16 rfl rfl ?_
      obtain ⟨hi17, h⟩ := lc_ife h
      refine lc_bald C (pc' := 18) (k0 := k0) (r := 6) (len := 12) (jj := x3.toNatClampNeg) hk (by decide) (by decide) (va_up_self _ _ _) rfl hi17 rfl dX0_interestBy_17 rfl ?_
      refine lc_iload_n C (pc' := 19) 1 dX0_interestBy_18 rfl rfl ?_
      refine lc_icmp_ne C (pc' := 22) (tgt := 30) dX0_interestBy_19 (by decide) rfl (fun c19 => ?_) (fun c19 => ?_)
      · have h := (lc_if2 h).2 c19
        exact w_X0_interestBy_30 C  hk out (fun x1 x2 x3 s => P_X0_interestBy_4  n x1 x2 x3 s) ih  x1 x2 x3 s h
      · have h := (lc_if2 h).1 c19
        refine lc_iload_n C (pc' := 23) 2 dX0_interestBy_22 rfl rfl ?_
        refine lc_aload_n C (pc' := 24) 0 dX0_interestBy_23 rfl rfl ?_
        refine lc_iload_n C (pc' := 25) 3 dX0_interestBy_24 rfl rfl ?_
        obtain ⟨r25, h25, h⟩ := lc_bde h
        refine lc_cvi C (pc' := 28) (r := r25) (M' := (va_up M k0 s)) (As := [.int x3]) (rest := [.int x2]) (c_X0_interestOf S X.2.1 M (k0 := k0) hk x3 s r25 h25) kl_RX0_83 (lc_at_b S _ hk) rfl rfl rfl rfl (Nat.le_of_ble_eq_true rfl) ⟨Nat.le_of_ble_eq_true rfl, Nat.le_of_ble_eq_true rfl⟩ ⟨rfl, rfl⟩ (lc_z2 _ _) dX0_interestBy_25 rfl ?_
        refine lc_iadd C (pc' := 29) dX0_interestBy_28 rfl ?_
        obtain ⟨x2_29, e2_29, h⟩ := lc_let2 h
        rw [e2_29]
        refine lc_istore_n C (pc' := 30) (lo' := [(2, .int x2_29), (0, .ref (lc_ad S (10 * k0))), (1, .int x1), (3, .int x3)]) dX0_interestBy_29 (Nat.le_of_ble_eq_true rfl) rfl rfl ?_
        refine lc_sub (lo' := [(0, .ref (lc_ad S (10 * k0))), (1, .int x1), (2, .int x2_29), (3, .int x3)]) [1, 2, 0, 3] rfl ?_
        exact w_X0_interestBy_30 C  hk out (fun x1 x2 x3 s => P_X0_interestBy_4  n x1 x2 x3 s) ih  x1 x2_29 x3 s h
def P_X0_interestBy  (x1 : Int32) (s : lc_St) : Option (Int32) :=
  P_X0_interestBy_4  lc_FU x1 (0 : Int32) (0 : Int32) s
set_option maxRecDepth 100000 in
set_option maxHeartbeats 4000000 in
theorem c_X0_interestBy (S : lc_Se) (l : Launch) (M : lc_MM) {k0 : Nat} (hk : k0 < 19) (x1 : Int32) (s : lc_St) (out : Int32) (h : P_X0_interestBy x1 s = some out) : lc_MI S l yX0_interestBy cX0_interestBy 4 (some .int) rm_X0_interestBy [.ref (lc_ad S (10 * k0)), .int x1] (va_up M k0 s) out (va_up M k0 s) := by
  refine lc_mkI (own := RX0) pn_RX0 rfl (Nat.le_of_ble_eq_true rfl) (lo := [(0, .ref (lc_ad S (10 * k0))), (1, .int x1)]) rfl (fun X hX C => ?_)
  rw [P_X0_interestBy] at h
  refine lc_iconst C (pc' := 1) (v := (0 : Int32)) dX0_interestBy_0 (by decide) rfl ?_
  refine lc_istore_n C (pc' := 2) (lo' := [(2, .int (0 : Int32)), (0, .ref (lc_ad S (10 * k0))), (1, .int x1)]) dX0_interestBy_1 (Nat.le_of_ble_eq_true rfl) rfl rfl ?_
  refine lc_iconst C (pc' := 3) (v := (0 : Int32)) dX0_interestBy_2 (by decide) rfl ?_
  refine lc_istore_n C (pc' := 4) (lo' := [(3, .int (0 : Int32)), (2, .int (0 : Int32)), (0, .ref (lc_ad S (10 * k0))), (1, .int x1)]) dX0_interestBy_3 (Nat.le_of_ble_eq_true rfl) rfl rfl ?_
  refine lc_sub (lo' := [(0, .ref (lc_ad S (10 * k0))), (1, .int x1), (2, .int (0 : Int32)), (3, .int (0 : Int32))]) [2, 3, 1, 0] rfl ?_
  exact w_X0_interestBy_4 C  hk out  lc_FU x1 (0 : Int32) (0 : Int32) s h
abbrev rm_X0_kindOf : Room := { frames := 1, cells := 0, slots := 0, locals := 23 }
def P_X0_kindOf_29  (x1 : Int32) (s : lc_St) : Option (Int32) :=
  lc_bd (P_X0_owedBy x1 s) (fun r31 => if r31 ≤ 0 then some (0 : Int32) else some (1 : Int32))
set_option maxRecDepth 100000 in
set_option maxHeartbeats 4000000 in
theorem w_X0_kindOf_29 {S : lc_Se} {X : lc_X} (C : lc_C X cX0_kindOf RX0 2 (some .int) rm_X0_kindOf) {M : lc_MM} {k0 : Nat} (hk : k0 < 19) (out : Int32)  : ∀ (x1 : Int32) (s : lc_St), P_X0_kindOf_29  x1 s = some out → lc_J S X 2 0 0 (lc_QI S X 0 0 out (va_up M k0 s)) 29 [(0, .ref (lc_ad S (10 * k0))), (1, .int x1)] [] (va_up M k0 s) := by
  intro x1 s h
  rw [P_X0_kindOf_29] at h
  refine lc_aload_n C (pc' := 30) 0 dX0_kindOf_29 rfl rfl ?_
  refine lc_iload_n C (pc' := 31) 1 dX0_kindOf_30 rfl rfl ?_
  obtain ⟨r31, h31, h⟩ := lc_bde h
  refine lc_cvi C (pc' := 34) (r := r31) (M' := (va_up M k0 s)) (As := [.int x1]) (rest := []) (c_X0_owedBy S X.2.1 M (k0 := k0) hk x1 s r31 h31) kl_RX0_87 (lc_at_b S _ hk) rfl rfl rfl rfl (Nat.le_of_ble_eq_true rfl) ⟨Nat.le_of_ble_eq_true rfl, Nat.le_of_ble_eq_true rfl⟩ ⟨rfl, rfl⟩ (lc_z2 _ _) dX0_kindOf_31 rfl ?_
  refine lc_if_le C (pc' := 37) (tgt := 41) dX0_kindOf_34 (by decide) rfl (fun c34 => ?_) (fun c34 => ?_)
  · have h := (lc_if2 h).1 c34
    refine lc_iconst C (pc' := 42) (v := (0 : Int32)) dX0_kindOf_41 (by decide) rfl ?_
    obtain rfl := Option.some.inj h
    exact lc_iret C rfl dX0_kindOf_42
  · have h := (lc_if2 h).2 c34
    refine lc_iconst C (pc' := 38) (v := (1 : Int32)) dX0_kindOf_37 (by decide) rfl ?_
    refine lc_goto C (tgt := 42) dX0_kindOf_38 (by decide) ?_
    obtain rfl := Option.some.inj h
    exact lc_iret C rfl dX0_kindOf_42
def P_X0_kindOf  (x1 : Int32) (s : lc_St) : Option (Int32) :=
  lc_bd (P_X0_isBankrupt x1 s) (fun r2 => if r2 = 0 then lc_bd (P_X0_hasCell x1 s) (fun r12 => if r12 = 0 then P_X0_kindOf_29   x1 s else lc_if (lc_ok x1 8) (if (s 4 x1.toNatClampNeg) ≤ 0 then P_X0_kindOf_29   x1 s else some (2 : Int32))) else some (3 : Int32))
set_option maxRecDepth 100000 in
set_option maxHeartbeats 4000000 in
theorem c_X0_kindOf (S : lc_Se) (l : Launch) (M : lc_MM) {k0 : Nat} (hk : k0 < 19) (x1 : Int32) (s : lc_St) (out : Int32) (h : P_X0_kindOf x1 s = some out) : lc_MI S l yX0_kindOf cX0_kindOf 2 (some .int) rm_X0_kindOf [.ref (lc_ad S (10 * k0)), .int x1] (va_up M k0 s) out (va_up M k0 s) := by
  refine lc_mkI (own := RX0) pn_RX0 rfl (Nat.le_of_ble_eq_true rfl) (lo := [(0, .ref (lc_ad S (10 * k0))), (1, .int x1)]) rfl (fun X hX C => ?_)
  rw [P_X0_kindOf] at h
  refine lc_aload_n C (pc' := 1) 0 dX0_kindOf_0 rfl rfl ?_
  refine lc_iload_n C (pc' := 2) 1 dX0_kindOf_1 rfl rfl ?_
  obtain ⟨r2, h2, h⟩ := lc_bde h
  refine lc_cvi C (pc' := 5) (r := r2) (M' := (va_up M k0 s)) (As := [.int x1]) (rest := []) (c_X0_isBankrupt S X.2.1 M (k0 := k0) hk x1 s r2 h2) kl_RX0_77 (lc_at_b S _ hk) rfl rfl rfl rfl (Nat.le_of_ble_eq_true rfl) ⟨Nat.le_of_ble_eq_true rfl, Nat.le_of_ble_eq_true rfl⟩ ⟨rfl, rfl⟩ (lc_z2 _ _) dX0_kindOf_2 rfl ?_
  refine lc_if_eq C (pc' := 8) (tgt := 10) dX0_kindOf_5 (by decide) rfl (fun c5 => ?_) (fun c5 => ?_)
  · have h := (lc_if2 h).1 c5
    refine lc_aload_n C (pc' := 11) 0 dX0_kindOf_10 rfl rfl ?_
    refine lc_iload_n C (pc' := 12) 1 dX0_kindOf_11 rfl rfl ?_
    obtain ⟨r12, h12, h⟩ := lc_bde h
    refine lc_cvi C (pc' := 15) (r := r12) (M' := (va_up M k0 s)) (As := [.int x1]) (rest := []) (c_X0_hasCell S X.2.1 M (k0 := k0) hk x1 s r12 h12) kl_RX0_73 (lc_at_b S _ hk) rfl rfl rfl rfl (Nat.le_of_ble_eq_true rfl) ⟨Nat.le_of_ble_eq_true rfl, Nat.le_of_ble_eq_true rfl⟩ ⟨rfl, rfl⟩ (lc_z2 _ _) dX0_kindOf_12 rfl ?_
    refine lc_if_eq C (pc' := 18) (tgt := 29) dX0_kindOf_15 (by decide) rfl (fun c15 => ?_) (fun c15 => ?_)
    · have h := (lc_if2 h).1 c15
      exact w_X0_kindOf_29 C  hk out   x1 s h
    · have h := (lc_if2 h).2 c15
      refine lc_aload_n C (pc' := 19) 0 dX0_kindOf_18 rfl rfl ?_
      refine lc_br3 C (pc' := 22) (k0 := k0) hk dX0_kindOf_19 kf_RX0_21 rfl ?_
      refine lc_iload_n C (pc' := 23) 1 dX0_kindOf_22 rfl rfl ?_
      obtain ⟨hi23, h⟩ := lc_ife h
      refine lc_bald C (pc' := 24) (k0 := k0) (r := 4) (len := 8) (jj := x1.toNatClampNeg) hk (by decide) (by decide) (va_up_self _ _ _) rfl hi23 rfl dX0_kindOf_23 rfl ?_
      refine lc_if_le C (pc' := 27) (tgt := 29) dX0_kindOf_24 (by decide) rfl (fun c24 => ?_) (fun c24 => ?_)
      · have h := (lc_if2 h).1 c24
        exact w_X0_kindOf_29 C  hk out   x1 s h
      · have h := (lc_if2 h).2 c24
        refine lc_iconst C (pc' := 28) (v := (2 : Int32)) dX0_kindOf_27 (by decide) rfl ?_
        obtain rfl := Option.some.inj h
        exact lc_iret C rfl dX0_kindOf_28
  · have h := (lc_if2 h).2 c5
    refine lc_iconst C (pc' := 9) (v := (3 : Int32)) dX0_kindOf_8 (by decide) rfl ?_
    obtain rfl := Option.some.inj h
    exact lc_iret C rfl dX0_kindOf_9
abbrev rm_X0_putCell : Room := { frames := 0, cells := 0, slots := 0, locals := 0 }
def P_X0_putCell  (x1 : Int32) (x2 : Int32) (x3 : Int32) (s : lc_St) : Option (Int32 × lc_St) :=
  if (s 0 0) < (8 : Int32) then lc_let (s 0 0) (fun x4_16 => lc_if (lc_ok x4_16 8) (lc_let (lc_ss s 1 (x4_16.toNatClampNeg) x1) (fun s1 => lc_if (lc_ok x4_16 8) (lc_let (lc_ss s1 2 (x4_16.toNatClampNeg) x2) (fun s2 => lc_if (lc_ok x4_16 8) (lc_let (lc_ss s2 3 (x4_16.toNatClampNeg) x3) (fun s3 => lc_if (lc_ok x4_16 8) (lc_let (lc_ss s3 4 (x4_16.toNatClampNeg) (0 : Int32)) (fun s4 => lc_let (lc_ss s4 0 3 ((s4 0 3) + x2)) (fun s5 => lc_let (lc_ss s5 0 0 ((s5 0 0) + (1 : Int32))) (fun s6 => some (x4_16, s6)))))))))))) else some ((-9 : Int32), s)
set_option maxRecDepth 100000 in
set_option maxHeartbeats 4000000 in
theorem c_X0_putCell (S : lc_Se) (l : Launch) (M : lc_MM) {k0 : Nat} (hk : k0 < 19) (x1 : Int32) (x2 : Int32) (x3 : Int32) (s : lc_St) (out : Int32 × lc_St) (h : P_X0_putCell x1 x2 x3 s = some out) : lc_MI S l yX0_putCell cX0_putCell 5 (some .int) rm_X0_putCell [.ref (lc_ad S (10 * k0)), .int x1, .int x2, .int x3] (va_up M k0 s) out.1 (va_up M k0 out.2) := by
  refine lc_mkI (own := RX0) pn_RX0 rfl (Nat.le_of_ble_eq_true rfl) (lo := [(0, .ref (lc_ad S (10 * k0))), (1, .int x1), (2, .int x2), (3, .int x3)]) rfl (fun X hX C => ?_)
  rw [P_X0_putCell] at h
  refine lc_aload_n C (pc' := 1) 0 dX0_putCell_0 rfl rfl ?_
  refine lc_bg0 C (pc' := 4) (k0 := k0) hk (va_up_self _ _ _) dX0_putCell_1 kf_RX0_43 rfl ?_
  refine lc_bipush C (pc' := 6) (v := (8 : Int32)) dX0_putCell_4 (by decide) rfl ?_
  refine lc_icmp_lt C (pc' := 9) (tgt := 12) dX0_putCell_6 (by decide) rfl (fun c6 => ?_) (fun c6 => ?_)
  · have h := (lc_if2 h).1 c6
    refine lc_aload_n C (pc' := 13) 0 dX0_putCell_12 rfl rfl ?_
    refine lc_bg0 C (pc' := 16) (k0 := k0) hk (va_up_self _ _ _) dX0_putCell_13 kf_RX0_43 rfl ?_
    obtain ⟨x4_16, e4_16, h⟩ := lc_let2 h
    rw [e4_16]
    refine lc_istore C (pc' := 18) (lo' := [(4, .int x4_16), (0, .ref (lc_ad S (10 * k0))), (1, .int x1), (2, .int x2), (3, .int x3)]) dX0_putCell_16 (Nat.le_of_ble_eq_true rfl) rfl rfl ?_
    refine lc_aload_n C (pc' := 19) 1 dX0_putCell_18 rfl rfl ?_
    refine lc_br0 C (pc' := 22) (k0 := k0) hk dX0_putCell_19 kf_RX0_9 rfl ?_
    refine lc_iload C (pc' := 24) 0 dX0_putCell_22 rfl rfl ?_
    refine lc_iload_n C (pc' := 25) 2 dX0_putCell_24 rfl rfl ?_
    obtain ⟨hi25, h⟩ := lc_ife h
    obtain ⟨s1, es1, h⟩ := lc_let2 h
    refine lc_bast C (pc' := 26) (k0 := k0) (r := 1) (len := 8) (jj := x4_16.toNatClampNeg) (M' := (va_up M k0 s1)) hk (by decide) (by decide) (va_up_self _ _ _) rfl hi25 rfl es1 (lc_up_up _ _ _ _) dX0_putCell_25 rfl ?_
    refine lc_aload_n C (pc' := 27) 1 dX0_putCell_26 rfl rfl ?_
    refine lc_br1 C (pc' := 30) (k0 := k0) hk dX0_putCell_27 kf_RX0_15 rfl ?_
    refine lc_iload C (pc' := 32) 0 dX0_putCell_30 rfl rfl ?_
    refine lc_iload_n C (pc' := 33) 3 dX0_putCell_32 rfl rfl ?_
    obtain ⟨hi33, h⟩ := lc_ife h
    obtain ⟨s2, es2, h⟩ := lc_let2 h
    refine lc_bast C (pc' := 34) (k0 := k0) (r := 2) (len := 8) (jj := x4_16.toNatClampNeg) (M' := (va_up M k0 s2)) hk (by decide) (by decide) (va_up_self _ _ _) rfl hi33 rfl es2 (lc_up_up _ _ _ _) dX0_putCell_33 rfl ?_
    refine lc_aload_n C (pc' := 35) 1 dX0_putCell_34 rfl rfl ?_
    refine lc_br2 C (pc' := 38) (k0 := k0) hk dX0_putCell_35 kf_RX0_18 rfl ?_
    refine lc_iload C (pc' := 40) 0 dX0_putCell_38 rfl rfl ?_
    refine lc_iload_n C (pc' := 41) 4 dX0_putCell_40 rfl rfl ?_
    obtain ⟨hi41, h⟩ := lc_ife h
    obtain ⟨s3, es3, h⟩ := lc_let2 h
    refine lc_bast C (pc' := 42) (k0 := k0) (r := 3) (len := 8) (jj := x4_16.toNatClampNeg) (M' := (va_up M k0 s3)) hk (by decide) (by decide) (va_up_self _ _ _) rfl hi41 rfl es3 (lc_up_up _ _ _ _) dX0_putCell_41 rfl ?_
    refine lc_aload_n C (pc' := 43) 1 dX0_putCell_42 rfl rfl ?_
    refine lc_br3 C (pc' := 46) (k0 := k0) hk dX0_putCell_43 kf_RX0_21 rfl ?_
    refine lc_iload C (pc' := 48) 0 dX0_putCell_46 rfl rfl ?_
    refine lc_iconst C (pc' := 49) (v := (0 : Int32)) dX0_putCell_48 (by decide) rfl ?_
    obtain ⟨hi49, h⟩ := lc_ife h
    obtain ⟨s4, es4, h⟩ := lc_let2 h
    refine lc_bast C (pc' := 50) (k0 := k0) (r := 4) (len := 8) (jj := x4_16.toNatClampNeg) (M' := (va_up M k0 s4)) hk (by decide) (by decide) (va_up_self _ _ _) rfl hi49 rfl es4 (lc_up_up _ _ _ _) dX0_putCell_49 rfl ?_
    refine lc_aload_n C (pc' := 51) 1 dX0_putCell_50 rfl rfl ?_
    refine lc_dup C (pc' := 52) dX0_putCell_51 rfl rfl ?_
    refine lc_bg3 C (pc' := 55) (k0 := k0) hk (va_up_self _ _ _) dX0_putCell_52 kf_RX0_52 rfl ?_
    refine lc_iload_n C (pc' := 56) 3 dX0_putCell_55 rfl rfl ?_
    refine lc_iadd C (pc' := 57) dX0_putCell_56 rfl ?_
    obtain ⟨s5, es5, h⟩ := lc_let2 h
    refine lc_bp3 C (pc' := 60) (k0 := k0) (M' := (va_up M k0 s5)) hk (va_up_self _ _ _) es5 (lc_up_up _ _ _ _) dX0_putCell_57 kf_RX0_52 rfl ?_
    refine lc_aload_n C (pc' := 61) 1 dX0_putCell_60 rfl rfl ?_
    refine lc_dup C (pc' := 62) dX0_putCell_61 rfl rfl ?_
    refine lc_bg0 C (pc' := 65) (k0 := k0) hk (va_up_self _ _ _) dX0_putCell_62 kf_RX0_43 rfl ?_
    refine lc_iconst C (pc' := 66) (v := (1 : Int32)) dX0_putCell_65 (by decide) rfl ?_
    refine lc_iadd C (pc' := 67) dX0_putCell_66 rfl ?_
    obtain ⟨s6, es6, h⟩ := lc_let2 h
    refine lc_bp0 C (pc' := 70) (k0 := k0) (M' := (va_up M k0 s6)) hk (va_up_self _ _ _) es6 (lc_up_up _ _ _ _) dX0_putCell_67 kf_RX0_43 rfl ?_
    refine lc_iload C (pc' := 72) 0 dX0_putCell_70 rfl rfl ?_
    obtain rfl := Option.some.inj h
    exact lc_iret C rfl dX0_putCell_72
  · have h := (lc_if2 h).2 c6
    refine lc_bipush C (pc' := 11) (v := (-9 : Int32)) dX0_putCell_9 (by decide) rfl ?_
    obtain rfl := Option.some.inj h
    exact lc_iret C rfl dX0_putCell_11
abbrev rm_X0_arriving : Room := { frames := 0, cells := 0, slots := 0, locals := 0 }
def P_X0_arriving_14  (x1 : Int32) (t0 : Int32) (s : lc_St) : Option (Int32) :=
  some (x1 - ((x1 * t0) / (20 : Int32)))
set_option maxRecDepth 100000 in
set_option maxHeartbeats 4000000 in
theorem w_X0_arriving_14 {S : lc_Se} {X : lc_X} (C : lc_C X cX0_arriving RX0 5 (some .int) rm_X0_arriving) {M : lc_MM} {k0 : Nat} (hk : k0 < 19) (out : Int32)  : ∀ (x1 : Int32) (t0 : Int32) (s : lc_St), P_X0_arriving_14  x1 t0 s = some out → lc_J S X 5 0 0 (lc_QI S X 0 0 out (va_up M k0 s)) 14 [(1, .int x1)] [.int t0] (va_up M k0 s) := by
  intro x1 t0 s h
  rw [P_X0_arriving_14] at h
  refine lc_istore C (pc' := 16) (lo' := [(4, .int t0), (1, .int x1)]) dX0_arriving_14 (Nat.le_of_ble_eq_true rfl) rfl rfl ?_
  refine lc_iload_n C (pc' := 17) 1 dX0_arriving_16 rfl rfl ?_
  refine lc_iload_n C (pc' := 18) 1 dX0_arriving_17 rfl rfl ?_
  refine lc_iload C (pc' := 20) 0 dX0_arriving_18 rfl rfl ?_
  refine lc_imul C (pc' := 21) dX0_arriving_20 rfl ?_
  refine lc_bipush C (pc' := 23) (v := (20 : Int32)) dX0_arriving_21 (by decide) rfl ?_
  refine lc_idiv C (pc' := 24) dX0_arriving_23 (by decide) rfl ?_
  refine lc_isub C (pc' := 25) dX0_arriving_24 rfl ?_
  obtain rfl := Option.some.inj h
  exact lc_iret C rfl dX0_arriving_25
def P_X0_arriving  (x1 : Int32) (x2 : Int32) (x3 : Int32) (s : lc_St) : Option (Int32) :=
  if x3 ≤ x2 then P_X0_arriving_14   x1 (x2 - x3) s else P_X0_arriving_14   x1 (x3 - x2) s
set_option maxRecDepth 100000 in
set_option maxHeartbeats 4000000 in
theorem c_X0_arriving (S : lc_Se) (l : Launch) (M : lc_MM) {k0 : Nat} (hk : k0 < 19) (x1 : Int32) (x2 : Int32) (x3 : Int32) (s : lc_St) (out : Int32) (h : P_X0_arriving x1 x2 x3 s = some out) : lc_MI S l yX0_arriving cX0_arriving 5 (some .int) rm_X0_arriving [.ref (lc_ad S (10 * k0)), .int x1, .int x2, .int x3] (va_up M k0 s) out (va_up M k0 s) := by
  refine lc_mkI (own := RX0) pn_RX0 rfl (Nat.le_of_ble_eq_true rfl) (lo := [(0, .ref (lc_ad S (10 * k0))), (1, .int x1), (2, .int x2), (3, .int x3)]) rfl (fun X hX C => ?_)
  rw [P_X0_arriving] at h
  refine lc_iload_n C (pc' := 1) 2 dX0_arriving_0 rfl rfl ?_
  refine lc_iload_n C (pc' := 2) 3 dX0_arriving_1 rfl rfl ?_
  refine lc_icmp_ge C (pc' := 5) (tgt := 11) dX0_arriving_2 (by decide) rfl (fun c2 => ?_) (fun c2 => ?_)
  · have h := (lc_if2 h).1 c2
    refine lc_iload_n C (pc' := 12) 2 dX0_arriving_11 rfl rfl ?_
    refine lc_iload_n C (pc' := 13) 3 dX0_arriving_12 rfl rfl ?_
    refine lc_isub C (pc' := 14) dX0_arriving_13 rfl ?_
    refine lc_sub (lo' := [(1, .int x1)]) [1] rfl ?_
    exact w_X0_arriving_14 C  hk out   x1 (x2 - x3) s h
  · have h := (lc_if2 h).2 c2
    refine lc_iload_n C (pc' := 6) 3 dX0_arriving_5 rfl rfl ?_
    refine lc_iload_n C (pc' := 7) 2 dX0_arriving_6 rfl rfl ?_
    refine lc_isub C (pc' := 8) dX0_arriving_7 rfl ?_
    refine lc_goto C (tgt := 14) dX0_arriving_8 (by decide) ?_
    refine lc_sub (lo' := [(1, .int x1)]) [1] rfl ?_
    exact w_X0_arriving_14 C  hk out   x1 (x3 - x2) s h
abbrev rm_X0_sizeToBring : Room := { frames := 1, cells := 0, slots := 0, locals := 24 }
def P_X0_sizeToBring_3  : Nat → Int32 → Int32 → Int32 → Int32 → lc_St → Option (Int32)
  | 0, _, _, _, _, _ => none
  | n + 1, x1, x2, x3, x4, s =>
    if ((2 : Int32) * x1) ≤ x4 then some ((2 : Int32) * x1) else lc_bd (P_X0_arriving x4 x2 x3 s) (fun r16 => if r16 < x1 then lc_let (x4 + (1 : Int32)) (fun x4_26 => P_X0_sizeToBring_3  n x1 x2 x3 x4_26 s) else some x4)
set_option maxRecDepth 100000 in
set_option maxHeartbeats 4000000 in
theorem w_X0_sizeToBring_3 {S : lc_Se} {X : lc_X} (C : lc_C X cX0_sizeToBring RX0 5 (some .int) rm_X0_sizeToBring) {M : lc_MM} {k0 : Nat} (hk : k0 < 19) (out : Int32)  : ∀ (n : Nat) (x1 : Int32) (x2 : Int32) (x3 : Int32) (x4 : Int32) (s : lc_St), P_X0_sizeToBring_3  n x1 x2 x3 x4 s = some out → lc_J S X 5 0 0 (lc_QI S X 0 0 out (va_up M k0 s)) 3 [(0, .ref (lc_ad S (10 * k0))), (1, .int x1), (2, .int x2), (3, .int x3), (4, .int x4)] [] (va_up M k0 s) := by
  intro n
  induction n with
  | zero =>
    intro x1 x2 x3 x4 s h
    rw [P_X0_sizeToBring_3] at h
    cases h
  | succ n ih =>
    intro x1 x2 x3 x4 s h
    rw [P_X0_sizeToBring_3] at h
    refine lc_iload C (pc' := 5) 4 dX0_sizeToBring_3 rfl rfl ?_
    refine lc_iconst C (pc' := 6) (v := (2 : Int32)) dX0_sizeToBring_5 (by decide) rfl ?_
    refine lc_iload_n C (pc' := 7) 1 dX0_sizeToBring_6 rfl rfl ?_
    refine lc_imul C (pc' := 8) dX0_sizeToBring_7 rfl ?_
    refine lc_icmp_ge C (pc' := 11) (tgt := 32) dX0_sizeToBring_8 (by decide) rfl (fun c8 => ?_) (fun c8 => ?_)
    · have h := (lc_if2 h).1 c8
      refine lc_iconst C (pc' := 33) (v := (2 : Int32)) dX0_sizeToBring_32 (by decide) rfl ?_
      refine lc_iload_n C (pc' := 34) 1 dX0_sizeToBring_33 rfl rfl ?_
      refine lc_imul C (pc' := 35) dX0_sizeToBring_34 rfl ?_
      obtain rfl := Option.some.inj h
      exact lc_iret C rfl dX0_sizeToBring_35
    · have h := (lc_if2 h).2 c8
      refine lc_aload_n C (pc' := 12) 0 dX0_sizeToBring_11 rfl rfl ?_
      refine lc_iload C (pc' := 14) 4 dX0_sizeToBring_12 rfl rfl ?_
      refine lc_iload_n C (pc' := 15) 2 dX0_sizeToBring_14 rfl rfl ?_
      refine lc_iload_n C (pc' := 16) 3 dX0_sizeToBring_15 rfl rfl ?_
      obtain ⟨r16, h16, h⟩ := lc_bde h
      refine lc_cvi C (pc' := 19) (r := r16) (M' := (va_up M k0 s)) (As := [.int x4, .int x2, .int x3]) (rest := []) (c_X0_arriving S X.2.1 M (k0 := k0) hk x4 x2 x3 s r16 h16) kl_RX0_96 (lc_at_b S _ hk) rfl rfl rfl rfl (Nat.le_of_ble_eq_true rfl) ⟨Nat.le_of_ble_eq_true rfl, Nat.le_of_ble_eq_true rfl⟩ ⟨rfl, rfl⟩ (lc_z2 _ _) dX0_sizeToBring_16 rfl ?_
      refine lc_iload_n C (pc' := 20) 1 dX0_sizeToBring_19 rfl rfl ?_
      refine lc_icmp_lt C (pc' := 23) (tgt := 26) dX0_sizeToBring_20 (by decide) rfl (fun c20 => ?_) (fun c20 => ?_)
      · have h := (lc_if2 h).1 c20
        obtain ⟨x4_26, e4_26, h⟩ := lc_let2 h
        refine lc_iinc C (pc' := 29) (lo' := [(4, .int x4_26), (0, .ref (lc_ad S (10 * k0))), (1, .int x1), (2, .int x2), (3, .int x3)]) (q := 4) dX0_sizeToBring_26 rfl (by rw [← e4_26]; rfl) (Nat.le_of_ble_eq_true rfl) rfl rfl ?_
        refine lc_goto C (tgt := 3) dX0_sizeToBring_29 (by decide) ?_
        refine lc_sub (lo' := [(0, .ref (lc_ad S (10 * k0))), (1, .int x1), (2, .int x2), (3, .int x3), (4, .int x4_26)]) [1, 2, 3, 4, 0] rfl ?_
        exact ih x1 x2 x3 x4_26 s h
      · have h := (lc_if2 h).2 c20
        refine lc_iload C (pc' := 25) 4 dX0_sizeToBring_23 rfl rfl ?_
        obtain rfl := Option.some.inj h
        exact lc_iret C rfl dX0_sizeToBring_25
def P_X0_sizeToBring  (x1 : Int32) (x2 : Int32) (x3 : Int32) (s : lc_St) : Option (Int32) :=
  P_X0_sizeToBring_3  lc_FU x1 x2 x3 x1 s
set_option maxRecDepth 100000 in
set_option maxHeartbeats 4000000 in
theorem c_X0_sizeToBring (S : lc_Se) (l : Launch) (M : lc_MM) {k0 : Nat} (hk : k0 < 19) (x1 : Int32) (x2 : Int32) (x3 : Int32) (s : lc_St) (out : Int32) (h : P_X0_sizeToBring x1 x2 x3 s = some out) : lc_MI S l yX0_sizeToBring cX0_sizeToBring 5 (some .int) rm_X0_sizeToBring [.ref (lc_ad S (10 * k0)), .int x1, .int x2, .int x3] (va_up M k0 s) out (va_up M k0 s) := by
  refine lc_mkI (own := RX0) pn_RX0 rfl (Nat.le_of_ble_eq_true rfl) (lo := [(0, .ref (lc_ad S (10 * k0))), (1, .int x1), (2, .int x2), (3, .int x3)]) rfl (fun X hX C => ?_)
  rw [P_X0_sizeToBring] at h
  refine lc_iload_n C (pc' := 1) 1 dX0_sizeToBring_0 rfl rfl ?_
  refine lc_istore C (pc' := 3) (lo' := [(4, .int x1), (0, .ref (lc_ad S (10 * k0))), (1, .int x1), (2, .int x2), (3, .int x3)]) dX0_sizeToBring_1 (Nat.le_of_ble_eq_true rfl) rfl rfl ?_
  refine lc_sub (lo' := [(0, .ref (lc_ad S (10 * k0))), (1, .int x1), (2, .int x2), (3, .int x3), (4, .int x1)]) [1, 2, 3, 4, 0] rfl ?_
  exact w_X0_sizeToBring_3 C  hk out  lc_FU x1 x2 x3 x1 s h
abbrev rm_X0_shuttle : Room := { frames := 1, cells := 0, slots := 0, locals := 24 }
def P_X0_shuttle  (x1 : Int32) (x2 : Int32) (x3 : Int32) (s : lc_St) : Option (Int32 × lc_St) :=
  lc_bd (P_X0_hasCell x2 s) (fun r2 => if r2 = 0 then some ((0 : Int32), s) else lc_bd (P_X0_hasCell x3 s) (fun r10 => if r10 = 0 then some ((0 : Int32), s) else lc_bd (P_X0_arriving x1 x2 x3 s) (fun r22 => lc_if (lc_ok x2 8) (lc_if (lc_ok x2 8) (lc_let (lc_ss s 2 (x2.toNatClampNeg) ((s 2 x2.toNatClampNeg) - x1)) (fun s1 => lc_if (lc_ok x3 8) (lc_if (lc_ok x3 8) (lc_let (lc_ss s1 2 (x3.toNatClampNeg) ((s1 2 x3.toNatClampNeg) + r22)) (fun s2 => lc_let (lc_ss s2 0 5 ((s2 0 5) + (x1 - r22))) (fun s3 => some (r22, s3)))))))))))
set_option maxRecDepth 100000 in
set_option maxHeartbeats 4000000 in
theorem c_X0_shuttle (S : lc_Se) (l : Launch) (M : lc_MM) {k0 : Nat} (hk : k0 < 19) (x1 : Int32) (x2 : Int32) (x3 : Int32) (s : lc_St) (out : Int32 × lc_St) (h : P_X0_shuttle x1 x2 x3 s = some out) : lc_MI S l yX0_shuttle cX0_shuttle 5 (some .int) rm_X0_shuttle [.ref (lc_ad S (10 * k0)), .int x1, .int x2, .int x3] (va_up M k0 s) out.1 (va_up M k0 out.2) := by
  refine lc_mkI (own := RX0) pn_RX0 rfl (Nat.le_of_ble_eq_true rfl) (lo := [(0, .ref (lc_ad S (10 * k0))), (1, .int x1), (2, .int x2), (3, .int x3)]) rfl (fun X hX C => ?_)
  rw [P_X0_shuttle] at h
  refine lc_aload_n C (pc' := 1) 0 dX0_shuttle_0 rfl rfl ?_
  refine lc_iload_n C (pc' := 2) 2 dX0_shuttle_1 rfl rfl ?_
  obtain ⟨r2, h2, h⟩ := lc_bde h
  refine lc_cvi C (pc' := 5) (r := r2) (M' := (va_up M k0 s)) (As := [.int x2]) (rest := []) (c_X0_hasCell S X.2.1 M (k0 := k0) hk x2 s r2 h2) kl_RX0_73 (lc_at_b S _ hk) rfl rfl rfl rfl (Nat.le_of_ble_eq_true rfl) ⟨Nat.le_of_ble_eq_true rfl, Nat.le_of_ble_eq_true rfl⟩ ⟨rfl, rfl⟩ (lc_z2 _ _) dX0_shuttle_2 rfl ?_
  refine lc_if_eq C (pc' := 8) (tgt := 16) dX0_shuttle_5 (by decide) rfl (fun c5 => ?_) (fun c5 => ?_)
  · have h := (lc_if2 h).1 c5
    refine lc_iconst C (pc' := 17) (v := (0 : Int32)) dX0_shuttle_16 (by decide) rfl ?_
    obtain rfl := Option.some.inj h
    exact lc_iret C rfl dX0_shuttle_17
  · have h := (lc_if2 h).2 c5
    refine lc_aload_n C (pc' := 9) 0 dX0_shuttle_8 rfl rfl ?_
    refine lc_iload_n C (pc' := 10) 3 dX0_shuttle_9 rfl rfl ?_
    obtain ⟨r10, h10, h⟩ := lc_bde h
    refine lc_cvi C (pc' := 13) (r := r10) (M' := (va_up M k0 s)) (As := [.int x3]) (rest := []) (c_X0_hasCell S X.2.1 M (k0 := k0) hk x3 s r10 h10) kl_RX0_73 (lc_at_b S _ hk) rfl rfl rfl rfl (Nat.le_of_ble_eq_true rfl) ⟨Nat.le_of_ble_eq_true rfl, Nat.le_of_ble_eq_true rfl⟩ ⟨rfl, rfl⟩ (lc_z2 _ _) dX0_shuttle_10 rfl ?_
    refine lc_if_ne C (pc' := 16) (tgt := 18) dX0_shuttle_13 (by decide) rfl (fun c13 => ?_) (fun c13 => ?_)
    · have h := (lc_if2 h).2 c13
      refine lc_aload_n C (pc' := 19) 0 dX0_shuttle_18 rfl rfl ?_
      refine lc_iload_n C (pc' := 20) 1 dX0_shuttle_19 rfl rfl ?_
      refine lc_iload_n C (pc' := 21) 2 dX0_shuttle_20 rfl rfl ?_
      refine lc_iload_n C (pc' := 22) 3 dX0_shuttle_21 rfl rfl ?_
      obtain ⟨r22, h22, h⟩ := lc_bde h
      refine lc_cvi C (pc' := 25) (r := r22) (M' := (va_up M k0 s)) (As := [.int x1, .int x2, .int x3]) (rest := []) (c_X0_arriving S X.2.1 M (k0 := k0) hk x1 x2 x3 s r22 h22) kl_RX0_96 (lc_at_b S _ hk) rfl rfl rfl rfl (Nat.le_of_ble_eq_true rfl) ⟨Nat.le_of_ble_eq_true rfl, Nat.le_of_ble_eq_true rfl⟩ ⟨rfl, rfl⟩ (lc_z2 _ _) dX0_shuttle_22 rfl ?_
      refine lc_istore C (pc' := 27) (lo' := [(4, .int r22), (0, .ref (lc_ad S (10 * k0))), (1, .int x1), (2, .int x2), (3, .int x3)]) dX0_shuttle_25 (Nat.le_of_ble_eq_true rfl) rfl rfl ?_
      refine lc_aload_n C (pc' := 28) 1 dX0_shuttle_27 rfl rfl ?_
      refine lc_br1 C (pc' := 31) (k0 := k0) hk dX0_shuttle_28 kf_RX0_15 rfl ?_
      refine lc_iload_n C (pc' := 32) 3 dX0_shuttle_31 rfl rfl ?_
      refine lc_dup2 C (pc' := 33) dX0_shuttle_32 rfl rfl rfl ?_
      obtain ⟨hi33, h⟩ := lc_ife h
      refine lc_bald C (pc' := 34) (k0 := k0) (r := 2) (len := 8) (jj := x2.toNatClampNeg) hk (by decide) (by decide) (va_up_self _ _ _) rfl hi33 rfl dX0_shuttle_33 rfl ?_
      refine lc_iload_n C (pc' := 35) 2 dX0_shuttle_34 rfl rfl ?_
      refine lc_isub C (pc' := 36) dX0_shuttle_35 rfl ?_
      obtain ⟨hi36, h⟩ := lc_ife h
      obtain ⟨s1, es1, h⟩ := lc_let2 h
      refine lc_bast C (pc' := 37) (k0 := k0) (r := 2) (len := 8) (jj := x2.toNatClampNeg) (M' := (va_up M k0 s1)) hk (by decide) (by decide) (va_up_self _ _ _) rfl hi36 rfl es1 (lc_up_up _ _ _ _) dX0_shuttle_36 rfl ?_
      refine lc_aload_n C (pc' := 38) 1 dX0_shuttle_37 rfl rfl ?_
      refine lc_br1 C (pc' := 41) (k0 := k0) hk dX0_shuttle_38 kf_RX0_15 rfl ?_
      refine lc_iload_n C (pc' := 42) 4 dX0_shuttle_41 rfl rfl ?_
      refine lc_dup2 C (pc' := 43) dX0_shuttle_42 rfl rfl rfl ?_
      obtain ⟨hi43, h⟩ := lc_ife h
      refine lc_bald C (pc' := 44) (k0 := k0) (r := 2) (len := 8) (jj := x3.toNatClampNeg) hk (by decide) (by decide) (va_up_self _ _ _) rfl hi43 rfl dX0_shuttle_43 rfl ?_
      refine lc_iload C (pc' := 46) 0 dX0_shuttle_44 rfl rfl ?_
      refine lc_iadd C (pc' := 47) dX0_shuttle_46 rfl ?_
      obtain ⟨hi47, h⟩ := lc_ife h
      obtain ⟨s2, es2, h⟩ := lc_let2 h
      refine lc_bast C (pc' := 48) (k0 := k0) (r := 2) (len := 8) (jj := x3.toNatClampNeg) (M' := (va_up M k0 s2)) hk (by decide) (by decide) (va_up_self _ _ _) rfl hi47 rfl es2 (lc_up_up _ _ _ _) dX0_shuttle_47 rfl ?_
      refine lc_aload_n C (pc' := 49) 1 dX0_shuttle_48 rfl rfl ?_
      refine lc_dup C (pc' := 50) dX0_shuttle_49 rfl rfl ?_
      refine lc_bg5 C (pc' := 53) (k0 := k0) hk (va_up_self _ _ _) dX0_shuttle_50 kf_RX0_58 rfl ?_
      refine lc_iload_n C (pc' := 54) 2 dX0_shuttle_53 rfl rfl ?_
      refine lc_iload C (pc' := 56) 0 dX0_shuttle_54 rfl rfl ?_
      refine lc_isub C (pc' := 57) dX0_shuttle_56 rfl ?_
      refine lc_iadd C (pc' := 58) dX0_shuttle_57 rfl ?_
      obtain ⟨s3, es3, h⟩ := lc_let2 h
      refine lc_bp5 C (pc' := 61) (k0 := k0) (M' := (va_up M k0 s3)) hk (va_up_self _ _ _) es3 (lc_up_up _ _ _ _) dX0_shuttle_58 kf_RX0_58 rfl ?_
      refine lc_iload C (pc' := 63) 0 dX0_shuttle_61 rfl rfl ?_
      obtain rfl := Option.some.inj h
      exact lc_iret C rfl dX0_shuttle_63
    · have h := (lc_if2 h).1 c13
      refine lc_iconst C (pc' := 17) (v := (0 : Int32)) dX0_shuttle_16 (by decide) rfl ?_
      obtain rfl := Option.some.inj h
      exact lc_iret C rfl dX0_shuttle_17
abbrev rm_X0_canLend : Room := { frames := 2, cells := 0, slots := 0, locals := 42 }
def P_X0_canLend  (x1 : Int32) (x2 : Int32) (x3 : Int32) (s : lc_St) : Option (Int32) :=
  lc_bd (P_X0_hasCell x1 s) (fun r2 => if r2 = 0 then some (0 : Int32) else lc_bd (P_X0_hasCell x2 s) (fun r10 => if r10 = 0 then some (0 : Int32) else if x1 = x2 then some (0 : Int32) else lc_bd (P_X0_isBankrupt x1 s) (fun r25 => if r25 = 0 then lc_bd (P_X0_isBankrupt x2 s) (fun r33 => if r33 = 0 then if (s 0 1) < (12 : Int32) then lc_bd (P_X0_chargeOf x1 s) (fun r52 => if r52 < x3 then some (0 : Int32) else lc_bd (P_X0_arriving x3 x1 x2 s) (fun r63 => lc_bd (P_X0_roomOf x2 s) (fun r68 => if r68 < r63 then some (0 : Int32) else some (1 : Int32)))) else some (0 : Int32) else some (0 : Int32)) else some (0 : Int32))))
set_option maxRecDepth 100000 in
set_option maxHeartbeats 4000000 in
theorem c_X0_canLend (S : lc_Se) (l : Launch) (M : lc_MM) {k0 : Nat} (hk : k0 < 19) (x1 : Int32) (x2 : Int32) (x3 : Int32) (s : lc_St) (out : Int32) (h : P_X0_canLend x1 x2 x3 s = some out) : lc_MI S l yX0_canLend cX0_canLend 4 (some .boolean) rm_X0_canLend [.ref (lc_ad S (10 * k0)), .int x1, .int x2, .int x3] (va_up M k0 s) out (va_up M k0 s) := by
  refine lc_mkI (own := RX0) pn_RX0 rfl (Nat.le_of_ble_eq_true rfl) (lo := [(0, .ref (lc_ad S (10 * k0))), (1, .int x1), (2, .int x2), (3, .int x3)]) rfl (fun X hX C => ?_)
  rw [P_X0_canLend] at h
  refine lc_aload_n C (pc' := 1) 0 dX0_canLend_0 rfl rfl ?_
  refine lc_iload_n C (pc' := 2) 1 dX0_canLend_1 rfl rfl ?_
  obtain ⟨r2, h2, h⟩ := lc_bde h
  refine lc_cvi C (pc' := 5) (r := r2) (M' := (va_up M k0 s)) (As := [.int x1]) (rest := []) (c_X0_hasCell S X.2.1 M (k0 := k0) hk x1 s r2 h2) kl_RX0_73 (lc_at_b S _ hk) rfl rfl rfl rfl (Nat.le_of_ble_eq_true rfl) ⟨Nat.le_of_ble_eq_true rfl, Nat.le_of_ble_eq_true rfl⟩ ⟨rfl, rfl⟩ (lc_z2 _ _) dX0_canLend_2 rfl ?_
  refine lc_if_eq C (pc' := 8) (tgt := 21) dX0_canLend_5 (by decide) rfl (fun c5 => ?_) (fun c5 => ?_)
  · have h := (lc_if2 h).1 c5
    refine lc_iconst C (pc' := 22) (v := (0 : Int32)) dX0_canLend_21 (by decide) rfl ?_
    obtain rfl := Option.some.inj h
    exact lc_zret C rfl (Or.inl rfl) dX0_canLend_22
  · have h := (lc_if2 h).2 c5
    refine lc_aload_n C (pc' := 9) 0 dX0_canLend_8 rfl rfl ?_
    refine lc_iload_n C (pc' := 10) 2 dX0_canLend_9 rfl rfl ?_
    obtain ⟨r10, h10, h⟩ := lc_bde h
    refine lc_cvi C (pc' := 13) (r := r10) (M' := (va_up M k0 s)) (As := [.int x2]) (rest := []) (c_X0_hasCell S X.2.1 M (k0 := k0) hk x2 s r10 h10) kl_RX0_73 (lc_at_b S _ hk) rfl rfl rfl rfl (Nat.le_of_ble_eq_true rfl) ⟨Nat.le_of_ble_eq_true rfl, Nat.le_of_ble_eq_true rfl⟩ ⟨rfl, rfl⟩ (lc_z2 _ _) dX0_canLend_10 rfl ?_
    refine lc_if_eq C (pc' := 16) (tgt := 21) dX0_canLend_13 (by decide) rfl (fun c13 => ?_) (fun c13 => ?_)
    · have h := (lc_if2 h).1 c13
      refine lc_iconst C (pc' := 22) (v := (0 : Int32)) dX0_canLend_21 (by decide) rfl ?_
      obtain rfl := Option.some.inj h
      exact lc_zret C rfl (Or.inl rfl) dX0_canLend_22
    · have h := (lc_if2 h).2 c13
      refine lc_iload_n C (pc' := 17) 1 dX0_canLend_16 rfl rfl ?_
      refine lc_iload_n C (pc' := 18) 2 dX0_canLend_17 rfl rfl ?_
      refine lc_icmp_ne C (pc' := 21) (tgt := 23) dX0_canLend_18 (by decide) rfl (fun c18 => ?_) (fun c18 => ?_)
      · have h := (lc_if2 h).2 c18
        refine lc_aload_n C (pc' := 24) 0 dX0_canLend_23 rfl rfl ?_
        refine lc_iload_n C (pc' := 25) 1 dX0_canLend_24 rfl rfl ?_
        obtain ⟨r25, h25, h⟩ := lc_bde h
        refine lc_cvi C (pc' := 28) (r := r25) (M' := (va_up M k0 s)) (As := [.int x1]) (rest := []) (c_X0_isBankrupt S X.2.1 M (k0 := k0) hk x1 s r25 h25) kl_RX0_77 (lc_at_b S _ hk) rfl rfl rfl rfl (Nat.le_of_ble_eq_true rfl) ⟨Nat.le_of_ble_eq_true rfl, Nat.le_of_ble_eq_true rfl⟩ ⟨rfl, rfl⟩ (lc_z2 _ _) dX0_canLend_25 rfl ?_
        refine lc_if_ne C (pc' := 31) (tgt := 48) dX0_canLend_28 (by decide) rfl (fun c28 => ?_) (fun c28 => ?_)
        · have h := (lc_if2 h).2 c28
          refine lc_iconst C (pc' := 49) (v := (0 : Int32)) dX0_canLend_48 (by decide) rfl ?_
          obtain rfl := Option.some.inj h
          exact lc_zret C rfl (Or.inl rfl) dX0_canLend_49
        · have h := (lc_if2 h).1 c28
          refine lc_aload_n C (pc' := 32) 0 dX0_canLend_31 rfl rfl ?_
          refine lc_iload_n C (pc' := 33) 2 dX0_canLend_32 rfl rfl ?_
          obtain ⟨r33, h33, h⟩ := lc_bde h
          refine lc_cvi C (pc' := 36) (r := r33) (M' := (va_up M k0 s)) (As := [.int x2]) (rest := []) (c_X0_isBankrupt S X.2.1 M (k0 := k0) hk x2 s r33 h33) kl_RX0_77 (lc_at_b S _ hk) rfl rfl rfl rfl (Nat.le_of_ble_eq_true rfl) ⟨Nat.le_of_ble_eq_true rfl, Nat.le_of_ble_eq_true rfl⟩ ⟨rfl, rfl⟩ (lc_z2 _ _) dX0_canLend_33 rfl ?_
          refine lc_if_ne C (pc' := 39) (tgt := 48) dX0_canLend_36 (by decide) rfl (fun c36 => ?_) (fun c36 => ?_)
          · have h := (lc_if2 h).2 c36
            refine lc_iconst C (pc' := 49) (v := (0 : Int32)) dX0_canLend_48 (by decide) rfl ?_
            obtain rfl := Option.some.inj h
            exact lc_zret C rfl (Or.inl rfl) dX0_canLend_49
          · have h := (lc_if2 h).1 c36
            refine lc_aload_n C (pc' := 40) 0 dX0_canLend_39 rfl rfl ?_
            refine lc_bg1 C (pc' := 43) (k0 := k0) hk (va_up_self _ _ _) dX0_canLend_40 kf_RX0_46 rfl ?_
            refine lc_bipush C (pc' := 45) (v := (12 : Int32)) dX0_canLend_43 (by decide) rfl ?_
            refine lc_icmp_lt C (pc' := 48) (tgt := 50) dX0_canLend_45 (by decide) rfl (fun c45 => ?_) (fun c45 => ?_)
            · have h := (lc_if2 h).1 c45
              refine lc_aload_n C (pc' := 51) 0 dX0_canLend_50 rfl rfl ?_
              refine lc_iload_n C (pc' := 52) 1 dX0_canLend_51 rfl rfl ?_
              obtain ⟨r52, h52, h⟩ := lc_bde h
              refine lc_cvi C (pc' := 55) (r := r52) (M' := (va_up M k0 s)) (As := [.int x1]) (rest := []) (c_X0_chargeOf S X.2.1 M (k0 := k0) hk x1 s r52 h52) kl_RX0_93 (lc_at_b S _ hk) rfl rfl rfl rfl (Nat.le_of_ble_eq_true rfl) ⟨Nat.le_of_ble_eq_true rfl, Nat.le_of_ble_eq_true rfl⟩ ⟨rfl, rfl⟩ (lc_z2 _ _) dX0_canLend_52 rfl ?_
              refine lc_iload_n C (pc' := 56) 3 dX0_canLend_55 rfl rfl ?_
              refine lc_icmp_lt C (pc' := 59) (tgt := 78) dX0_canLend_56 (by decide) rfl (fun c56 => ?_) (fun c56 => ?_)
              · have h := (lc_if2 h).1 c56
                refine lc_iconst C (pc' := 79) (v := (0 : Int32)) dX0_canLend_78 (by decide) rfl ?_
                obtain rfl := Option.some.inj h
                exact lc_zret C rfl (Or.inl rfl) dX0_canLend_79
              · have h := (lc_if2 h).2 c56
                refine lc_aload_n C (pc' := 60) 0 dX0_canLend_59 rfl rfl ?_
                refine lc_iload_n C (pc' := 61) 3 dX0_canLend_60 rfl rfl ?_
                refine lc_iload_n C (pc' := 62) 1 dX0_canLend_61 rfl rfl ?_
                refine lc_iload_n C (pc' := 63) 2 dX0_canLend_62 rfl rfl ?_
                obtain ⟨r63, h63, h⟩ := lc_bde h
                refine lc_cvi C (pc' := 66) (r := r63) (M' := (va_up M k0 s)) (As := [.int x3, .int x1, .int x2]) (rest := []) (c_X0_arriving S X.2.1 M (k0 := k0) hk x3 x1 x2 s r63 h63) kl_RX0_96 (lc_at_b S _ hk) rfl rfl rfl rfl (Nat.le_of_ble_eq_true rfl) ⟨Nat.le_of_ble_eq_true rfl, Nat.le_of_ble_eq_true rfl⟩ ⟨rfl, rfl⟩ (lc_z2 _ _) dX0_canLend_63 rfl ?_
                refine lc_aload_n C (pc' := 67) 0 dX0_canLend_66 rfl rfl ?_
                refine lc_iload_n C (pc' := 68) 2 dX0_canLend_67 rfl rfl ?_
                obtain ⟨r68, h68, h⟩ := lc_bde h
                refine lc_cvi C (pc' := 71) (r := r68) (M' := (va_up M k0 s)) (As := [.int x2]) (rest := [.int r63]) (c_X0_roomOf S X.2.1 M (k0 := k0) hk x2 s r68 h68) kl_RX0_100 (lc_at_b S _ hk) rfl rfl rfl rfl (Nat.le_of_ble_eq_true rfl) ⟨Nat.le_of_ble_eq_true rfl, Nat.le_of_ble_eq_true rfl⟩ ⟨rfl, rfl⟩ (lc_z2 _ _) dX0_canLend_68 rfl ?_
                refine lc_icmp_gt C (pc' := 74) (tgt := 78) dX0_canLend_71 (by decide) rfl (fun c71 => ?_) (fun c71 => ?_)
                · have h := (lc_if2 h).1 c71
                  refine lc_iconst C (pc' := 79) (v := (0 : Int32)) dX0_canLend_78 (by decide) rfl ?_
                  obtain rfl := Option.some.inj h
                  exact lc_zret C rfl (Or.inl rfl) dX0_canLend_79
                · have h := (lc_if2 h).2 c71
                  refine lc_iconst C (pc' := 75) (v := (1 : Int32)) dX0_canLend_74 (by decide) rfl ?_
                  refine lc_goto C (tgt := 79) dX0_canLend_75 (by decide) ?_
                  obtain rfl := Option.some.inj h
                  exact lc_zret C rfl (Or.inr rfl) dX0_canLend_79
            · have h := (lc_if2 h).2 c45
              refine lc_iconst C (pc' := 49) (v := (0 : Int32)) dX0_canLend_48 (by decide) rfl ?_
              obtain rfl := Option.some.inj h
              exact lc_zret C rfl (Or.inl rfl) dX0_canLend_49
      · have h := (lc_if2 h).1 c18
        refine lc_iconst C (pc' := 22) (v := (0 : Int32)) dX0_canLend_21 (by decide) rfl ?_
        obtain rfl := Option.some.inj h
        exact lc_zret C rfl (Or.inl rfl) dX0_canLend_22
abbrev rm_X0_makeLoan : Room := { frames := 3, cells := 0, slots := 0, locals := 65 }
def P_X0_makeLoan  (x1 : Int32) (x2 : Int32) (x3 : Int32) (x4 : Int32) (s : lc_St) : Option (Int32 × lc_St) :=
  if (12 : Int32) ≤ (s 0 1) then some ((-9 : Int32), s) else lc_bd (P_X0_canLend x1 x2 x3 s) (fun r13 => if r13 = 0 then some ((-9 : Int32), s) else lc_let (s 0 1) (fun x5_26 => lc_if (lc_ok x5_26 12) (lc_let (lc_ss s 5 (x5_26.toNatClampNeg) x1) (fun s1 => lc_if (lc_ok x5_26 12) (lc_let (lc_ss s1 6 (x5_26.toNatClampNeg) x2) (fun s2 => lc_if (lc_ok x5_26 12) (lc_let (lc_ss s2 7 (x5_26.toNatClampNeg) x3) (fun s3 => lc_if (lc_ok x5_26 12) (lc_let (lc_ss s3 8 (x5_26.toNatClampNeg) x4) (fun s4 => lc_bd2 (P_X0_shuttle x3 x1 x2 s4) (fun r71 s5 => lc_if (lc_ok x5_26 12) (lc_let (lc_ss s5 9 (x5_26.toNatClampNeg) r71) (fun s6 => lc_let (lc_ss s6 0 1 ((s6 0 1) + (1 : Int32))) (fun s7 => lc_if (lc_ok x5_26 12) (some ((s7 9 x5_26.toNatClampNeg), s7))))))))))))))))
set_option maxRecDepth 100000 in
set_option maxHeartbeats 4000000 in
theorem c_X0_makeLoan (S : lc_Se) (l : Launch) (M : lc_MM) {k0 : Nat} (hk : k0 < 19) (x1 : Int32) (x2 : Int32) (x3 : Int32) (x4 : Int32) (s : lc_St) (out : Int32 × lc_St) (h : P_X0_makeLoan x1 x2 x3 x4 s = some out) : lc_MI S l yX0_makeLoan cX0_makeLoan 6 (some .int) rm_X0_makeLoan [.ref (lc_ad S (10 * k0)), .int x1, .int x2, .int x3, .int x4] (va_up M k0 s) out.1 (va_up M k0 out.2) := by
  refine lc_mkI (own := RX0) pn_RX0 rfl (Nat.le_of_ble_eq_true rfl) (lo := [(0, .ref (lc_ad S (10 * k0))), (1, .int x1), (2, .int x2), (3, .int x3), (4, .int x4)]) rfl (fun X hX C => ?_)
  rw [P_X0_makeLoan] at h
  refine lc_aload_n C (pc' := 1) 0 dX0_makeLoan_0 rfl rfl ?_
  refine lc_bg1 C (pc' := 4) (k0 := k0) hk (va_up_self _ _ _) dX0_makeLoan_1 kf_RX0_46 rfl ?_
  refine lc_bipush C (pc' := 6) (v := (12 : Int32)) dX0_makeLoan_4 (by decide) rfl ?_
  refine lc_icmp_ge C (pc' := 9) (tgt := 19) dX0_makeLoan_6 (by decide) rfl (fun c6 => ?_) (fun c6 => ?_)
  · have h := (lc_if2 h).1 c6
    refine lc_bipush C (pc' := 21) (v := (-9 : Int32)) dX0_makeLoan_19 (by decide) rfl ?_
    obtain rfl := Option.some.inj h
    exact lc_iret C rfl dX0_makeLoan_21
  · have h := (lc_if2 h).2 c6
    refine lc_aload_n C (pc' := 10) 0 dX0_makeLoan_9 rfl rfl ?_
    refine lc_iload_n C (pc' := 11) 1 dX0_makeLoan_10 rfl rfl ?_
    refine lc_iload_n C (pc' := 12) 2 dX0_makeLoan_11 rfl rfl ?_
    refine lc_iload_n C (pc' := 13) 3 dX0_makeLoan_12 rfl rfl ?_
    obtain ⟨r13, h13, h⟩ := lc_bde h
    refine lc_cvi C (pc' := 16) (r := r13) (M' := (va_up M k0 s)) (As := [.int x1, .int x2, .int x3]) (rest := []) (c_X0_canLend S X.2.1 M (k0 := k0) hk x1 x2 x3 s r13 h13) kl_RX0_103 (lc_at_b S _ hk) rfl rfl rfl rfl (Nat.le_of_ble_eq_true rfl) ⟨Nat.le_of_ble_eq_true rfl, Nat.le_of_ble_eq_true rfl⟩ ⟨rfl, rfl⟩ (lc_z2 _ _) dX0_makeLoan_13 rfl ?_
    refine lc_if_ne C (pc' := 19) (tgt := 22) dX0_makeLoan_16 (by decide) rfl (fun c16 => ?_) (fun c16 => ?_)
    · have h := (lc_if2 h).2 c16
      refine lc_aload_n C (pc' := 23) 0 dX0_makeLoan_22 rfl rfl ?_
      refine lc_bg1 C (pc' := 26) (k0 := k0) hk (va_up_self _ _ _) dX0_makeLoan_23 kf_RX0_46 rfl ?_
      obtain ⟨x5_26, e5_26, h⟩ := lc_let2 h
      rw [e5_26]
      refine lc_istore C (pc' := 28) (lo' := [(5, .int x5_26), (0, .ref (lc_ad S (10 * k0))), (1, .int x1), (2, .int x2), (3, .int x3), (4, .int x4)]) dX0_makeLoan_26 (Nat.le_of_ble_eq_true rfl) rfl rfl ?_
      refine lc_aload_n C (pc' := 29) 1 dX0_makeLoan_28 rfl rfl ?_
      refine lc_br4 C (pc' := 32) (k0 := k0) hk dX0_makeLoan_29 kf_RX0_24 rfl ?_
      refine lc_iload C (pc' := 34) 0 dX0_makeLoan_32 rfl rfl ?_
      refine lc_iload_n C (pc' := 35) 2 dX0_makeLoan_34 rfl rfl ?_
      obtain ⟨hi35, h⟩ := lc_ife h
      obtain ⟨s1, es1, h⟩ := lc_let2 h
      refine lc_bast C (pc' := 36) (k0 := k0) (r := 5) (len := 12) (jj := x5_26.toNatClampNeg) (M' := (va_up M k0 s1)) hk (by decide) (by decide) (va_up_self _ _ _) rfl hi35 rfl es1 (lc_up_up _ _ _ _) dX0_makeLoan_35 rfl ?_
      refine lc_aload_n C (pc' := 37) 1 dX0_makeLoan_36 rfl rfl ?_
      refine lc_br5 C (pc' := 40) (k0 := k0) hk dX0_makeLoan_37 kf_RX0_27 rfl ?_
      refine lc_iload C (pc' := 42) 0 dX0_makeLoan_40 rfl rfl ?_
      refine lc_iload_n C (pc' := 43) 3 dX0_makeLoan_42 rfl rfl ?_
      obtain ⟨hi43, h⟩ := lc_ife h
      obtain ⟨s2, es2, h⟩ := lc_let2 h
      refine lc_bast C (pc' := 44) (k0 := k0) (r := 6) (len := 12) (jj := x5_26.toNatClampNeg) (M' := (va_up M k0 s2)) hk (by decide) (by decide) (va_up_self _ _ _) rfl hi43 rfl es2 (lc_up_up _ _ _ _) dX0_makeLoan_43 rfl ?_
      refine lc_aload_n C (pc' := 45) 1 dX0_makeLoan_44 rfl rfl ?_
      refine lc_br6 C (pc' := 48) (k0 := k0) hk dX0_makeLoan_45 kf_RX0_30 rfl ?_
      refine lc_iload C (pc' := 50) 0 dX0_makeLoan_48 rfl rfl ?_
      refine lc_iload_n C (pc' := 51) 4 dX0_makeLoan_50 rfl rfl ?_
      obtain ⟨hi51, h⟩ := lc_ife h
      obtain ⟨s3, es3, h⟩ := lc_let2 h
      refine lc_bast C (pc' := 52) (k0 := k0) (r := 7) (len := 12) (jj := x5_26.toNatClampNeg) (M' := (va_up M k0 s3)) hk (by decide) (by decide) (va_up_self _ _ _) rfl hi51 rfl es3 (lc_up_up _ _ _ _) dX0_makeLoan_51 rfl ?_
      refine lc_aload_n C (pc' := 53) 1 dX0_makeLoan_52 rfl rfl ?_
      refine lc_br7 C (pc' := 56) (k0 := k0) hk dX0_makeLoan_53 kf_RX0_33 rfl ?_
      refine lc_iload C (pc' := 58) 0 dX0_makeLoan_56 rfl rfl ?_
      refine lc_iload C (pc' := 60) 5 dX0_makeLoan_58 rfl rfl ?_
      obtain ⟨hi60, h⟩ := lc_ife h
      obtain ⟨s4, es4, h⟩ := lc_let2 h
      refine lc_bast C (pc' := 61) (k0 := k0) (r := 8) (len := 12) (jj := x5_26.toNatClampNeg) (M' := (va_up M k0 s4)) hk (by decide) (by decide) (va_up_self _ _ _) rfl hi60 rfl es4 (lc_up_up _ _ _ _) dX0_makeLoan_60 rfl ?_
      refine lc_aload_n C (pc' := 62) 1 dX0_makeLoan_61 rfl rfl ?_
      refine lc_br8 C (pc' := 65) (k0 := k0) hk dX0_makeLoan_62 kf_RX0_36 rfl ?_
      refine lc_iload C (pc' := 67) 0 dX0_makeLoan_65 rfl rfl ?_
      refine lc_aload_n C (pc' := 68) 1 dX0_makeLoan_67 rfl rfl ?_
      refine lc_iload_n C (pc' := 69) 4 dX0_makeLoan_68 rfl rfl ?_
      refine lc_iload_n C (pc' := 70) 2 dX0_makeLoan_69 rfl rfl ?_
      refine lc_iload_n C (pc' := 71) 3 dX0_makeLoan_70 rfl rfl ?_
      obtain ⟨r71, s5, h71, h⟩ := lc_bd2e h
      refine lc_cvi C (pc' := 74) (r := r71) (M' := (va_up M k0 s5)) (As := [.int x3, .int x1, .int x2]) (rest := [.int x5_26, .ref (lc_ad S (10 * k0 + 9))]) (c_X0_shuttle S X.2.1 M (k0 := k0) hk x3 x1 x2 s4 (r71, s5) h71) kl_RX0_107 (lc_at_b S _ hk) rfl rfl rfl rfl (Nat.le_of_ble_eq_true rfl) ⟨Nat.le_of_ble_eq_true rfl, Nat.le_of_ble_eq_true rfl⟩ ⟨rfl, rfl⟩ (lc_z2 _ _) dX0_makeLoan_71 rfl ?_
      obtain ⟨hi74, h⟩ := lc_ife h
      obtain ⟨s6, es6, h⟩ := lc_let2 h
      refine lc_bast C (pc' := 75) (k0 := k0) (r := 9) (len := 12) (jj := x5_26.toNatClampNeg) (M' := (va_up M k0 s6)) hk (by decide) (by decide) (va_up_self _ _ _) rfl hi74 rfl es6 (lc_up_up _ _ _ _) dX0_makeLoan_74 rfl ?_
      refine lc_aload_n C (pc' := 76) 1 dX0_makeLoan_75 rfl rfl ?_
      refine lc_dup C (pc' := 77) dX0_makeLoan_76 rfl rfl ?_
      refine lc_bg1 C (pc' := 80) (k0 := k0) hk (va_up_self _ _ _) dX0_makeLoan_77 kf_RX0_46 rfl ?_
      refine lc_iconst C (pc' := 81) (v := (1 : Int32)) dX0_makeLoan_80 (by decide) rfl ?_
      refine lc_iadd C (pc' := 82) dX0_makeLoan_81 rfl ?_
      obtain ⟨s7, es7, h⟩ := lc_let2 h
      refine lc_bp1 C (pc' := 85) (k0 := k0) (M' := (va_up M k0 s7)) hk (va_up_self _ _ _) es7 (lc_up_up _ _ _ _) dX0_makeLoan_82 kf_RX0_46 rfl ?_
      refine lc_aload_n C (pc' := 86) 1 dX0_makeLoan_85 rfl rfl ?_
      refine lc_br8 C (pc' := 89) (k0 := k0) hk dX0_makeLoan_86 kf_RX0_36 rfl ?_
      refine lc_iload C (pc' := 91) 0 dX0_makeLoan_89 rfl rfl ?_
      obtain ⟨hi91, h⟩ := lc_ife h
      refine lc_bald C (pc' := 92) (k0 := k0) (r := 9) (len := 12) (jj := x5_26.toNatClampNeg) hk (by decide) (by decide) (va_up_self _ _ _) rfl hi91 rfl dX0_makeLoan_91 rfl ?_
      obtain rfl := Option.some.inj h
      exact lc_iret C rfl dX0_makeLoan_92
    · have h := (lc_if2 h).1 c16
      refine lc_bipush C (pc' := 21) (v := (-9 : Int32)) dX0_makeLoan_19 (by decide) rfl ?_
      obtain rfl := Option.some.inj h
      exact lc_iret C rfl dX0_makeLoan_21
abbrev rm_X0_canPayBack : Room := { frames := 2, cells := 0, slots := 0, locals := 42 }
def P_X0_canPayBack  (x1 : Int32) (x2 : Int32) (s : lc_St) : Option (Int32) :=
  lc_bd (P_X0_hasLoan x1 s) (fun r2 => if r2 = 0 then some (0 : Int32) else lc_if (lc_ok x1 12) (if (s 7 x1.toNatClampNeg) < x2 then some (0 : Int32) else lc_if (lc_ok x1 12) (lc_bd (P_X0_chargeOf (s 6 x1.toNatClampNeg) s) (fun r25 => if x2 ≤ r25 then lc_if (lc_ok x1 12) (lc_if (lc_ok x1 12) (lc_bd (P_X0_arriving x2 (s 6 x1.toNatClampNeg) (s 5 x1.toNatClampNeg) s) (fun r48 => lc_if (lc_ok x1 12) (lc_bd (P_X0_roomOf (s 5 x1.toNatClampNeg) s) (fun r58 => if r58 < r48 then some (0 : Int32) else some (1 : Int32)))))) else some (0 : Int32)))))
set_option maxRecDepth 100000 in
set_option maxHeartbeats 4000000 in
theorem c_X0_canPayBack (S : lc_Se) (l : Launch) (M : lc_MM) {k0 : Nat} (hk : k0 < 19) (x1 : Int32) (x2 : Int32) (s : lc_St) (out : Int32) (h : P_X0_canPayBack x1 x2 s = some out) : lc_MI S l yX0_canPayBack cX0_canPayBack 3 (some .boolean) rm_X0_canPayBack [.ref (lc_ad S (10 * k0)), .int x1, .int x2] (va_up M k0 s) out (va_up M k0 s) := by
  refine lc_mkI (own := RX0) pn_RX0 rfl (Nat.le_of_ble_eq_true rfl) (lo := [(0, .ref (lc_ad S (10 * k0))), (1, .int x1), (2, .int x2)]) rfl (fun X hX C => ?_)
  rw [P_X0_canPayBack] at h
  refine lc_aload_n C (pc' := 1) 0 dX0_canPayBack_0 rfl rfl ?_
  refine lc_iload_n C (pc' := 2) 1 dX0_canPayBack_1 rfl rfl ?_
  obtain ⟨r2, h2, h⟩ := lc_bde h
  refine lc_cvi C (pc' := 5) (r := r2) (M' := (va_up M k0 s)) (As := [.int x1]) (rest := []) (c_X0_hasLoan S X.2.1 M (k0 := k0) hk x1 s r2 h2) kl_RX0_80 (lc_at_b S _ hk) rfl rfl rfl rfl (Nat.le_of_ble_eq_true rfl) ⟨Nat.le_of_ble_eq_true rfl, Nat.le_of_ble_eq_true rfl⟩ ⟨rfl, rfl⟩ (lc_z2 _ _) dX0_canPayBack_2 rfl ?_
  refine lc_if_eq C (pc' := 8) (tgt := 32) dX0_canPayBack_5 (by decide) rfl (fun c5 => ?_) (fun c5 => ?_)
  · have h := (lc_if2 h).1 c5
    refine lc_iconst C (pc' := 33) (v := (0 : Int32)) dX0_canPayBack_32 (by decide) rfl ?_
    obtain rfl := Option.some.inj h
    exact lc_zret C rfl (Or.inl rfl) dX0_canPayBack_33
  · have h := (lc_if2 h).2 c5
    refine lc_aload_n C (pc' := 9) 0 dX0_canPayBack_8 rfl rfl ?_
    refine lc_br6 C (pc' := 12) (k0 := k0) hk dX0_canPayBack_9 kf_RX0_30 rfl ?_
    refine lc_iload_n C (pc' := 13) 1 dX0_canPayBack_12 rfl rfl ?_
    obtain ⟨hi13, h⟩ := lc_ife h
    refine lc_bald C (pc' := 14) (k0 := k0) (r := 7) (len := 12) (jj := x1.toNatClampNeg) hk (by decide) (by decide) (va_up_self _ _ _) rfl hi13 rfl dX0_canPayBack_13 rfl ?_
    refine lc_iload_n C (pc' := 15) 2 dX0_canPayBack_14 rfl rfl ?_
    refine lc_icmp_lt C (pc' := 18) (tgt := 32) dX0_canPayBack_15 (by decide) rfl (fun c15 => ?_) (fun c15 => ?_)
    · have h := (lc_if2 h).1 c15
      refine lc_iconst C (pc' := 33) (v := (0 : Int32)) dX0_canPayBack_32 (by decide) rfl ?_
      obtain rfl := Option.some.inj h
      exact lc_zret C rfl (Or.inl rfl) dX0_canPayBack_33
    · have h := (lc_if2 h).2 c15
      refine lc_aload_n C (pc' := 19) 0 dX0_canPayBack_18 rfl rfl ?_
      refine lc_aload_n C (pc' := 20) 0 dX0_canPayBack_19 rfl rfl ?_
      refine lc_br5 C (pc' := 23) (k0 := k0) hk dX0_canPayBack_20 kf_RX0_27 rfl ?_
      refine lc_iload_n C (pc' := 24) 1 dX0_canPayBack_23 rfl rfl ?_
      obtain ⟨hi24, h⟩ := lc_ife h
      refine lc_bald C (pc' := 25) (k0 := k0) (r := 6) (len := 12) (jj := x1.toNatClampNeg) hk (by decide) (by decide) (va_up_self _ _ _) rfl hi24 rfl dX0_canPayBack_24 rfl ?_
      obtain ⟨r25, h25, h⟩ := lc_bde h
      refine lc_cvi C (pc' := 28) (r := r25) (M' := (va_up M k0 s)) (As := [.int (s 6 x1.toNatClampNeg)]) (rest := []) (c_X0_chargeOf S X.2.1 M (k0 := k0) hk (s 6 x1.toNatClampNeg) s r25 h25) kl_RX0_93 (lc_at_b S _ hk) rfl rfl rfl rfl (Nat.le_of_ble_eq_true rfl) ⟨Nat.le_of_ble_eq_true rfl, Nat.le_of_ble_eq_true rfl⟩ ⟨rfl, rfl⟩ (lc_z2 _ _) dX0_canPayBack_25 rfl ?_
      refine lc_iload_n C (pc' := 29) 2 dX0_canPayBack_28 rfl rfl ?_
      refine lc_icmp_ge C (pc' := 32) (tgt := 34) dX0_canPayBack_29 (by decide) rfl (fun c29 => ?_) (fun c29 => ?_)
      · have h := (lc_if2 h).1 c29
        refine lc_aload_n C (pc' := 35) 0 dX0_canPayBack_34 rfl rfl ?_
        refine lc_iload_n C (pc' := 36) 2 dX0_canPayBack_35 rfl rfl ?_
        refine lc_aload_n C (pc' := 37) 0 dX0_canPayBack_36 rfl rfl ?_
        refine lc_br5 C (pc' := 40) (k0 := k0) hk dX0_canPayBack_37 kf_RX0_27 rfl ?_
        refine lc_iload_n C (pc' := 41) 1 dX0_canPayBack_40 rfl rfl ?_
        obtain ⟨hi41, h⟩ := lc_ife h
        refine lc_bald C (pc' := 42) (k0 := k0) (r := 6) (len := 12) (jj := x1.toNatClampNeg) hk (by decide) (by decide) (va_up_self _ _ _) rfl hi41 rfl dX0_canPayBack_41 rfl ?_
        refine lc_aload_n C (pc' := 43) 0 dX0_canPayBack_42 rfl rfl ?_
        refine lc_br4 C (pc' := 46) (k0 := k0) hk dX0_canPayBack_43 kf_RX0_24 rfl ?_
        refine lc_iload_n C (pc' := 47) 1 dX0_canPayBack_46 rfl rfl ?_
        obtain ⟨hi47, h⟩ := lc_ife h
        refine lc_bald C (pc' := 48) (k0 := k0) (r := 5) (len := 12) (jj := x1.toNatClampNeg) hk (by decide) (by decide) (va_up_self _ _ _) rfl hi47 rfl dX0_canPayBack_47 rfl ?_
        obtain ⟨r48, h48, h⟩ := lc_bde h
        refine lc_cvi C (pc' := 51) (r := r48) (M' := (va_up M k0 s)) (As := [.int x2, .int (s 6 x1.toNatClampNeg), .int (s 5 x1.toNatClampNeg)]) (rest := []) (c_X0_arriving S X.2.1 M (k0 := k0) hk x2 (s 6 x1.toNatClampNeg) (s 5 x1.toNatClampNeg) s r48 h48) kl_RX0_96 (lc_at_b S _ hk) rfl rfl rfl rfl (Nat.le_of_ble_eq_true rfl) ⟨Nat.le_of_ble_eq_true rfl, Nat.le_of_ble_eq_true rfl⟩ ⟨rfl, rfl⟩ (lc_z2 _ _) dX0_canPayBack_48 rfl ?_
        refine lc_aload_n C (pc' := 52) 0 dX0_canPayBack_51 rfl rfl ?_
        refine lc_aload_n C (pc' := 53) 0 dX0_canPayBack_52 rfl rfl ?_
        refine lc_br4 C (pc' := 56) (k0 := k0) hk dX0_canPayBack_53 kf_RX0_24 rfl ?_
        refine lc_iload_n C (pc' := 57) 1 dX0_canPayBack_56 rfl rfl ?_
        obtain ⟨hi57, h⟩ := lc_ife h
        refine lc_bald C (pc' := 58) (k0 := k0) (r := 5) (len := 12) (jj := x1.toNatClampNeg) hk (by decide) (by decide) (va_up_self _ _ _) rfl hi57 rfl dX0_canPayBack_57 rfl ?_
        obtain ⟨r58, h58, h⟩ := lc_bde h
        refine lc_cvi C (pc' := 61) (r := r58) (M' := (va_up M k0 s)) (As := [.int (s 5 x1.toNatClampNeg)]) (rest := [.int r48]) (c_X0_roomOf S X.2.1 M (k0 := k0) hk (s 5 x1.toNatClampNeg) s r58 h58) kl_RX0_100 (lc_at_b S _ hk) rfl rfl rfl rfl (Nat.le_of_ble_eq_true rfl) ⟨Nat.le_of_ble_eq_true rfl, Nat.le_of_ble_eq_true rfl⟩ ⟨rfl, rfl⟩ (lc_z2 _ _) dX0_canPayBack_58 rfl ?_
        refine lc_icmp_gt C (pc' := 64) (tgt := 68) dX0_canPayBack_61 (by decide) rfl (fun c61 => ?_) (fun c61 => ?_)
        · have h := (lc_if2 h).1 c61
          refine lc_iconst C (pc' := 69) (v := (0 : Int32)) dX0_canPayBack_68 (by decide) rfl ?_
          obtain rfl := Option.some.inj h
          exact lc_zret C rfl (Or.inl rfl) dX0_canPayBack_69
        · have h := (lc_if2 h).2 c61
          refine lc_iconst C (pc' := 65) (v := (1 : Int32)) dX0_canPayBack_64 (by decide) rfl ?_
          refine lc_goto C (tgt := 69) dX0_canPayBack_65 (by decide) ?_
          obtain rfl := Option.some.inj h
          exact lc_zret C rfl (Or.inr rfl) dX0_canPayBack_69
      · have h := (lc_if2 h).2 c29
        refine lc_iconst C (pc' := 33) (v := (0 : Int32)) dX0_canPayBack_32 (by decide) rfl ?_
        obtain rfl := Option.some.inj h
        exact lc_zret C rfl (Or.inl rfl) dX0_canPayBack_33
abbrev rm_X0_removeLoan : Room := { frames := 0, cells := 0, slots := 0, locals := 0 }
def P_X0_removeLoan_17  : Nat → Int32 → Int32 → lc_St → Option (lc_St)
  | 0, _, _, _ => none
  | n + 1, x1, x2, s =>
    if (s 0 1) ≤ x2 then lc_let (lc_ss s 0 1 ((s 0 1) - (1 : Int32))) (fun s1 => if (s1 0 7) = x1 then lc_let (lc_ss s1 0 7 (-9 : Int32)) (fun s3 => some s3) else if (s1 0 7) ≤ x1 then some s1 else lc_let (lc_ss s1 0 7 ((s1 0 7) - (1 : Int32))) (fun s2 => some s2)) else lc_if (lc_ok x2 12) (lc_if (lc_ok (x2 - (1 : Int32)) 12) (lc_let (lc_ss s 5 ((x2 - (1 : Int32)).toNatClampNeg) (s 5 x2.toNatClampNeg)) (fun s4 => lc_if (lc_ok x2 12) (lc_if (lc_ok (x2 - (1 : Int32)) 12) (lc_let (lc_ss s4 6 ((x2 - (1 : Int32)).toNatClampNeg) (s4 6 x2.toNatClampNeg)) (fun s5 => lc_if (lc_ok x2 12) (lc_if (lc_ok (x2 - (1 : Int32)) 12) (lc_let (lc_ss s5 7 ((x2 - (1 : Int32)).toNatClampNeg) (s5 7 x2.toNatClampNeg)) (fun s6 => lc_if (lc_ok x2 12) (lc_if (lc_ok (x2 - (1 : Int32)) 12) (lc_let (lc_ss s6 8 ((x2 - (1 : Int32)).toNatClampNeg) (s6 8 x2.toNatClampNeg)) (fun s7 => lc_if (lc_ok x2 12) (lc_if (lc_ok (x2 - (1 : Int32)) 12) (lc_let (lc_ss s7 9 ((x2 - (1 : Int32)).toNatClampNeg) (s7 9 x2.toNatClampNeg)) (fun s8 => lc_let (x2 + (1 : Int32)) (fun x2_95 => P_X0_removeLoan_17  n x1 x2_95 s8))))))))))))))))
set_option maxRecDepth 100000 in
set_option maxHeartbeats 4000000 in
theorem w_X0_removeLoan_17 {S : lc_Se} {X : lc_X} (C : lc_C X cX0_removeLoan RX0 3 none rm_X0_removeLoan) {M : lc_MM} {k0 : Nat} (hk : k0 < 19) (out : lc_St)  : ∀ (n : Nat) (x1 : Int32) (x2 : Int32) (s : lc_St), P_X0_removeLoan_17  n x1 x2 s = some out → lc_J S X 3 0 0 (lc_QV S X 0 0 (va_up M k0 out)) 17 [(0, .ref (lc_ad S (10 * k0))), (1, .int x1), (2, .int x2)] [] (va_up M k0 s) := by
  intro n
  induction n with
  | zero =>
    intro x1 x2 s h
    rw [P_X0_removeLoan_17] at h
    cases h
  | succ n ih =>
    intro x1 x2 s h
    rw [P_X0_removeLoan_17] at h
    refine lc_iload_n C (pc' := 18) 2 dX0_removeLoan_17 rfl rfl ?_
    refine lc_aload_n C (pc' := 19) 0 dX0_removeLoan_18 rfl rfl ?_
    refine lc_bg1 C (pc' := 22) (k0 := k0) hk (va_up_self _ _ _) dX0_removeLoan_19 kf_RX0_46 rfl ?_
    refine lc_icmp_ge C (pc' := 25) (tgt := 101) dX0_removeLoan_22 (by decide) rfl (fun c22 => ?_) (fun c22 => ?_)
    · have h := (lc_if2 h).1 c22
      refine lc_aload_n C (pc' := 102) 0 dX0_removeLoan_101 rfl rfl ?_
      refine lc_dup C (pc' := 103) dX0_removeLoan_102 rfl rfl ?_
      refine lc_bg1 C (pc' := 106) (k0 := k0) hk (va_up_self _ _ _) dX0_removeLoan_103 kf_RX0_46 rfl ?_
      refine lc_iconst C (pc' := 107) (v := (1 : Int32)) dX0_removeLoan_106 (by decide) rfl ?_
      refine lc_isub C (pc' := 108) dX0_removeLoan_107 rfl ?_
      obtain ⟨s1, es1, h⟩ := lc_let2 h
      refine lc_bp1 C (pc' := 111) (k0 := k0) (M' := (va_up M k0 s1)) hk (va_up_self _ _ _) es1 (lc_up_up _ _ _ _) dX0_removeLoan_108 kf_RX0_46 rfl ?_
      refine lc_aload_n C (pc' := 112) 0 dX0_removeLoan_111 rfl rfl ?_
      refine lc_bg7 C (pc' := 115) (k0 := k0) hk (va_up_self _ _ _) dX0_removeLoan_112 kf_RX0_39 rfl ?_
      refine lc_iload_n C (pc' := 116) 1 dX0_removeLoan_115 rfl rfl ?_
      refine lc_icmp_ne C (pc' := 119) (tgt := 128) dX0_removeLoan_116 (by decide) rfl (fun c116 => ?_) (fun c116 => ?_)
      · have h := (lc_if2 h).2 c116
        refine lc_aload_n C (pc' := 129) 0 dX0_removeLoan_128 rfl rfl ?_
        refine lc_bg7 C (pc' := 132) (k0 := k0) hk (va_up_self _ _ _) dX0_removeLoan_129 kf_RX0_39 rfl ?_
        refine lc_iload_n C (pc' := 133) 1 dX0_removeLoan_132 rfl rfl ?_
        refine lc_icmp_le C (pc' := 136) (tgt := 146) dX0_removeLoan_133 (by decide) rfl (fun c133 => ?_) (fun c133 => ?_)
        · have h := (lc_if2 h).1 c133
          obtain rfl := Option.some.inj h
          exact lc_vret C rfl dX0_removeLoan_146
        · have h := (lc_if2 h).2 c133
          refine lc_aload_n C (pc' := 137) 0 dX0_removeLoan_136 rfl rfl ?_
          refine lc_dup C (pc' := 138) dX0_removeLoan_137 rfl rfl ?_
          refine lc_bg7 C (pc' := 141) (k0 := k0) hk (va_up_self _ _ _) dX0_removeLoan_138 kf_RX0_39 rfl ?_
          refine lc_iconst C (pc' := 142) (v := (1 : Int32)) dX0_removeLoan_141 (by decide) rfl ?_
          refine lc_isub C (pc' := 143) dX0_removeLoan_142 rfl ?_
          obtain ⟨s2, es2, h⟩ := lc_let2 h
          refine lc_bp7 C (pc' := 146) (k0 := k0) (M' := (va_up M k0 s2)) hk (va_up_self _ _ _) es2 (lc_up_up _ _ _ _) dX0_removeLoan_143 kf_RX0_39 rfl ?_
          obtain rfl := Option.some.inj h
          exact lc_vret C rfl dX0_removeLoan_146
      · have h := (lc_if2 h).1 c116
        refine lc_aload_n C (pc' := 120) 0 dX0_removeLoan_119 rfl rfl ?_
        refine lc_bipush C (pc' := 122) (v := (-9 : Int32)) dX0_removeLoan_120 (by decide) rfl ?_
        obtain ⟨s3, es3, h⟩ := lc_let2 h
        refine lc_bp7 C (pc' := 125) (k0 := k0) (M' := (va_up M k0 s3)) hk (va_up_self _ _ _) es3 (lc_up_up _ _ _ _) dX0_removeLoan_122 kf_RX0_39 rfl ?_
        refine lc_goto C (tgt := 146) dX0_removeLoan_125 (by decide) ?_
        obtain rfl := Option.some.inj h
        exact lc_vret C rfl dX0_removeLoan_146
    · have h := (lc_if2 h).2 c22
      refine lc_aload_n C (pc' := 26) 0 dX0_removeLoan_25 rfl rfl ?_
      refine lc_br4 C (pc' := 29) (k0 := k0) hk dX0_removeLoan_26 kf_RX0_24 rfl ?_
      refine lc_iload_n C (pc' := 30) 2 dX0_removeLoan_29 rfl rfl ?_
      refine lc_iconst C (pc' := 31) (v := (1 : Int32)) dX0_removeLoan_30 (by decide) rfl ?_
      refine lc_isub C (pc' := 32) dX0_removeLoan_31 rfl ?_
      refine lc_aload_n C (pc' := 33) 0 dX0_removeLoan_32 rfl rfl ?_
      refine lc_br4 C (pc' := 36) (k0 := k0) hk dX0_removeLoan_33 kf_RX0_24 rfl ?_
      refine lc_iload_n C (pc' := 37) 2 dX0_removeLoan_36 rfl rfl ?_
      obtain ⟨hi37, h⟩ := lc_ife h
      refine lc_bald C (pc' := 38) (k0 := k0) (r := 5) (len := 12) (jj := x2.toNatClampNeg) hk (by decide) (by decide) (va_up_self _ _ _) rfl hi37 rfl dX0_removeLoan_37 rfl ?_
      obtain ⟨hi38, h⟩ := lc_ife h
      obtain ⟨s4, es4, h⟩ := lc_let2 h
      refine lc_bast C (pc' := 39) (k0 := k0) (r := 5) (len := 12) (jj := (x2 - (1 : Int32)).toNatClampNeg) (M' := (va_up M k0 s4)) hk (by decide) (by decide) (va_up_self _ _ _) rfl hi38 rfl es4 (lc_up_up _ _ _ _) dX0_removeLoan_38 rfl ?_
      refine lc_aload_n C (pc' := 40) 0 dX0_removeLoan_39 rfl rfl ?_
      refine lc_br5 C (pc' := 43) (k0 := k0) hk dX0_removeLoan_40 kf_RX0_27 rfl ?_
      refine lc_iload_n C (pc' := 44) 2 dX0_removeLoan_43 rfl rfl ?_
      refine lc_iconst C (pc' := 45) (v := (1 : Int32)) dX0_removeLoan_44 (by decide) rfl ?_
      refine lc_isub C (pc' := 46) dX0_removeLoan_45 rfl ?_
      refine lc_aload_n C (pc' := 47) 0 dX0_removeLoan_46 rfl rfl ?_
      refine lc_br5 C (pc' := 50) (k0 := k0) hk dX0_removeLoan_47 kf_RX0_27 rfl ?_
      refine lc_iload_n C (pc' := 51) 2 dX0_removeLoan_50 rfl rfl ?_
      obtain ⟨hi51, h⟩ := lc_ife h
      refine lc_bald C (pc' := 52) (k0 := k0) (r := 6) (len := 12) (jj := x2.toNatClampNeg) hk (by decide) (by decide) (va_up_self _ _ _) rfl hi51 rfl dX0_removeLoan_51 rfl ?_
      obtain ⟨hi52, h⟩ := lc_ife h
      obtain ⟨s5, es5, h⟩ := lc_let2 h
      refine lc_bast C (pc' := 53) (k0 := k0) (r := 6) (len := 12) (jj := (x2 - (1 : Int32)).toNatClampNeg) (M' := (va_up M k0 s5)) hk (by decide) (by decide) (va_up_self _ _ _) rfl hi52 rfl es5 (lc_up_up _ _ _ _) dX0_removeLoan_52 rfl ?_
      refine lc_aload_n C (pc' := 54) 0 dX0_removeLoan_53 rfl rfl ?_
      refine lc_br6 C (pc' := 57) (k0 := k0) hk dX0_removeLoan_54 kf_RX0_30 rfl ?_
      refine lc_iload_n C (pc' := 58) 2 dX0_removeLoan_57 rfl rfl ?_
      refine lc_iconst C (pc' := 59) (v := (1 : Int32)) dX0_removeLoan_58 (by decide) rfl ?_
      refine lc_isub C (pc' := 60) dX0_removeLoan_59 rfl ?_
      refine lc_aload_n C (pc' := 61) 0 dX0_removeLoan_60 rfl rfl ?_
      refine lc_br6 C (pc' := 64) (k0 := k0) hk dX0_removeLoan_61 kf_RX0_30 rfl ?_
      refine lc_iload_n C (pc' := 65) 2 dX0_removeLoan_64 rfl rfl ?_
      obtain ⟨hi65, h⟩ := lc_ife h
      refine lc_bald C (pc' := 66) (k0 := k0) (r := 7) (len := 12) (jj := x2.toNatClampNeg) hk (by decide) (by decide) (va_up_self _ _ _) rfl hi65 rfl dX0_removeLoan_65 rfl ?_
      obtain ⟨hi66, h⟩ := lc_ife h
      obtain ⟨s6, es6, h⟩ := lc_let2 h
      refine lc_bast C (pc' := 67) (k0 := k0) (r := 7) (len := 12) (jj := (x2 - (1 : Int32)).toNatClampNeg) (M' := (va_up M k0 s6)) hk (by decide) (by decide) (va_up_self _ _ _) rfl hi66 rfl es6 (lc_up_up _ _ _ _) dX0_removeLoan_66 rfl ?_
      refine lc_aload_n C (pc' := 68) 0 dX0_removeLoan_67 rfl rfl ?_
      refine lc_br7 C (pc' := 71) (k0 := k0) hk dX0_removeLoan_68 kf_RX0_33 rfl ?_
      refine lc_iload_n C (pc' := 72) 2 dX0_removeLoan_71 rfl rfl ?_
      refine lc_iconst C (pc' := 73) (v := (1 : Int32)) dX0_removeLoan_72 (by decide) rfl ?_
      refine lc_isub C (pc' := 74) dX0_removeLoan_73 rfl ?_
      refine lc_aload_n C (pc' := 75) 0 dX0_removeLoan_74 rfl rfl ?_
      refine lc_br7 C (pc' := 78) (k0 := k0) hk dX0_removeLoan_75 kf_RX0_33 rfl ?_
      refine lc_iload_n C (pc' := 79) 2 dX0_removeLoan_78 rfl rfl ?_
      obtain ⟨hi79, h⟩ := lc_ife h
      refine lc_bald C (pc' := 80) (k0 := k0) (r := 8) (len := 12) (jj := x2.toNatClampNeg) hk (by decide) (by decide) (va_up_self _ _ _) rfl hi79 rfl dX0_removeLoan_79 rfl ?_
      obtain ⟨hi80, h⟩ := lc_ife h
      obtain ⟨s7, es7, h⟩ := lc_let2 h
      refine lc_bast C (pc' := 81) (k0 := k0) (r := 8) (len := 12) (jj := (x2 - (1 : Int32)).toNatClampNeg) (M' := (va_up M k0 s7)) hk (by decide) (by decide) (va_up_self _ _ _) rfl hi80 rfl es7 (lc_up_up _ _ _ _) dX0_removeLoan_80 rfl ?_
      refine lc_aload_n C (pc' := 82) 0 dX0_removeLoan_81 rfl rfl ?_
      refine lc_br8 C (pc' := 85) (k0 := k0) hk dX0_removeLoan_82 kf_RX0_36 rfl ?_
      refine lc_iload_n C (pc' := 86) 2 dX0_removeLoan_85 rfl rfl ?_
      refine lc_iconst C (pc' := 87) (v := (1 : Int32)) dX0_removeLoan_86 (by decide) rfl ?_
      refine lc_isub C (pc' := 88) dX0_removeLoan_87 rfl ?_
      refine lc_aload_n C (pc' := 89) 0 dX0_removeLoan_88 rfl rfl ?_
      refine lc_br8 C (pc' := 92) (k0 := k0) hk dX0_removeLoan_89 kf_RX0_36 rfl ?_
      refine lc_iload_n C (pc' := 93) 2 dX0_removeLoan_92 rfl rfl ?_
      obtain ⟨hi93, h⟩ := lc_ife h
      refine lc_bald C (pc' := 94) (k0 := k0) (r := 9) (len := 12) (jj := x2.toNatClampNeg) hk (by decide) (by decide) (va_up_self _ _ _) rfl hi93 rfl dX0_removeLoan_93 rfl ?_
      obtain ⟨hi94, h⟩ := lc_ife h
      obtain ⟨s8, es8, h⟩ := lc_let2 h
      refine lc_bast C (pc' := 95) (k0 := k0) (r := 9) (len := 12) (jj := (x2 - (1 : Int32)).toNatClampNeg) (M' := (va_up M k0 s8)) hk (by decide) (by decide) (va_up_self _ _ _) rfl hi94 rfl es8 (lc_up_up _ _ _ _) dX0_removeLoan_94 rfl ?_
      obtain ⟨x2_95, e2_95, h⟩ := lc_let2 h
      refine lc_iinc C (pc' := 98) (lo' := [(2, .int x2_95), (0, .ref (lc_ad S (10 * k0))), (1, .int x1)]) (q := 2) dX0_removeLoan_95 rfl (by rw [← e2_95]; rfl) (Nat.le_of_ble_eq_true rfl) rfl rfl ?_
      refine lc_goto C (tgt := 17) dX0_removeLoan_98 (by decide) ?_
      refine lc_sub (lo' := [(0, .ref (lc_ad S (10 * k0))), (1, .int x1), (2, .int x2_95)]) [1, 2, 0] rfl ?_
      exact ih x1 x2_95 s8 h
def P_X0_removeLoan  (x1 : Int32) (s : lc_St) : Option (lc_St) :=
  if x1 < 0 then some s else if x1 < (s 0 1) then lc_let (x1 + (1 : Int32)) (fun x2_16 => P_X0_removeLoan_17  lc_FU x1 x2_16 s) else some s
set_option maxRecDepth 100000 in
set_option maxHeartbeats 4000000 in
theorem c_X0_removeLoan (S : lc_Se) (l : Launch) (M : lc_MM) {k0 : Nat} (hk : k0 < 19) (x1 : Int32) (s : lc_St) (out : lc_St) (h : P_X0_removeLoan x1 s = some out) : lc_MV S l yX0_removeLoan cX0_removeLoan 3 none rm_X0_removeLoan [.ref (lc_ad S (10 * k0)), .int x1] (va_up M k0 s)  (va_up M k0 out) := by
  refine lc_mkV (own := RX0) pn_RX0 rfl (Nat.le_of_ble_eq_true rfl) (lo := [(0, .ref (lc_ad S (10 * k0))), (1, .int x1)]) rfl (fun X hX C => ?_)
  rw [P_X0_removeLoan] at h
  refine lc_iload_n C (pc' := 1) 1 dX0_removeLoan_0 rfl rfl ?_
  refine lc_if_lt C (pc' := 4) (tgt := 12) dX0_removeLoan_1 (by decide) rfl (fun c1 => ?_) (fun c1 => ?_)
  · have h := (lc_if2 h).1 c1
    obtain rfl := Option.some.inj h
    exact lc_vret C rfl dX0_removeLoan_12
  · have h := (lc_if2 h).2 c1
    refine lc_iload_n C (pc' := 5) 1 dX0_removeLoan_4 rfl rfl ?_
    refine lc_aload_n C (pc' := 6) 0 dX0_removeLoan_5 rfl rfl ?_
    refine lc_bg1 C (pc' := 9) (k0 := k0) hk (va_up_self _ _ _) dX0_removeLoan_6 kf_RX0_46 rfl ?_
    refine lc_icmp_lt C (pc' := 12) (tgt := 13) dX0_removeLoan_9 (by decide) rfl (fun c9 => ?_) (fun c9 => ?_)
    · have h := (lc_if2 h).1 c9
      refine lc_iload_n C (pc' := 14) 1 dX0_removeLoan_13 rfl rfl ?_
      refine lc_iconst C (pc' := 15) (v := (1 : Int32)) dX0_removeLoan_14 (by decide) rfl ?_
      refine lc_iadd C (pc' := 16) dX0_removeLoan_15 rfl ?_
      obtain ⟨x2_16, e2_16, h⟩ := lc_let2 h
      rw [e2_16]
      refine lc_istore_n C (pc' := 17) (lo' := [(2, .int x2_16), (0, .ref (lc_ad S (10 * k0))), (1, .int x1)]) dX0_removeLoan_16 (Nat.le_of_ble_eq_true rfl) rfl rfl ?_
      refine lc_sub (lo' := [(0, .ref (lc_ad S (10 * k0))), (1, .int x1), (2, .int x2_16)]) [1, 2, 0] rfl ?_
      exact w_X0_removeLoan_17 C  hk out  lc_FU x1 x2_16 s h
    · have h := (lc_if2 h).2 c9
      obtain rfl := Option.some.inj h
      exact lc_vret C rfl dX0_removeLoan_12
abbrev rm_X0_payBack : Room := { frames := 3, cells := 0, slots := 0, locals := 64 }
def P_X0_payBack  (x1 : Int32) (x2 : Int32) (s : lc_St) : Option (Int32 × lc_St) :=
  lc_bd (P_X0_hasLoan x1 s) (fun r2 => if r2 = 0 then some ((-9 : Int32), s) else lc_bd (P_X0_canPayBack x1 x2 s) (fun r11 => if r11 = 0 then some ((-9 : Int32), s) else lc_if (lc_ok x1 12) (lc_if (lc_ok x1 12) (lc_bd2 (P_X0_shuttle x2 (s 6 x1.toNatClampNeg) (s 5 x1.toNatClampNeg) s) (fun r34 s1 => lc_if (lc_ok x1 12) (lc_if (lc_ok x1 12) (lc_let (lc_ss s1 7 (x1.toNatClampNeg) ((s1 7 x1.toNatClampNeg) - x2)) (fun s2 => lc_if (lc_ok x1 12) (lc_let (s2 7 x1.toNatClampNeg) (fun x3_54 => if x3_54 = 0 then lc_bd (P_X0_removeLoan x1 s2) (fun s3 => some (x3_54, s3)) else some (x3_54, s2)))))))))))
set_option maxRecDepth 100000 in
set_option maxHeartbeats 4000000 in
theorem c_X0_payBack (S : lc_Se) (l : Launch) (M : lc_MM) {k0 : Nat} (hk : k0 < 19) (x1 : Int32) (x2 : Int32) (s : lc_St) (out : Int32 × lc_St) (h : P_X0_payBack x1 x2 s = some out) : lc_MI S l yX0_payBack cX0_payBack 4 (some .int) rm_X0_payBack [.ref (lc_ad S (10 * k0)), .int x1, .int x2] (va_up M k0 s) out.1 (va_up M k0 out.2) := by
  refine lc_mkI (own := RX0) pn_RX0 rfl (Nat.le_of_ble_eq_true rfl) (lo := [(0, .ref (lc_ad S (10 * k0))), (1, .int x1), (2, .int x2)]) rfl (fun X hX C => ?_)
  rw [P_X0_payBack] at h
  refine lc_aload_n C (pc' := 1) 0 dX0_payBack_0 rfl rfl ?_
  refine lc_iload_n C (pc' := 2) 1 dX0_payBack_1 rfl rfl ?_
  obtain ⟨r2, h2, h⟩ := lc_bde h
  refine lc_cvi C (pc' := 5) (r := r2) (M' := (va_up M k0 s)) (As := [.int x1]) (rest := []) (c_X0_hasLoan S X.2.1 M (k0 := k0) hk x1 s r2 h2) kl_RX0_80 (lc_at_b S _ hk) rfl rfl rfl rfl (Nat.le_of_ble_eq_true rfl) ⟨Nat.le_of_ble_eq_true rfl, Nat.le_of_ble_eq_true rfl⟩ ⟨rfl, rfl⟩ (lc_z2 _ _) dX0_payBack_2 rfl ?_
  refine lc_if_eq C (pc' := 8) (tgt := 17) dX0_payBack_5 (by decide) rfl (fun c5 => ?_) (fun c5 => ?_)
  · have h := (lc_if2 h).1 c5
    refine lc_bipush C (pc' := 19) (v := (-9 : Int32)) dX0_payBack_17 (by decide) rfl ?_
    obtain rfl := Option.some.inj h
    exact lc_iret C rfl dX0_payBack_19
  · have h := (lc_if2 h).2 c5
    refine lc_aload_n C (pc' := 9) 0 dX0_payBack_8 rfl rfl ?_
    refine lc_iload_n C (pc' := 10) 1 dX0_payBack_9 rfl rfl ?_
    refine lc_iload_n C (pc' := 11) 2 dX0_payBack_10 rfl rfl ?_
    obtain ⟨r11, h11, h⟩ := lc_bde h
    refine lc_cvi C (pc' := 14) (r := r11) (M' := (va_up M k0 s)) (As := [.int x1, .int x2]) (rest := []) (c_X0_canPayBack S X.2.1 M (k0 := k0) hk x1 x2 s r11 h11) kl_RX0_110 (lc_at_b S _ hk) rfl rfl rfl rfl (Nat.le_of_ble_eq_true rfl) ⟨Nat.le_of_ble_eq_true rfl, Nat.le_of_ble_eq_true rfl⟩ ⟨rfl, rfl⟩ (lc_z2 _ _) dX0_payBack_11 rfl ?_
    refine lc_if_ne C (pc' := 17) (tgt := 20) dX0_payBack_14 (by decide) rfl (fun c14 => ?_) (fun c14 => ?_)
    · have h := (lc_if2 h).2 c14
      refine lc_aload_n C (pc' := 21) 0 dX0_payBack_20 rfl rfl ?_
      refine lc_iload_n C (pc' := 22) 2 dX0_payBack_21 rfl rfl ?_
      refine lc_aload_n C (pc' := 23) 0 dX0_payBack_22 rfl rfl ?_
      refine lc_br5 C (pc' := 26) (k0 := k0) hk dX0_payBack_23 kf_RX0_27 rfl ?_
      refine lc_iload_n C (pc' := 27) 1 dX0_payBack_26 rfl rfl ?_
      obtain ⟨hi27, h⟩ := lc_ife h
      refine lc_bald C (pc' := 28) (k0 := k0) (r := 6) (len := 12) (jj := x1.toNatClampNeg) hk (by decide) (by decide) (va_up_self _ _ _) rfl hi27 rfl dX0_payBack_27 rfl ?_
      refine lc_aload_n C (pc' := 29) 0 dX0_payBack_28 rfl rfl ?_
      refine lc_br4 C (pc' := 32) (k0 := k0) hk dX0_payBack_29 kf_RX0_24 rfl ?_
      refine lc_iload_n C (pc' := 33) 1 dX0_payBack_32 rfl rfl ?_
      obtain ⟨hi33, h⟩ := lc_ife h
      refine lc_bald C (pc' := 34) (k0 := k0) (r := 5) (len := 12) (jj := x1.toNatClampNeg) hk (by decide) (by decide) (va_up_self _ _ _) rfl hi33 rfl dX0_payBack_33 rfl ?_
      obtain ⟨r34, s1, h34, h⟩ := lc_bd2e h
      refine lc_cvi C (pc' := 37) (r := r34) (M' := (va_up M k0 s1)) (As := [.int x2, .int (s 6 x1.toNatClampNeg), .int (s 5 x1.toNatClampNeg)]) (rest := []) (c_X0_shuttle S X.2.1 M (k0 := k0) hk x2 (s 6 x1.toNatClampNeg) (s 5 x1.toNatClampNeg) s (r34, s1) h34) kl_RX0_107 (lc_at_b S _ hk) rfl rfl rfl rfl (Nat.le_of_ble_eq_true rfl) ⟨Nat.le_of_ble_eq_true rfl, Nat.le_of_ble_eq_true rfl⟩ ⟨rfl, rfl⟩ (lc_z2 _ _) dX0_payBack_34 rfl ?_
      refine lc_pop C (pc' := 38) dX0_payBack_37 rfl rfl ?_
      refine lc_aload_n C (pc' := 39) 0 dX0_payBack_38 rfl rfl ?_
      refine lc_br6 C (pc' := 42) (k0 := k0) hk dX0_payBack_39 kf_RX0_30 rfl ?_
      refine lc_iload_n C (pc' := 43) 1 dX0_payBack_42 rfl rfl ?_
      refine lc_dup2 C (pc' := 44) dX0_payBack_43 rfl rfl rfl ?_
      obtain ⟨hi44, h⟩ := lc_ife h
      refine lc_bald C (pc' := 45) (k0 := k0) (r := 7) (len := 12) (jj := x1.toNatClampNeg) hk (by decide) (by decide) (va_up_self _ _ _) rfl hi44 rfl dX0_payBack_44 rfl ?_
      refine lc_iload_n C (pc' := 46) 2 dX0_payBack_45 rfl rfl ?_
      refine lc_isub C (pc' := 47) dX0_payBack_46 rfl ?_
      obtain ⟨hi47, h⟩ := lc_ife h
      obtain ⟨s2, es2, h⟩ := lc_let2 h
      refine lc_bast C (pc' := 48) (k0 := k0) (r := 7) (len := 12) (jj := x1.toNatClampNeg) (M' := (va_up M k0 s2)) hk (by decide) (by decide) (va_up_self _ _ _) rfl hi47 rfl es2 (lc_up_up _ _ _ _) dX0_payBack_47 rfl ?_
      refine lc_aload_n C (pc' := 49) 0 dX0_payBack_48 rfl rfl ?_
      refine lc_br6 C (pc' := 52) (k0 := k0) hk dX0_payBack_49 kf_RX0_30 rfl ?_
      refine lc_iload_n C (pc' := 53) 1 dX0_payBack_52 rfl rfl ?_
      obtain ⟨hi53, h⟩ := lc_ife h
      refine lc_bald C (pc' := 54) (k0 := k0) (r := 7) (len := 12) (jj := x1.toNatClampNeg) hk (by decide) (by decide) (va_up_self _ _ _) rfl hi53 rfl dX0_payBack_53 rfl ?_
      obtain ⟨x3_54, e3_54, h⟩ := lc_let2 h
      rw [e3_54]
      refine lc_istore_n C (pc' := 55) (lo' := [(3, .int x3_54), (0, .ref (lc_ad S (10 * k0))), (1, .int x1), (2, .int x2)]) dX0_payBack_54 (Nat.le_of_ble_eq_true rfl) rfl rfl ?_
      refine lc_iload_n C (pc' := 56) 0 dX0_payBack_55 rfl rfl ?_
      refine lc_if_ne C (pc' := 59) (tgt := 64) dX0_payBack_56 (by decide) rfl (fun c56 => ?_) (fun c56 => ?_)
      · have h := (lc_if2 h).2 c56
        refine lc_iload_n C (pc' := 65) 0 dX0_payBack_64 rfl rfl ?_
        obtain rfl := Option.some.inj h
        exact lc_iret C rfl dX0_payBack_65
      · have h := (lc_if2 h).1 c56
        refine lc_aload_n C (pc' := 60) 1 dX0_payBack_59 rfl rfl ?_
        refine lc_iload_n C (pc' := 61) 2 dX0_payBack_60 rfl rfl ?_
        obtain ⟨s3, h61, h⟩ := lc_bde h
        refine lc_cvv C (pc' := 64) (M' := (va_up M k0 s3)) (As := [.int x1]) (rest := []) (c_X0_removeLoan S X.2.1 M (k0 := k0) hk x1 s2 s3 h61) kl_RX0_114 (lc_at_b S _ hk) rfl rfl rfl rfl (Nat.le_of_ble_eq_true rfl) ⟨Nat.le_of_ble_eq_true rfl, Nat.le_of_ble_eq_true rfl⟩ ⟨rfl, rfl⟩ (lc_z2 _ _) dX0_payBack_61 rfl ?_
        refine lc_iload_n C (pc' := 65) 0 dX0_payBack_64 rfl rfl ?_
        obtain rfl := Option.some.inj h
        exact lc_iret C rfl dX0_payBack_65
    · have h := (lc_if2 h).1 c14
      refine lc_bipush C (pc' := 19) (v := (-9 : Int32)) dX0_payBack_17 (by decide) rfl ?_
      obtain rfl := Option.some.inj h
      exact lc_iret C rfl dX0_payBack_19
abbrev rm_X0_fillEach : Room := { frames := 2, cells := 0, slots := 0, locals := 42 }
def P_X0_fillEach_59 (K4 : Int32 → Int32 → Int32 → lc_St → Option (Int32 × lc_St)) (x1 : Int32) (x2 : Int32) (x3 : Int32) (s : lc_St) : Option (Int32 × lc_St) :=
  lc_let (x3 + (1 : Int32)) (fun x3_59 => K4 x1 x2 x3_59 s)
set_option maxRecDepth 100000 in
set_option maxHeartbeats 4000000 in
theorem w_X0_fillEach_59 {S : lc_Se} {X : lc_X} (C : lc_C X cX0_fillEach RX0 5 (some .int) rm_X0_fillEach) {M : lc_MM} {k0 : Nat} (hk : k0 < 19) (out : Int32 × lc_St) (K4 : Int32 → Int32 → Int32 → lc_St → Option (Int32 × lc_St)) (hK4 : ∀ (x1 : Int32) (x2 : Int32) (x3 : Int32) (s : lc_St), K4 x1 x2 x3 s = some out → lc_J S X 5 0 0 (lc_QI S X 0 0 out.1 (va_up M k0 out.2)) 4 [(0, .ref (lc_ad S (10 * k0))), (1, .int x1), (2, .int x2), (3, .int x3)] [] (va_up M k0 s)) : ∀ (x1 : Int32) (x2 : Int32) (x3 : Int32) (s : lc_St), P_X0_fillEach_59 K4 x1 x2 x3 s = some out → lc_J S X 5 0 0 (lc_QI S X 0 0 out.1 (va_up M k0 out.2)) 59 [(0, .ref (lc_ad S (10 * k0))), (1, .int x1), (2, .int x2), (3, .int x3)] [] (va_up M k0 s) := by
  intro x1 x2 x3 s h
  rw [P_X0_fillEach_59] at h
  obtain ⟨x3_59, e3_59, h⟩ := lc_let2 h
  refine lc_iinc C (pc' := 62) (lo' := [(3, .int x3_59), (0, .ref (lc_ad S (10 * k0))), (1, .int x1), (2, .int x2)]) (q := 3) dX0_fillEach_59 rfl (by rw [← e3_59]; rfl) (Nat.le_of_ble_eq_true rfl) rfl rfl ?_
  refine lc_goto C (tgt := 4) dX0_fillEach_62 (by decide) ?_
  refine lc_sub (lo' := [(0, .ref (lc_ad S (10 * k0))), (1, .int x1), (2, .int x2), (3, .int x3_59)]) [1, 2, 3, 0] rfl ?_
  exact hK4 x1 x2 x3_59 s h
def P_X0_fillEach_4  : Nat → Int32 → Int32 → Int32 → lc_St → Option (Int32 × lc_St)
  | 0, _, _, _, _ => none
  | n + 1, x1, x2, x3, s =>
    if (s 0 0) ≤ x3 then lc_let (lc_ss s 0 5 ((s 0 5) + x2)) (fun s1 => some (x2, s1)) else lc_bd (P_X0_isBankrupt x3 s) (fun r14 => if r14 = 0 then lc_bd (P_X0_roomOf x3 s) (fun r23 => lc_let (if r23 < x1 then r23 else x1) (fun x4_29 => lc_if (lc_ok x3 8) (lc_if (lc_ok x3 8) (lc_let (lc_ss s 2 (x3.toNatClampNeg) ((s 2 x3.toNatClampNeg) + x4_29)) (fun s2 => lc_let (lc_ss s2 0 3 ((s2 0 3) + x1)) (fun s3 => lc_let (x2 + (x1 - x4_29)) (fun x2_58 => P_X0_fillEach_59 (fun x1 x2 x3 s => P_X0_fillEach_4  n x1 x2 x3 s)  x1 x2_58 x3 s3))))))) else P_X0_fillEach_59 (fun x1 x2 x3 s => P_X0_fillEach_4  n x1 x2 x3 s)  x1 x2 x3 s)
set_option maxRecDepth 100000 in
set_option maxHeartbeats 4000000 in
theorem w_X0_fillEach_4 {S : lc_Se} {X : lc_X} (C : lc_C X cX0_fillEach RX0 5 (some .int) rm_X0_fillEach) {M : lc_MM} {k0 : Nat} (hk : k0 < 19) (out : Int32 × lc_St)  : ∀ (n : Nat) (x1 : Int32) (x2 : Int32) (x3 : Int32) (s : lc_St), P_X0_fillEach_4  n x1 x2 x3 s = some out → lc_J S X 5 0 0 (lc_QI S X 0 0 out.1 (va_up M k0 out.2)) 4 [(0, .ref (lc_ad S (10 * k0))), (1, .int x1), (2, .int x2), (3, .int x3)] [] (va_up M k0 s) := by
  intro n
  induction n with
  | zero =>
    intro x1 x2 x3 s h
    rw [P_X0_fillEach_4] at h
    cases h
  | succ n ih =>
    intro x1 x2 x3 s h
    rw [P_X0_fillEach_4] at h
    refine lc_iload_n C (pc' := 5) 3 dX0_fillEach_4 rfl rfl ?_
    refine lc_aload_n C (pc' := 6) 0 dX0_fillEach_5 rfl rfl ?_
    refine lc_bg0 C (pc' := 9) (k0 := k0) hk (va_up_self _ _ _) dX0_fillEach_6 kf_RX0_43 rfl ?_
    refine lc_icmp_ge C (pc' := 12) (tgt := 65) dX0_fillEach_9 (by decide) rfl (fun c9 => ?_) (fun c9 => ?_)
    · have h := (lc_if2 h).1 c9
      refine lc_aload_n C (pc' := 66) 0 dX0_fillEach_65 rfl rfl ?_
      refine lc_dup C (pc' := 67) dX0_fillEach_66 rfl rfl ?_
      refine lc_bg5 C (pc' := 70) (k0 := k0) hk (va_up_self _ _ _) dX0_fillEach_67 kf_RX0_58 rfl ?_
      refine lc_iload_n C (pc' := 71) 2 dX0_fillEach_70 rfl rfl ?_
      refine lc_iadd C (pc' := 72) dX0_fillEach_71 rfl ?_
      obtain ⟨s1, es1, h⟩ := lc_let2 h
      refine lc_bp5 C (pc' := 75) (k0 := k0) (M' := (va_up M k0 s1)) hk (va_up_self _ _ _) es1 (lc_up_up _ _ _ _) dX0_fillEach_72 kf_RX0_58 rfl ?_
      refine lc_iload_n C (pc' := 76) 2 dX0_fillEach_75 rfl rfl ?_
      obtain rfl := Option.some.inj h
      exact lc_iret C rfl dX0_fillEach_76
    · have h := (lc_if2 h).2 c9
      refine lc_aload_n C (pc' := 13) 0 dX0_fillEach_12 rfl rfl ?_
      refine lc_iload_n C (pc' := 14) 3 dX0_fillEach_13 rfl rfl ?_
      obtain ⟨r14, h14, h⟩ := lc_bde h
      refine lc_cvi C (pc' := 17) (r := r14) (M' := (va_up M k0 s)) (As := [.int x3]) (rest := []) (c_X0_isBankrupt S X.2.1 M (k0 := k0) hk x3 s r14 h14) kl_RX0_77 (lc_at_b S _ hk) rfl rfl rfl rfl (Nat.le_of_ble_eq_true rfl) ⟨Nat.le_of_ble_eq_true rfl, Nat.le_of_ble_eq_true rfl⟩ ⟨rfl, rfl⟩ (lc_z2 _ _) dX0_fillEach_14 rfl ?_
      refine lc_if_ne C (pc' := 20) (tgt := 59) dX0_fillEach_17 (by decide) rfl (fun c17 => ?_) (fun c17 => ?_)
      · have h := (lc_if2 h).2 c17
        exact w_X0_fillEach_59 C  hk out (fun x1 x2 x3 s => P_X0_fillEach_4  n x1 x2 x3 s) ih  x1 x2 x3 s h
      · have h := (lc_if2 h).1 c17
        refine lc_iload_n C (pc' := 21) 1 dX0_fillEach_20 rfl rfl ?_
        refine lc_aload_n C (pc' := 22) 0 dX0_fillEach_21 rfl rfl ?_
        refine lc_iload_n C (pc' := 23) 3 dX0_fillEach_22 rfl rfl ?_
        obtain ⟨r23, h23, h⟩ := lc_bde h
        refine lc_cvi C (pc' := 26) (r := r23) (M' := (va_up M k0 s)) (As := [.int x3]) (rest := [.int x1]) (c_X0_roomOf S X.2.1 M (k0 := k0) hk x3 s r23 h23) kl_RX0_100 (lc_at_b S _ hk) rfl rfl rfl rfl (Nat.le_of_ble_eq_true rfl) ⟨Nat.le_of_ble_eq_true rfl, Nat.le_of_ble_eq_true rfl⟩ ⟨rfl, rfl⟩ (lc_z2 _ _) dX0_fillEach_23 rfl ?_
        refine lc_min C (pc' := 29) kl_RX0_121.1.1 ⟨kl_RX0_121.1.2.1, kl_RX0_121.1.2.2.1, kl_RX0_121.1.2.2.2⟩ ⟨Nat.le_of_ble_eq_true rfl, Nat.le_of_ble_eq_true rfl, Nat.zero_le _, Nat.zero_le _⟩ dX0_fillEach_26 rfl ?_
        obtain ⟨x4_29, e4_29, h⟩ := lc_let2 h
        rw [e4_29]
        refine lc_istore C (pc' := 31) (lo' := [(4, .int x4_29), (0, .ref (lc_ad S (10 * k0))), (1, .int x1), (2, .int x2), (3, .int x3)]) dX0_fillEach_29 (Nat.le_of_ble_eq_true rfl) rfl rfl ?_
        refine lc_aload_n C (pc' := 32) 1 dX0_fillEach_31 rfl rfl ?_
        refine lc_br1 C (pc' := 35) (k0 := k0) hk dX0_fillEach_32 kf_RX0_15 rfl ?_
        refine lc_iload_n C (pc' := 36) 4 dX0_fillEach_35 rfl rfl ?_
        refine lc_dup2 C (pc' := 37) dX0_fillEach_36 rfl rfl rfl ?_
        obtain ⟨hi37, h⟩ := lc_ife h
        refine lc_bald C (pc' := 38) (k0 := k0) (r := 2) (len := 8) (jj := x3.toNatClampNeg) hk (by decide) (by decide) (va_up_self _ _ _) rfl hi37 rfl dX0_fillEach_37 rfl ?_
        refine lc_iload C (pc' := 40) 0 dX0_fillEach_38 rfl rfl ?_
        refine lc_iadd C (pc' := 41) dX0_fillEach_40 rfl ?_
        obtain ⟨hi41, h⟩ := lc_ife h
        obtain ⟨s2, es2, h⟩ := lc_let2 h
        refine lc_bast C (pc' := 42) (k0 := k0) (r := 2) (len := 8) (jj := x3.toNatClampNeg) (M' := (va_up M k0 s2)) hk (by decide) (by decide) (va_up_self _ _ _) rfl hi41 rfl es2 (lc_up_up _ _ _ _) dX0_fillEach_41 rfl ?_
        refine lc_aload_n C (pc' := 43) 1 dX0_fillEach_42 rfl rfl ?_
        refine lc_dup C (pc' := 44) dX0_fillEach_43 rfl rfl ?_
        refine lc_bg3 C (pc' := 47) (k0 := k0) hk (va_up_self _ _ _) dX0_fillEach_44 kf_RX0_52 rfl ?_
        refine lc_iload_n C (pc' := 48) 2 dX0_fillEach_47 rfl rfl ?_
        refine lc_iadd C (pc' := 49) dX0_fillEach_48 rfl ?_
        obtain ⟨s3, es3, h⟩ := lc_let2 h
        refine lc_bp3 C (pc' := 52) (k0 := k0) (M' := (va_up M k0 s3)) hk (va_up_self _ _ _) es3 (lc_up_up _ _ _ _) dX0_fillEach_49 kf_RX0_52 rfl ?_
        refine lc_iload_n C (pc' := 53) 3 dX0_fillEach_52 rfl rfl ?_
        refine lc_iload_n C (pc' := 54) 2 dX0_fillEach_53 rfl rfl ?_
        refine lc_iload C (pc' := 56) 0 dX0_fillEach_54 rfl rfl ?_
        refine lc_isub C (pc' := 57) dX0_fillEach_56 rfl ?_
        refine lc_iadd C (pc' := 58) dX0_fillEach_57 rfl ?_
        obtain ⟨x2_58, e2_58, h⟩ := lc_let2 h
        rw [e2_58]
        refine lc_istore_n C (pc' := 59) (lo' := [(2, .int x2_58), (4, .int x4_29), (0, .ref (lc_ad S (10 * k0))), (1, .int x1), (3, .int x3)]) dX0_fillEach_58 (Nat.le_of_ble_eq_true rfl) rfl rfl ?_
        refine lc_sub (lo' := [(0, .ref (lc_ad S (10 * k0))), (1, .int x1), (2, .int x2_58), (3, .int x3)]) [2, 3, 0, 4] rfl ?_
        exact w_X0_fillEach_59 C  hk out (fun x1 x2 x3 s => P_X0_fillEach_4  n x1 x2 x3 s) ih  x1 x2_58 x3 s3 h
def P_X0_fillEach  (x1 : Int32) (s : lc_St) : Option (Int32 × lc_St) :=
  P_X0_fillEach_4  lc_FU x1 (0 : Int32) (0 : Int32) s
set_option maxRecDepth 100000 in
set_option maxHeartbeats 4000000 in
theorem c_X0_fillEach (S : lc_Se) (l : Launch) (M : lc_MM) {k0 : Nat} (hk : k0 < 19) (x1 : Int32) (s : lc_St) (out : Int32 × lc_St) (h : P_X0_fillEach x1 s = some out) : lc_MI S l yX0_fillEach cX0_fillEach 5 (some .int) rm_X0_fillEach [.ref (lc_ad S (10 * k0)), .int x1] (va_up M k0 s) out.1 (va_up M k0 out.2) := by
  refine lc_mkI (own := RX0) pn_RX0 rfl (Nat.le_of_ble_eq_true rfl) (lo := [(0, .ref (lc_ad S (10 * k0))), (1, .int x1)]) rfl (fun X hX C => ?_)
  rw [P_X0_fillEach] at h
  refine lc_iconst C (pc' := 1) (v := (0 : Int32)) dX0_fillEach_0 (by decide) rfl ?_
  refine lc_istore_n C (pc' := 2) (lo' := [(2, .int (0 : Int32)), (0, .ref (lc_ad S (10 * k0))), (1, .int x1)]) dX0_fillEach_1 (Nat.le_of_ble_eq_true rfl) rfl rfl ?_
  refine lc_iconst C (pc' := 3) (v := (0 : Int32)) dX0_fillEach_2 (by decide) rfl ?_
  refine lc_istore_n C (pc' := 4) (lo' := [(3, .int (0 : Int32)), (2, .int (0 : Int32)), (0, .ref (lc_ad S (10 * k0))), (1, .int x1)]) dX0_fillEach_3 (Nat.le_of_ble_eq_true rfl) rfl rfl ?_
  refine lc_sub (lo' := [(0, .ref (lc_ad S (10 * k0))), (1, .int x1), (2, .int (0 : Int32)), (3, .int (0 : Int32))]) [2, 3, 1, 0] rfl ?_
  exact w_X0_fillEach_4 C  hk out  lc_FU x1 (0 : Int32) (0 : Int32) s h
abbrev rm_X0_fullestOther : Room := { frames := 2, cells := 0, slots := 0, locals := 42 }
def P_X0_fullestOther_51 (K5 : Int32 → Int32 → Int32 → lc_St → Option (Int32)) (x1 : Int32) (x2 : Int32) (x3 : Int32) (s : lc_St) : Option (Int32) :=
  lc_let (x3 + (1 : Int32)) (fun x3_51 => K5 x1 x2 x3_51 s)
set_option maxRecDepth 100000 in
set_option maxHeartbeats 4000000 in
theorem w_X0_fullestOther_51 {S : lc_Se} {X : lc_X} (C : lc_C X cX0_fullestOther RX0 4 (some .int) rm_X0_fullestOther) {M : lc_MM} {k0 : Nat} (hk : k0 < 19) (out : Int32) (K5 : Int32 → Int32 → Int32 → lc_St → Option (Int32)) (hK5 : ∀ (x1 : Int32) (x2 : Int32) (x3 : Int32) (s : lc_St), K5 x1 x2 x3 s = some out → lc_J S X 4 0 0 (lc_QI S X 0 0 out (va_up M k0 s)) 5 [(0, .ref (lc_ad S (10 * k0))), (1, .int x1), (2, .int x2), (3, .int x3)] [] (va_up M k0 s)) : ∀ (x1 : Int32) (x2 : Int32) (x3 : Int32) (s : lc_St), P_X0_fullestOther_51 K5 x1 x2 x3 s = some out → lc_J S X 4 0 0 (lc_QI S X 0 0 out (va_up M k0 s)) 51 [(0, .ref (lc_ad S (10 * k0))), (1, .int x1), (2, .int x2), (3, .int x3)] [] (va_up M k0 s) := by
  intro x1 x2 x3 s h
  rw [P_X0_fullestOther_51] at h
  obtain ⟨x3_51, e3_51, h⟩ := lc_let2 h
  refine lc_iinc C (pc' := 54) (lo' := [(3, .int x3_51), (0, .ref (lc_ad S (10 * k0))), (1, .int x1), (2, .int x2)]) (q := 3) dX0_fullestOther_51 rfl (by rw [← e3_51]; rfl) (Nat.le_of_ble_eq_true rfl) rfl rfl ?_
  refine lc_goto C (tgt := 5) dX0_fullestOther_54 (by decide) ?_
  refine lc_sub (lo' := [(0, .ref (lc_ad S (10 * k0))), (1, .int x1), (2, .int x2), (3, .int x3_51)]) [1, 2, 3, 0] rfl ?_
  exact hK5 x1 x2 x3_51 s h
def P_X0_fullestOther_49 (K5 : Int32 → Int32 → Int32 → lc_St → Option (Int32)) (x1 : Int32) (x3 : Int32) (s : lc_St) : Option (Int32) :=
  P_X0_fullestOther_51 K5  x1 x3 x3 s
set_option maxRecDepth 100000 in
set_option maxHeartbeats 4000000 in
theorem w_X0_fullestOther_49 {S : lc_Se} {X : lc_X} (C : lc_C X cX0_fullestOther RX0 4 (some .int) rm_X0_fullestOther) {M : lc_MM} {k0 : Nat} (hk : k0 < 19) (out : Int32) (K5 : Int32 → Int32 → Int32 → lc_St → Option (Int32)) (hK5 : ∀ (x1 : Int32) (x2 : Int32) (x3 : Int32) (s : lc_St), K5 x1 x2 x3 s = some out → lc_J S X 4 0 0 (lc_QI S X 0 0 out (va_up M k0 s)) 5 [(0, .ref (lc_ad S (10 * k0))), (1, .int x1), (2, .int x2), (3, .int x3)] [] (va_up M k0 s)) : ∀ (x1 : Int32) (x3 : Int32) (s : lc_St), P_X0_fullestOther_49 K5 x1 x3 s = some out → lc_J S X 4 0 0 (lc_QI S X 0 0 out (va_up M k0 s)) 49 [(0, .ref (lc_ad S (10 * k0))), (1, .int x1), (3, .int x3)] [] (va_up M k0 s) := by
  intro x1 x3 s h
  rw [P_X0_fullestOther_49] at h
  refine lc_iload_n C (pc' := 50) 2 dX0_fullestOther_49 rfl rfl ?_
  refine lc_istore_n C (pc' := 51) (lo' := [(2, .int x3), (0, .ref (lc_ad S (10 * k0))), (1, .int x1), (3, .int x3)]) dX0_fullestOther_50 (Nat.le_of_ble_eq_true rfl) rfl rfl ?_
  refine lc_sub (lo' := [(0, .ref (lc_ad S (10 * k0))), (1, .int x1), (2, .int x3), (3, .int x3)]) [1, 2, 0, 3] rfl ?_
  exact w_X0_fullestOther_51 C  hk out K5 hK5  x1 x3 x3 s h
def P_X0_fullestOther_5  : Nat → Int32 → Int32 → Int32 → lc_St → Option (Int32)
  | 0, _, _, _, _ => none
  | n + 1, x1, x2, x3, s =>
    if (s 0 0) ≤ x3 then some x2 else if x3 = x1 then P_X0_fullestOther_51 (fun x1 x2 x3 s => P_X0_fullestOther_5  n x1 x2 x3 s)  x1 x2 x3 s else lc_bd (P_X0_isBankrupt x3 s) (fun r20 => if r20 = 0 then if x2 = (-9 : Int32) then P_X0_fullestOther_49 (fun x1 x2 x3 s => P_X0_fullestOther_5  n x1 x2 x3 s)  x1 x3 s else lc_if (lc_ok x3 8) (lc_bd (P_X0_chargeOf x2 s) (fun r43 => if (s 2 x3.toNatClampNeg) ≤ r43 then P_X0_fullestOther_51 (fun x1 x2 x3 s => P_X0_fullestOther_5  n x1 x2 x3 s)  x1 x2 x3 s else P_X0_fullestOther_49 (fun x1 x2 x3 s => P_X0_fullestOther_5  n x1 x2 x3 s)  x1 x3 s)) else P_X0_fullestOther_51 (fun x1 x2 x3 s => P_X0_fullestOther_5  n x1 x2 x3 s)  x1 x2 x3 s)
set_option maxRecDepth 100000 in
set_option maxHeartbeats 4000000 in
theorem w_X0_fullestOther_5 {S : lc_Se} {X : lc_X} (C : lc_C X cX0_fullestOther RX0 4 (some .int) rm_X0_fullestOther) {M : lc_MM} {k0 : Nat} (hk : k0 < 19) (out : Int32)  : ∀ (n : Nat) (x1 : Int32) (x2 : Int32) (x3 : Int32) (s : lc_St), P_X0_fullestOther_5  n x1 x2 x3 s = some out → lc_J S X 4 0 0 (lc_QI S X 0 0 out (va_up M k0 s)) 5 [(0, .ref (lc_ad S (10 * k0))), (1, .int x1), (2, .int x2), (3, .int x3)] [] (va_up M k0 s) := by
  intro n
  induction n with
  | zero =>
    intro x1 x2 x3 s h
    rw [P_X0_fullestOther_5] at h
    cases h
  | succ n ih =>
    intro x1 x2 x3 s h
    rw [P_X0_fullestOther_5] at h
    refine lc_iload_n C (pc' := 6) 3 dX0_fullestOther_5 rfl rfl ?_
    refine lc_aload_n C (pc' := 7) 0 dX0_fullestOther_6 rfl rfl ?_
    refine lc_bg0 C (pc' := 10) (k0 := k0) hk (va_up_self _ _ _) dX0_fullestOther_7 kf_RX0_43 rfl ?_
    refine lc_icmp_ge C (pc' := 13) (tgt := 57) dX0_fullestOther_10 (by decide) rfl (fun c10 => ?_) (fun c10 => ?_)
    · have h := (lc_if2 h).1 c10
      refine lc_iload_n C (pc' := 58) 2 dX0_fullestOther_57 rfl rfl ?_
      obtain rfl := Option.some.inj h
      exact lc_iret C rfl dX0_fullestOther_58
    · have h := (lc_if2 h).2 c10
      refine lc_iload_n C (pc' := 14) 3 dX0_fullestOther_13 rfl rfl ?_
      refine lc_iload_n C (pc' := 15) 1 dX0_fullestOther_14 rfl rfl ?_
      refine lc_icmp_eq C (pc' := 18) (tgt := 51) dX0_fullestOther_15 (by decide) rfl (fun c15 => ?_) (fun c15 => ?_)
      · have h := (lc_if2 h).1 c15
        exact w_X0_fullestOther_51 C  hk out (fun x1 x2 x3 s => P_X0_fullestOther_5  n x1 x2 x3 s) ih  x1 x2 x3 s h
      · have h := (lc_if2 h).2 c15
        refine lc_aload_n C (pc' := 19) 0 dX0_fullestOther_18 rfl rfl ?_
        refine lc_iload_n C (pc' := 20) 3 dX0_fullestOther_19 rfl rfl ?_
        obtain ⟨r20, h20, h⟩ := lc_bde h
        refine lc_cvi C (pc' := 23) (r := r20) (M' := (va_up M k0 s)) (As := [.int x3]) (rest := []) (c_X0_isBankrupt S X.2.1 M (k0 := k0) hk x3 s r20 h20) kl_RX0_77 (lc_at_b S _ hk) rfl rfl rfl rfl (Nat.le_of_ble_eq_true rfl) ⟨Nat.le_of_ble_eq_true rfl, Nat.le_of_ble_eq_true rfl⟩ ⟨rfl, rfl⟩ (lc_z2 _ _) dX0_fullestOther_20 rfl ?_
        refine lc_if_eq C (pc' := 26) (tgt := 29) dX0_fullestOther_23 (by decide) rfl (fun c23 => ?_) (fun c23 => ?_)
        · have h := (lc_if2 h).1 c23
          refine lc_iload_n C (pc' := 30) 2 dX0_fullestOther_29 rfl rfl ?_
          refine lc_bipush C (pc' := 32) (v := (-9 : Int32)) dX0_fullestOther_30 (by decide) rfl ?_
          refine lc_icmp_eq C (pc' := 35) (tgt := 49) dX0_fullestOther_32 (by decide) rfl (fun c32 => ?_) (fun c32 => ?_)
          · have h := (lc_if2 h).1 c32
            refine lc_sub (lo' := [(0, .ref (lc_ad S (10 * k0))), (1, .int x1), (3, .int x3)]) [0, 1, 3] rfl ?_
            exact w_X0_fullestOther_49 C  hk out (fun x1 x2 x3 s => P_X0_fullestOther_5  n x1 x2 x3 s) ih  x1 x3 s h
          · have h := (lc_if2 h).2 c32
            refine lc_aload_n C (pc' := 36) 0 dX0_fullestOther_35 rfl rfl ?_
            refine lc_br1 C (pc' := 39) (k0 := k0) hk dX0_fullestOther_36 kf_RX0_15 rfl ?_
            refine lc_iload_n C (pc' := 40) 3 dX0_fullestOther_39 rfl rfl ?_
            obtain ⟨hi40, h⟩ := lc_ife h
            refine lc_bald C (pc' := 41) (k0 := k0) (r := 2) (len := 8) (jj := x3.toNatClampNeg) hk (by decide) (by decide) (va_up_self _ _ _) rfl hi40 rfl dX0_fullestOther_40 rfl ?_
            refine lc_aload_n C (pc' := 42) 0 dX0_fullestOther_41 rfl rfl ?_
            refine lc_iload_n C (pc' := 43) 2 dX0_fullestOther_42 rfl rfl ?_
            obtain ⟨r43, h43, h⟩ := lc_bde h
            refine lc_cvi C (pc' := 46) (r := r43) (M' := (va_up M k0 s)) (As := [.int x2]) (rest := [.int (s 2 x3.toNatClampNeg)]) (c_X0_chargeOf S X.2.1 M (k0 := k0) hk x2 s r43 h43) kl_RX0_93 (lc_at_b S _ hk) rfl rfl rfl rfl (Nat.le_of_ble_eq_true rfl) ⟨Nat.le_of_ble_eq_true rfl, Nat.le_of_ble_eq_true rfl⟩ ⟨rfl, rfl⟩ (lc_z2 _ _) dX0_fullestOther_43 rfl ?_
            refine lc_icmp_le C (pc' := 49) (tgt := 51) dX0_fullestOther_46 (by decide) rfl (fun c46 => ?_) (fun c46 => ?_)
            · have h := (lc_if2 h).1 c46
              exact w_X0_fullestOther_51 C  hk out (fun x1 x2 x3 s => P_X0_fullestOther_5  n x1 x2 x3 s) ih  x1 x2 x3 s h
            · have h := (lc_if2 h).2 c46
              refine lc_sub (lo' := [(0, .ref (lc_ad S (10 * k0))), (1, .int x1), (3, .int x3)]) [0, 1, 3] rfl ?_
              exact w_X0_fullestOther_49 C  hk out (fun x1 x2 x3 s => P_X0_fullestOther_5  n x1 x2 x3 s) ih  x1 x3 s h
        · have h := (lc_if2 h).2 c23
          refine lc_goto C (tgt := 51) dX0_fullestOther_26 (by decide) ?_
          exact w_X0_fullestOther_51 C  hk out (fun x1 x2 x3 s => P_X0_fullestOther_5  n x1 x2 x3 s) ih  x1 x2 x3 s h
def P_X0_fullestOther  (x1 : Int32) (s : lc_St) : Option (Int32) :=
  P_X0_fullestOther_5  lc_FU x1 (-9 : Int32) (0 : Int32) s
set_option maxRecDepth 100000 in
set_option maxHeartbeats 4000000 in
theorem c_X0_fullestOther (S : lc_Se) (l : Launch) (M : lc_MM) {k0 : Nat} (hk : k0 < 19) (x1 : Int32) (s : lc_St) (out : Int32) (h : P_X0_fullestOther x1 s = some out) : lc_MI S l yX0_fullestOther cX0_fullestOther 4 (some .int) rm_X0_fullestOther [.ref (lc_ad S (10 * k0)), .int x1] (va_up M k0 s) out (va_up M k0 s) := by
  refine lc_mkI (own := RX0) pn_RX0 rfl (Nat.le_of_ble_eq_true rfl) (lo := [(0, .ref (lc_ad S (10 * k0))), (1, .int x1)]) rfl (fun X hX C => ?_)
  rw [P_X0_fullestOther] at h
  refine lc_bipush C (pc' := 2) (v := (-9 : Int32)) dX0_fullestOther_0 (by decide) rfl ?_
  refine lc_istore_n C (pc' := 3) (lo' := [(2, .int (-9 : Int32)), (0, .ref (lc_ad S (10 * k0))), (1, .int x1)]) dX0_fullestOther_2 (Nat.le_of_ble_eq_true rfl) rfl rfl ?_
  refine lc_iconst C (pc' := 4) (v := (0 : Int32)) dX0_fullestOther_3 (by decide) rfl ?_
  refine lc_istore_n C (pc' := 5) (lo' := [(3, .int (0 : Int32)), (2, .int (-9 : Int32)), (0, .ref (lc_ad S (10 * k0))), (1, .int x1)]) dX0_fullestOther_4 (Nat.le_of_ble_eq_true rfl) rfl rfl ?_
  refine lc_sub (lo' := [(0, .ref (lc_ad S (10 * k0))), (1, .int x1), (2, .int (-9 : Int32)), (3, .int (0 : Int32))]) [2, 3, 1, 0] rfl ?_
  exact w_X0_fullestOther_5 C  hk out  lc_FU x1 (-9 : Int32) (0 : Int32) s h
abbrev rm_X0_borrowUpTo : Room := { frames := 4, cells := 0, slots := 0, locals := 90 }
def P_X0_borrowUpTo  (x1 : Int32) (x2 : Int32) (s : lc_St) : Option (Int32 × lc_St) :=
  lc_bd (P_X0_fullestOther x1 s) (fun r2 => if r2 = (-9 : Int32) then some ((0 : Int32), s) else lc_bd (P_X0_chargeOf x1 s) (fun r18 => lc_bd (P_X0_sizeToBring (x2 - r18) r2 x1 s) (fun r24 => lc_bd (P_X0_chargeOf r2 s) (fun r31 => if (r31 - r24) < x2 then some ((0 : Int32), s) else lc_bd2 (P_X0_makeLoan r2 x1 r24 (10 : Int32) s) (fun r48 s1 => if r48 = (-9 : Int32) then some ((0 : Int32), s1) else some ((1 : Int32), s1))))))
set_option maxRecDepth 100000 in
set_option maxHeartbeats 4000000 in
theorem c_X0_borrowUpTo (S : lc_Se) (l : Launch) (M : lc_MM) {k0 : Nat} (hk : k0 < 19) (x1 : Int32) (x2 : Int32) (s : lc_St) (out : Int32 × lc_St) (h : P_X0_borrowUpTo x1 x2 s = some out) : lc_MI S l yX0_borrowUpTo cX0_borrowUpTo 5 (some .boolean) rm_X0_borrowUpTo [.ref (lc_ad S (10 * k0)), .int x1, .int x2] (va_up M k0 s) out.1 (va_up M k0 out.2) := by
  refine lc_mkI (own := RX0) pn_RX0 rfl (Nat.le_of_ble_eq_true rfl) (lo := [(0, .ref (lc_ad S (10 * k0))), (1, .int x1), (2, .int x2)]) rfl (fun X hX C => ?_)
  rw [P_X0_borrowUpTo] at h
  refine lc_aload_n C (pc' := 1) 0 dX0_borrowUpTo_0 rfl rfl ?_
  refine lc_iload_n C (pc' := 2) 1 dX0_borrowUpTo_1 rfl rfl ?_
  obtain ⟨r2, h2, h⟩ := lc_bde h
  refine lc_cvi C (pc' := 5) (r := r2) (M' := (va_up M k0 s)) (As := [.int x1]) (rest := []) (c_X0_fullestOther S X.2.1 M (k0 := k0) hk x1 s r2 h2) kl_RX0_130 (lc_at_b S _ hk) rfl rfl rfl rfl (Nat.le_of_ble_eq_true rfl) ⟨Nat.le_of_ble_eq_true rfl, Nat.le_of_ble_eq_true rfl⟩ ⟨rfl, rfl⟩ (lc_z2 _ _) dX0_borrowUpTo_2 rfl ?_
  refine lc_istore_n C (pc' := 6) (lo' := [(3, .int r2), (0, .ref (lc_ad S (10 * k0))), (1, .int x1), (2, .int x2)]) dX0_borrowUpTo_5 (Nat.le_of_ble_eq_true rfl) rfl rfl ?_
  refine lc_iload_n C (pc' := 7) 0 dX0_borrowUpTo_6 rfl rfl ?_
  refine lc_bipush C (pc' := 9) (v := (-9 : Int32)) dX0_borrowUpTo_7 (by decide) rfl ?_
  refine lc_icmp_ne C (pc' := 12) (tgt := 14) dX0_borrowUpTo_9 (by decide) rfl (fun c9 => ?_) (fun c9 => ?_)
  · have h := (lc_if2 h).2 c9
    refine lc_aload_n C (pc' := 15) 1 dX0_borrowUpTo_14 rfl rfl ?_
    refine lc_iload_n C (pc' := 16) 3 dX0_borrowUpTo_15 rfl rfl ?_
    refine lc_aload_n C (pc' := 17) 1 dX0_borrowUpTo_16 rfl rfl ?_
    refine lc_iload_n C (pc' := 18) 2 dX0_borrowUpTo_17 rfl rfl ?_
    obtain ⟨r18, h18, h⟩ := lc_bde h
    refine lc_cvi C (pc' := 21) (r := r18) (M' := (va_up M k0 s)) (As := [.int x1]) (rest := [.int x2, .ref (lc_ad S (10 * k0))]) (c_X0_chargeOf S X.2.1 M (k0 := k0) hk x1 s r18 h18) kl_RX0_93 (lc_at_b S _ hk) rfl rfl rfl rfl (Nat.le_of_ble_eq_true rfl) ⟨Nat.le_of_ble_eq_true rfl, Nat.le_of_ble_eq_true rfl⟩ ⟨rfl, rfl⟩ (lc_z2 _ _) dX0_borrowUpTo_18 rfl ?_
    refine lc_isub C (pc' := 22) dX0_borrowUpTo_21 rfl ?_
    refine lc_iload_n C (pc' := 23) 0 dX0_borrowUpTo_22 rfl rfl ?_
    refine lc_iload_n C (pc' := 24) 2 dX0_borrowUpTo_23 rfl rfl ?_
    obtain ⟨r24, h24, h⟩ := lc_bde h
    refine lc_cvi C (pc' := 27) (r := r24) (M' := (va_up M k0 s)) (As := [.int (x2 - r18), .int r2, .int x1]) (rest := []) (c_X0_sizeToBring S X.2.1 M (k0 := k0) hk (x2 - r18) r2 x1 s r24 h24) kl_RX0_118 (lc_at_b S _ hk) rfl rfl rfl rfl (Nat.le_of_ble_eq_true rfl) ⟨Nat.le_of_ble_eq_true rfl, Nat.le_of_ble_eq_true rfl⟩ ⟨rfl, rfl⟩ (lc_z2 _ _) dX0_borrowUpTo_24 rfl ?_
    refine lc_istore C (pc' := 29) (lo' := [(4, .int r24), (3, .int r2), (0, .ref (lc_ad S (10 * k0))), (1, .int x1), (2, .int x2)]) dX0_borrowUpTo_27 (Nat.le_of_ble_eq_true rfl) rfl rfl ?_
    refine lc_aload_n C (pc' := 30) 2 dX0_borrowUpTo_29 rfl rfl ?_
    refine lc_iload_n C (pc' := 31) 1 dX0_borrowUpTo_30 rfl rfl ?_
    obtain ⟨r31, h31, h⟩ := lc_bde h
    refine lc_cvi C (pc' := 34) (r := r31) (M' := (va_up M k0 s)) (As := [.int r2]) (rest := []) (c_X0_chargeOf S X.2.1 M (k0 := k0) hk r2 s r31 h31) kl_RX0_93 (lc_at_b S _ hk) rfl rfl rfl rfl (Nat.le_of_ble_eq_true rfl) ⟨Nat.le_of_ble_eq_true rfl, Nat.le_of_ble_eq_true rfl⟩ ⟨rfl, rfl⟩ (lc_z2 _ _) dX0_borrowUpTo_31 rfl ?_
    refine lc_iload C (pc' := 36) 0 dX0_borrowUpTo_34 rfl rfl ?_
    refine lc_isub C (pc' := 37) dX0_borrowUpTo_36 rfl ?_
    refine lc_iload_n C (pc' := 38) 4 dX0_borrowUpTo_37 rfl rfl ?_
    refine lc_icmp_lt C (pc' := 41) (tgt := 60) dX0_borrowUpTo_38 (by decide) rfl (fun c38 => ?_) (fun c38 => ?_)
    · have h := (lc_if2 h).1 c38
      refine lc_iconst C (pc' := 61) (v := (0 : Int32)) dX0_borrowUpTo_60 (by decide) rfl ?_
      obtain rfl := Option.some.inj h
      exact lc_zret C rfl (Or.inl rfl) dX0_borrowUpTo_61
    · have h := (lc_if2 h).2 c38
      refine lc_aload_n C (pc' := 42) 2 dX0_borrowUpTo_41 rfl rfl ?_
      refine lc_iload_n C (pc' := 43) 1 dX0_borrowUpTo_42 rfl rfl ?_
      refine lc_iload_n C (pc' := 44) 3 dX0_borrowUpTo_43 rfl rfl ?_
      refine lc_iload C (pc' := 46) 0 dX0_borrowUpTo_44 rfl rfl ?_
      refine lc_bipush C (pc' := 48) (v := (10 : Int32)) dX0_borrowUpTo_46 (by decide) rfl ?_
      obtain ⟨r48, s1, h48, h⟩ := lc_bd2e h
      refine lc_cvi C (pc' := 51) (r := r48) (M' := (va_up M k0 s1)) (As := [.int r2, .int x1, .int r24, .int (10 : Int32)]) (rest := []) (c_X0_makeLoan S X.2.1 M (k0 := k0) hk r2 x1 r24 (10 : Int32) s (r48, s1) h48) kl_RX0_133 (lc_at_b S _ hk) rfl rfl rfl rfl (Nat.le_of_ble_eq_true rfl) ⟨Nat.le_of_ble_eq_true rfl, Nat.le_of_ble_eq_true rfl⟩ ⟨rfl, rfl⟩ (lc_z2 _ _) dX0_borrowUpTo_48 rfl ?_
      refine lc_bipush C (pc' := 53) (v := (-9 : Int32)) dX0_borrowUpTo_51 (by decide) rfl ?_
      refine lc_icmp_eq C (pc' := 56) (tgt := 60) dX0_borrowUpTo_53 (by decide) rfl (fun c53 => ?_) (fun c53 => ?_)
      · have h := (lc_if2 h).1 c53
        refine lc_iconst C (pc' := 61) (v := (0 : Int32)) dX0_borrowUpTo_60 (by decide) rfl ?_
        obtain rfl := Option.some.inj h
        exact lc_zret C rfl (Or.inl rfl) dX0_borrowUpTo_61
      · have h := (lc_if2 h).2 c53
        refine lc_iconst C (pc' := 57) (v := (1 : Int32)) dX0_borrowUpTo_56 (by decide) rfl ?_
        refine lc_goto C (tgt := 61) dX0_borrowUpTo_57 (by decide) ?_
        obtain rfl := Option.some.inj h
        exact lc_zret C rfl (Or.inr rfl) dX0_borrowUpTo_61
  · have h := (lc_if2 h).1 c9
    refine lc_iconst C (pc' := 13) (v := (0 : Int32)) dX0_borrowUpTo_12 (by decide) rfl ?_
    obtain rfl := Option.some.inj h
    exact lc_zret C rfl (Or.inl rfl) dX0_borrowUpTo_13
abbrev rm_X0_giveEach : Room := { frames := 5, cells := 0, slots := 0, locals := 114 }
def P_X0_giveEach_79 (K49 : Int32 → Int32 → Int32 → lc_St → Option (Int32 × lc_St)) (x1 : Int32) (x2 : Int32) (x3 : Int32) (s : lc_St) : Option (Int32 × lc_St) :=
  lc_let (x3 + (1 : Int32)) (fun x3_79 => K49 x1 x2 x3_79 s)
set_option maxRecDepth 100000 in
set_option maxHeartbeats 4000000 in
theorem w_X0_giveEach_79 {S : lc_Se} {X : lc_X} (C : lc_C X cX0_giveEach RX0 4 (some .int) rm_X0_giveEach) {M : lc_MM} {k0 : Nat} (hk : k0 < 19) (out : Int32 × lc_St) (K49 : Int32 → Int32 → Int32 → lc_St → Option (Int32 × lc_St)) (hK49 : ∀ (x1 : Int32) (x2 : Int32) (x3 : Int32) (s : lc_St), K49 x1 x2 x3 s = some out → lc_J S X 4 0 0 (lc_QI S X 0 0 out.1 (va_up M k0 out.2)) 49 [(0, .ref (lc_ad S (10 * k0))), (1, .int x1), (2, .int x2), (3, .int x3)] [] (va_up M k0 s)) : ∀ (x1 : Int32) (x2 : Int32) (x3 : Int32) (s : lc_St), P_X0_giveEach_79 K49 x1 x2 x3 s = some out → lc_J S X 4 0 0 (lc_QI S X 0 0 out.1 (va_up M k0 out.2)) 79 [(0, .ref (lc_ad S (10 * k0))), (1, .int x1), (2, .int x2), (3, .int x3)] [] (va_up M k0 s) := by
  intro x1 x2 x3 s h
  rw [P_X0_giveEach_79] at h
  obtain ⟨x3_79, e3_79, h⟩ := lc_let2 h
  refine lc_iinc C (pc' := 82) (lo' := [(3, .int x3_79), (0, .ref (lc_ad S (10 * k0))), (1, .int x1), (2, .int x2)]) (q := 3) dX0_giveEach_79 rfl (by rw [← e3_79]; rfl) (Nat.le_of_ble_eq_true rfl) rfl rfl ?_
  refine lc_goto C (tgt := 49) dX0_giveEach_82 (by decide) ?_
  refine lc_sub (lo' := [(0, .ref (lc_ad S (10 * k0))), (1, .int x1), (2, .int x2), (3, .int x3_79)]) [1, 2, 3, 0] rfl ?_
  exact hK49 x1 x2 x3_79 s h
def P_X0_giveEach_49  : Nat → Int32 → Int32 → Int32 → lc_St → Option (Int32 × lc_St)
  | 0, _, _, _, _ => none
  | n + 1, x1, x2, x3, s =>
    if (s 0 0) ≤ x3 then lc_let (lc_ss s 0 4 ((s 0 4) + x2)) (fun s1 => some (x2, s1)) else lc_bd (P_X0_isBankrupt x3 s) (fun r59 => if r59 = 0 then lc_if (lc_ok x3 8) (lc_if (lc_ok x3 8) (lc_let (lc_ss s 2 (x3.toNatClampNeg) ((s 2 x3.toNatClampNeg) - x1)) (fun s2 => lc_let (x2 + x1) (fun x2_78 => P_X0_giveEach_79 (fun x1 x2 x3 s => P_X0_giveEach_49  n x1 x2 x3 s)  x1 x2_78 x3 s2)))) else P_X0_giveEach_79 (fun x1 x2 x3 s => P_X0_giveEach_49  n x1 x2 x3 s)  x1 x2 x3 s)
set_option maxRecDepth 100000 in
set_option maxHeartbeats 4000000 in
theorem w_X0_giveEach_49 {S : lc_Se} {X : lc_X} (C : lc_C X cX0_giveEach RX0 4 (some .int) rm_X0_giveEach) {M : lc_MM} {k0 : Nat} (hk : k0 < 19) (out : Int32 × lc_St)  : ∀ (n : Nat) (x1 : Int32) (x2 : Int32) (x3 : Int32) (s : lc_St), P_X0_giveEach_49  n x1 x2 x3 s = some out → lc_J S X 4 0 0 (lc_QI S X 0 0 out.1 (va_up M k0 out.2)) 49 [(0, .ref (lc_ad S (10 * k0))), (1, .int x1), (2, .int x2), (3, .int x3)] [] (va_up M k0 s) := by
  intro n
  induction n with
  | zero =>
    intro x1 x2 x3 s h
    rw [P_X0_giveEach_49] at h
    cases h
  | succ n ih =>
    intro x1 x2 x3 s h
    rw [P_X0_giveEach_49] at h
    refine lc_iload_n C (pc' := 50) 3 dX0_giveEach_49 rfl rfl ?_
    refine lc_aload_n C (pc' := 51) 0 dX0_giveEach_50 rfl rfl ?_
    refine lc_bg0 C (pc' := 54) (k0 := k0) hk (va_up_self _ _ _) dX0_giveEach_51 kf_RX0_43 rfl ?_
    refine lc_icmp_ge C (pc' := 57) (tgt := 85) dX0_giveEach_54 (by decide) rfl (fun c54 => ?_) (fun c54 => ?_)
    · have h := (lc_if2 h).1 c54
      refine lc_aload_n C (pc' := 86) 0 dX0_giveEach_85 rfl rfl ?_
      refine lc_dup C (pc' := 87) dX0_giveEach_86 rfl rfl ?_
      refine lc_bg4 C (pc' := 90) (k0 := k0) hk (va_up_self _ _ _) dX0_giveEach_87 kf_RX0_55 rfl ?_
      refine lc_iload_n C (pc' := 91) 2 dX0_giveEach_90 rfl rfl ?_
      refine lc_iadd C (pc' := 92) dX0_giveEach_91 rfl ?_
      obtain ⟨s1, es1, h⟩ := lc_let2 h
      refine lc_bp4 C (pc' := 95) (k0 := k0) (M' := (va_up M k0 s1)) hk (va_up_self _ _ _) es1 (lc_up_up _ _ _ _) dX0_giveEach_92 kf_RX0_55 rfl ?_
      refine lc_iload_n C (pc' := 96) 2 dX0_giveEach_95 rfl rfl ?_
      obtain rfl := Option.some.inj h
      exact lc_iret C rfl dX0_giveEach_96
    · have h := (lc_if2 h).2 c54
      refine lc_aload_n C (pc' := 58) 0 dX0_giveEach_57 rfl rfl ?_
      refine lc_iload_n C (pc' := 59) 3 dX0_giveEach_58 rfl rfl ?_
      obtain ⟨r59, h59, h⟩ := lc_bde h
      refine lc_cvi C (pc' := 62) (r := r59) (M' := (va_up M k0 s)) (As := [.int x3]) (rest := []) (c_X0_isBankrupt S X.2.1 M (k0 := k0) hk x3 s r59 h59) kl_RX0_77 (lc_at_b S _ hk) rfl rfl rfl rfl (Nat.le_of_ble_eq_true rfl) ⟨Nat.le_of_ble_eq_true rfl, Nat.le_of_ble_eq_true rfl⟩ ⟨rfl, rfl⟩ (lc_z2 _ _) dX0_giveEach_59 rfl ?_
      refine lc_if_ne C (pc' := 65) (tgt := 79) dX0_giveEach_62 (by decide) rfl (fun c62 => ?_) (fun c62 => ?_)
      · have h := (lc_if2 h).2 c62
        exact w_X0_giveEach_79 C  hk out (fun x1 x2 x3 s => P_X0_giveEach_49  n x1 x2 x3 s) ih  x1 x2 x3 s h
      · have h := (lc_if2 h).1 c62
        refine lc_aload_n C (pc' := 66) 0 dX0_giveEach_65 rfl rfl ?_
        refine lc_br1 C (pc' := 69) (k0 := k0) hk dX0_giveEach_66 kf_RX0_15 rfl ?_
        refine lc_iload_n C (pc' := 70) 3 dX0_giveEach_69 rfl rfl ?_
        refine lc_dup2 C (pc' := 71) dX0_giveEach_70 rfl rfl rfl ?_
        obtain ⟨hi71, h⟩ := lc_ife h
        refine lc_bald C (pc' := 72) (k0 := k0) (r := 2) (len := 8) (jj := x3.toNatClampNeg) hk (by decide) (by decide) (va_up_self _ _ _) rfl hi71 rfl dX0_giveEach_71 rfl ?_
        refine lc_iload_n C (pc' := 73) 1 dX0_giveEach_72 rfl rfl ?_
        refine lc_isub C (pc' := 74) dX0_giveEach_73 rfl ?_
        obtain ⟨hi74, h⟩ := lc_ife h
        obtain ⟨s2, es2, h⟩ := lc_let2 h
        refine lc_bast C (pc' := 75) (k0 := k0) (r := 2) (len := 8) (jj := x3.toNatClampNeg) (M' := (va_up M k0 s2)) hk (by decide) (by decide) (va_up_self _ _ _) rfl hi74 rfl es2 (lc_up_up _ _ _ _) dX0_giveEach_74 rfl ?_
        refine lc_iload_n C (pc' := 76) 2 dX0_giveEach_75 rfl rfl ?_
        refine lc_iload_n C (pc' := 77) 1 dX0_giveEach_76 rfl rfl ?_
        refine lc_iadd C (pc' := 78) dX0_giveEach_77 rfl ?_
        obtain ⟨x2_78, e2_78, h⟩ := lc_let2 h
        rw [e2_78]
        refine lc_istore_n C (pc' := 79) (lo' := [(2, .int x2_78), (0, .ref (lc_ad S (10 * k0))), (1, .int x1), (3, .int x3)]) dX0_giveEach_78 (Nat.le_of_ble_eq_true rfl) rfl rfl ?_
        refine lc_sub (lo' := [(0, .ref (lc_ad S (10 * k0))), (1, .int x1), (2, .int x2_78), (3, .int x3)]) [1, 2, 0, 3] rfl ?_
        exact w_X0_giveEach_79 C  hk out (fun x1 x2 x3 s => P_X0_giveEach_49  n x1 x2 x3 s) ih  x1 x2_78 x3 s2 h
def P_X0_giveEach_39 (K2 : Int32 → Int32 → lc_St → Option (Int32 × lc_St)) (x1 : Int32) (x2 : Int32) (s : lc_St) : Option (Int32 × lc_St) :=
  lc_let (x2 + (1 : Int32)) (fun x2_39 => K2 x1 x2_39 s)
set_option maxRecDepth 100000 in
set_option maxHeartbeats 4000000 in
theorem w_X0_giveEach_39 {S : lc_Se} {X : lc_X} (C : lc_C X cX0_giveEach RX0 4 (some .int) rm_X0_giveEach) {M : lc_MM} {k0 : Nat} (hk : k0 < 19) (out : Int32 × lc_St) (K2 : Int32 → Int32 → lc_St → Option (Int32 × lc_St)) (hK2 : ∀ (x1 : Int32) (x2 : Int32) (s : lc_St), K2 x1 x2 s = some out → lc_J S X 4 0 0 (lc_QI S X 0 0 out.1 (va_up M k0 out.2)) 2 [(0, .ref (lc_ad S (10 * k0))), (1, .int x1), (2, .int x2)] [] (va_up M k0 s)) : ∀ (x1 : Int32) (x2 : Int32) (s : lc_St), P_X0_giveEach_39 K2 x1 x2 s = some out → lc_J S X 4 0 0 (lc_QI S X 0 0 out.1 (va_up M k0 out.2)) 39 [(0, .ref (lc_ad S (10 * k0))), (1, .int x1), (2, .int x2)] [] (va_up M k0 s) := by
  intro x1 x2 s h
  rw [P_X0_giveEach_39] at h
  obtain ⟨x2_39, e2_39, h⟩ := lc_let2 h
  refine lc_iinc C (pc' := 42) (lo' := [(2, .int x2_39), (0, .ref (lc_ad S (10 * k0))), (1, .int x1)]) (q := 2) dX0_giveEach_39 rfl (by rw [← e2_39]; rfl) (Nat.le_of_ble_eq_true rfl) rfl rfl ?_
  refine lc_goto C (tgt := 2) dX0_giveEach_42 (by decide) ?_
  refine lc_sub (lo' := [(0, .ref (lc_ad S (10 * k0))), (1, .int x1), (2, .int x2_39)]) [1, 2, 0] rfl ?_
  exact hK2 x1 x2_39 s h
def P_X0_giveEach_2  : Nat → Int32 → Int32 → lc_St → Option (Int32 × lc_St)
  | 0, _, _, _ => none
  | n + 1, x1, x2, s =>
    if (s 0 0) ≤ x2 then P_X0_giveEach_49  lc_FU x1 (0 : Int32) (0 : Int32) s else lc_bd (P_X0_isBankrupt x2 s) (fun r12 => if r12 = 0 then lc_if (lc_ok x2 8) (if x1 ≤ (s 2 x2.toNatClampNeg) then P_X0_giveEach_39 (fun x1 x2 s => P_X0_giveEach_2  n x1 x2 s)  x1 x2 s else lc_bd2 (P_X0_borrowUpTo x2 x1 s) (fun r31 s3 => if r31 = 0 then some ((0 : Int32), s3) else P_X0_giveEach_39 (fun x1 x2 s => P_X0_giveEach_2  n x1 x2 s)  x1 x2 s3)) else P_X0_giveEach_39 (fun x1 x2 s => P_X0_giveEach_2  n x1 x2 s)  x1 x2 s)
set_option maxRecDepth 100000 in
set_option maxHeartbeats 4000000 in
theorem w_X0_giveEach_2 {S : lc_Se} {X : lc_X} (C : lc_C X cX0_giveEach RX0 4 (some .int) rm_X0_giveEach) {M : lc_MM} {k0 : Nat} (hk : k0 < 19) (out : Int32 × lc_St)  : ∀ (n : Nat) (x1 : Int32) (x2 : Int32) (s : lc_St), P_X0_giveEach_2  n x1 x2 s = some out → lc_J S X 4 0 0 (lc_QI S X 0 0 out.1 (va_up M k0 out.2)) 2 [(0, .ref (lc_ad S (10 * k0))), (1, .int x1), (2, .int x2)] [] (va_up M k0 s) := by
  intro n
  induction n with
  | zero =>
    intro x1 x2 s h
    rw [P_X0_giveEach_2] at h
    cases h
  | succ n ih =>
    intro x1 x2 s h
    rw [P_X0_giveEach_2] at h
    refine lc_iload_n C (pc' := 3) 2 dX0_giveEach_2 rfl rfl ?_
    refine lc_aload_n C (pc' := 4) 0 dX0_giveEach_3 rfl rfl ?_
    refine lc_bg0 C (pc' := 7) (k0 := k0) hk (va_up_self _ _ _) dX0_giveEach_4 kf_RX0_43 rfl ?_
    refine lc_icmp_ge C (pc' := 10) (tgt := 45) dX0_giveEach_7 (by decide) rfl (fun c7 => ?_) (fun c7 => ?_)
    · have h := (lc_if2 h).1 c7
      refine lc_iconst C (pc' := 46) (v := (0 : Int32)) dX0_giveEach_45 (by decide) rfl ?_
      refine lc_istore_n C (pc' := 47) (lo' := [(2, .int (0 : Int32)), (0, .ref (lc_ad S (10 * k0))), (1, .int x1)]) dX0_giveEach_46 (Nat.le_of_ble_eq_true rfl) rfl rfl ?_
      refine lc_iconst C (pc' := 48) (v := (0 : Int32)) dX0_giveEach_47 (by decide) rfl ?_
      refine lc_istore_n C (pc' := 49) (lo' := [(3, .int (0 : Int32)), (2, .int (0 : Int32)), (0, .ref (lc_ad S (10 * k0))), (1, .int x1)]) dX0_giveEach_48 (Nat.le_of_ble_eq_true rfl) rfl rfl ?_
      refine lc_sub (lo' := [(0, .ref (lc_ad S (10 * k0))), (1, .int x1), (2, .int (0 : Int32)), (3, .int (0 : Int32))]) [2, 3, 1, 0] rfl ?_
      exact w_X0_giveEach_49 C  hk out  lc_FU x1 (0 : Int32) (0 : Int32) s h
    · have h := (lc_if2 h).2 c7
      refine lc_aload_n C (pc' := 11) 0 dX0_giveEach_10 rfl rfl ?_
      refine lc_iload_n C (pc' := 12) 2 dX0_giveEach_11 rfl rfl ?_
      obtain ⟨r12, h12, h⟩ := lc_bde h
      refine lc_cvi C (pc' := 15) (r := r12) (M' := (va_up M k0 s)) (As := [.int x2]) (rest := []) (c_X0_isBankrupt S X.2.1 M (k0 := k0) hk x2 s r12 h12) kl_RX0_77 (lc_at_b S _ hk) rfl rfl rfl rfl (Nat.le_of_ble_eq_true rfl) ⟨Nat.le_of_ble_eq_true rfl, Nat.le_of_ble_eq_true rfl⟩ ⟨rfl, rfl⟩ (lc_z2 _ _) dX0_giveEach_12 rfl ?_
      refine lc_if_ne C (pc' := 18) (tgt := 39) dX0_giveEach_15 (by decide) rfl (fun c15 => ?_) (fun c15 => ?_)
      · have h := (lc_if2 h).2 c15
        exact w_X0_giveEach_39 C  hk out (fun x1 x2 s => P_X0_giveEach_2  n x1 x2 s) ih  x1 x2 s h
      · have h := (lc_if2 h).1 c15
        refine lc_aload_n C (pc' := 19) 0 dX0_giveEach_18 rfl rfl ?_
        refine lc_br1 C (pc' := 22) (k0 := k0) hk dX0_giveEach_19 kf_RX0_15 rfl ?_
        refine lc_iload_n C (pc' := 23) 2 dX0_giveEach_22 rfl rfl ?_
        obtain ⟨hi23, h⟩ := lc_ife h
        refine lc_bald C (pc' := 24) (k0 := k0) (r := 2) (len := 8) (jj := x2.toNatClampNeg) hk (by decide) (by decide) (va_up_self _ _ _) rfl hi23 rfl dX0_giveEach_23 rfl ?_
        refine lc_iload_n C (pc' := 25) 1 dX0_giveEach_24 rfl rfl ?_
        refine lc_icmp_ge C (pc' := 28) (tgt := 39) dX0_giveEach_25 (by decide) rfl (fun c25 => ?_) (fun c25 => ?_)
        · have h := (lc_if2 h).1 c25
          exact w_X0_giveEach_39 C  hk out (fun x1 x2 s => P_X0_giveEach_2  n x1 x2 s) ih  x1 x2 s h
        · have h := (lc_if2 h).2 c25
          refine lc_aload_n C (pc' := 29) 0 dX0_giveEach_28 rfl rfl ?_
          refine lc_iload_n C (pc' := 30) 2 dX0_giveEach_29 rfl rfl ?_
          refine lc_iload_n C (pc' := 31) 1 dX0_giveEach_30 rfl rfl ?_
          obtain ⟨r31, s3, h31, h⟩ := lc_bd2e h
          refine lc_cvi C (pc' := 34) (r := r31) (M' := (va_up M k0 s3)) (As := [.int x2, .int x1]) (rest := []) (c_X0_borrowUpTo S X.2.1 M (k0 := k0) hk x2 x1 s (r31, s3) h31) kl_RX0_127 (lc_at_b S _ hk) rfl rfl rfl rfl (Nat.le_of_ble_eq_true rfl) ⟨Nat.le_of_ble_eq_true rfl, Nat.le_of_ble_eq_true rfl⟩ ⟨rfl, rfl⟩ (lc_z2 _ _) dX0_giveEach_31 rfl ?_
          refine lc_if_ne C (pc' := 37) (tgt := 39) dX0_giveEach_34 (by decide) rfl (fun c34 => ?_) (fun c34 => ?_)
          · have h := (lc_if2 h).2 c34
            exact w_X0_giveEach_39 C  hk out (fun x1 x2 s => P_X0_giveEach_2  n x1 x2 s) ih  x1 x2 s3 h
          · have h := (lc_if2 h).1 c34
            refine lc_iconst C (pc' := 38) (v := (0 : Int32)) dX0_giveEach_37 (by decide) rfl ?_
            obtain rfl := Option.some.inj h
            exact lc_iret C rfl dX0_giveEach_38
def P_X0_giveEach  (x1 : Int32) (s : lc_St) : Option (Int32 × lc_St) :=
  P_X0_giveEach_2  lc_FU x1 (0 : Int32) s
set_option maxRecDepth 100000 in
set_option maxHeartbeats 4000000 in
theorem c_X0_giveEach (S : lc_Se) (l : Launch) (M : lc_MM) {k0 : Nat} (hk : k0 < 19) (x1 : Int32) (s : lc_St) (out : Int32 × lc_St) (h : P_X0_giveEach x1 s = some out) : lc_MI S l yX0_giveEach cX0_giveEach 4 (some .int) rm_X0_giveEach [.ref (lc_ad S (10 * k0)), .int x1] (va_up M k0 s) out.1 (va_up M k0 out.2) := by
  refine lc_mkI (own := RX0) pn_RX0 rfl (Nat.le_of_ble_eq_true rfl) (lo := [(0, .ref (lc_ad S (10 * k0))), (1, .int x1)]) rfl (fun X hX C => ?_)
  rw [P_X0_giveEach] at h
  refine lc_iconst C (pc' := 1) (v := (0 : Int32)) dX0_giveEach_0 (by decide) rfl ?_
  refine lc_istore_n C (pc' := 2) (lo' := [(2, .int (0 : Int32)), (0, .ref (lc_ad S (10 * k0))), (1, .int x1)]) dX0_giveEach_1 (Nat.le_of_ble_eq_true rfl) rfl rfl ?_
  refine lc_sub (lo' := [(0, .ref (lc_ad S (10 * k0))), (1, .int x1), (2, .int (0 : Int32))]) [1, 2, 0] rfl ?_
  exact w_X0_giveEach_2 C  hk out  lc_FU x1 (0 : Int32) s h
abbrev rm_X0_loseAsHeat : Room := { frames := 1, cells := 0, slots := 0, locals := 21 }
def P_X0_loseAsHeat  (x1 : Int32) (x2 : Int32) (s : lc_St) : Option (lc_St) :=
  lc_bd (P_X0_hasCell x1 s) (fun r2 => if r2 = 0 then some s else lc_if (lc_ok x1 8) (lc_if (lc_ok x1 8) (lc_let (lc_ss s 2 (x1.toNatClampNeg) ((s 2 x1.toNatClampNeg) - x2)) (fun s1 => lc_let (lc_ss s1 0 5 ((s1 0 5) + x2)) (fun s2 => some s2)))))
set_option maxRecDepth 100000 in
set_option maxHeartbeats 4000000 in
theorem c_X0_loseAsHeat (S : lc_Se) (l : Launch) (M : lc_MM) {k0 : Nat} (hk : k0 < 19) (x1 : Int32) (x2 : Int32) (s : lc_St) (out : lc_St) (h : P_X0_loseAsHeat x1 x2 s = some out) : lc_MV S l yX0_loseAsHeat cX0_loseAsHeat 3 none rm_X0_loseAsHeat [.ref (lc_ad S (10 * k0)), .int x1, .int x2] (va_up M k0 s)  (va_up M k0 out) := by
  refine lc_mkV (own := RX0) pn_RX0 rfl (Nat.le_of_ble_eq_true rfl) (lo := [(0, .ref (lc_ad S (10 * k0))), (1, .int x1), (2, .int x2)]) rfl (fun X hX C => ?_)
  rw [P_X0_loseAsHeat] at h
  refine lc_aload_n C (pc' := 1) 0 dX0_loseAsHeat_0 rfl rfl ?_
  refine lc_iload_n C (pc' := 2) 1 dX0_loseAsHeat_1 rfl rfl ?_
  obtain ⟨r2, h2, h⟩ := lc_bde h
  refine lc_cvi C (pc' := 5) (r := r2) (M' := (va_up M k0 s)) (As := [.int x1]) (rest := []) (c_X0_hasCell S X.2.1 M (k0 := k0) hk x1 s r2 h2) kl_RX0_73 (lc_at_b S _ hk) rfl rfl rfl rfl (Nat.le_of_ble_eq_true rfl) ⟨Nat.le_of_ble_eq_true rfl, Nat.le_of_ble_eq_true rfl⟩ ⟨rfl, rfl⟩ (lc_z2 _ _) dX0_loseAsHeat_2 rfl ?_
  refine lc_if_eq C (pc' := 8) (tgt := 28) dX0_loseAsHeat_5 (by decide) rfl (fun c5 => ?_) (fun c5 => ?_)
  · have h := (lc_if2 h).1 c5
    obtain rfl := Option.some.inj h
    exact lc_vret C rfl dX0_loseAsHeat_28
  · have h := (lc_if2 h).2 c5
    refine lc_aload_n C (pc' := 9) 0 dX0_loseAsHeat_8 rfl rfl ?_
    refine lc_br1 C (pc' := 12) (k0 := k0) hk dX0_loseAsHeat_9 kf_RX0_15 rfl ?_
    refine lc_iload_n C (pc' := 13) 1 dX0_loseAsHeat_12 rfl rfl ?_
    refine lc_dup2 C (pc' := 14) dX0_loseAsHeat_13 rfl rfl rfl ?_
    obtain ⟨hi14, h⟩ := lc_ife h
    refine lc_bald C (pc' := 15) (k0 := k0) (r := 2) (len := 8) (jj := x1.toNatClampNeg) hk (by decide) (by decide) (va_up_self _ _ _) rfl hi14 rfl dX0_loseAsHeat_14 rfl ?_
    refine lc_iload_n C (pc' := 16) 2 dX0_loseAsHeat_15 rfl rfl ?_
    refine lc_isub C (pc' := 17) dX0_loseAsHeat_16 rfl ?_
    obtain ⟨hi17, h⟩ := lc_ife h
    obtain ⟨s1, es1, h⟩ := lc_let2 h
    refine lc_bast C (pc' := 18) (k0 := k0) (r := 2) (len := 8) (jj := x1.toNatClampNeg) (M' := (va_up M k0 s1)) hk (by decide) (by decide) (va_up_self _ _ _) rfl hi17 rfl es1 (lc_up_up _ _ _ _) dX0_loseAsHeat_17 rfl ?_
    refine lc_aload_n C (pc' := 19) 0 dX0_loseAsHeat_18 rfl rfl ?_
    refine lc_dup C (pc' := 20) dX0_loseAsHeat_19 rfl rfl ?_
    refine lc_bg5 C (pc' := 23) (k0 := k0) hk (va_up_self _ _ _) dX0_loseAsHeat_20 kf_RX0_58 rfl ?_
    refine lc_iload_n C (pc' := 24) 2 dX0_loseAsHeat_23 rfl rfl ?_
    refine lc_iadd C (pc' := 25) dX0_loseAsHeat_24 rfl ?_
    obtain ⟨s2, es2, h⟩ := lc_let2 h
    refine lc_bp5 C (pc' := 28) (k0 := k0) (M' := (va_up M k0 s2)) hk (va_up_self _ _ _) es2 (lc_up_up _ _ _ _) dX0_loseAsHeat_25 kf_RX0_58 rfl ?_
    obtain rfl := Option.some.inj h
    exact lc_vret C rfl dX0_loseAsHeat_28
abbrev rm_X0_leakAll : Room := { frames := 2, cells := 0, slots := 0, locals := 43 }
def P_X0_leakAll_2  : Nat → Int32 → lc_St → Option (lc_St)
  | 0, _, _ => none
  | n + 1, x1, s =>
    if (s 0 0) ≤ x1 then some s else lc_if (lc_ok x1 8) (lc_if (lc_ok x1 8) (lc_bd (P_X0_loseAsHeat x1 (if (s 2 x1.toNatClampNeg) < (s 3 x1.toNatClampNeg) then (s 2 x1.toNatClampNeg) else (s 3 x1.toNatClampNeg)) s) (fun s1 => lc_let (x1 + (1 : Int32)) (fun x1_30 => P_X0_leakAll_2  n x1_30 s1))))
set_option maxRecDepth 100000 in
set_option maxHeartbeats 4000000 in
theorem w_X0_leakAll_2 {S : lc_Se} {X : lc_X} (C : lc_C X cX0_leakAll RX0 2 none rm_X0_leakAll) {M : lc_MM} {k0 : Nat} (hk : k0 < 19) (out : lc_St)  : ∀ (n : Nat) (x1 : Int32) (s : lc_St), P_X0_leakAll_2  n x1 s = some out → lc_J S X 2 0 0 (lc_QV S X 0 0 (va_up M k0 out)) 2 [(0, .ref (lc_ad S (10 * k0))), (1, .int x1)] [] (va_up M k0 s) := by
  intro n
  induction n with
  | zero =>
    intro x1 s h
    rw [P_X0_leakAll_2] at h
    cases h
  | succ n ih =>
    intro x1 s h
    rw [P_X0_leakAll_2] at h
    refine lc_iload_n C (pc' := 3) 1 dX0_leakAll_2 rfl rfl ?_
    refine lc_aload_n C (pc' := 4) 0 dX0_leakAll_3 rfl rfl ?_
    refine lc_bg0 C (pc' := 7) (k0 := k0) hk (va_up_self _ _ _) dX0_leakAll_4 kf_RX0_43 rfl ?_
    refine lc_icmp_ge C (pc' := 10) (tgt := 36) dX0_leakAll_7 (by decide) rfl (fun c7 => ?_) (fun c7 => ?_)
    · have h := (lc_if2 h).1 c7
      obtain rfl := Option.some.inj h
      exact lc_vret C rfl dX0_leakAll_36
    · have h := (lc_if2 h).2 c7
      refine lc_aload_n C (pc' := 11) 0 dX0_leakAll_10 rfl rfl ?_
      refine lc_iload_n C (pc' := 12) 1 dX0_leakAll_11 rfl rfl ?_
      refine lc_aload_n C (pc' := 13) 0 dX0_leakAll_12 rfl rfl ?_
      refine lc_br2 C (pc' := 16) (k0 := k0) hk dX0_leakAll_13 kf_RX0_18 rfl ?_
      refine lc_iload_n C (pc' := 17) 1 dX0_leakAll_16 rfl rfl ?_
      obtain ⟨hi17, h⟩ := lc_ife h
      refine lc_bald C (pc' := 18) (k0 := k0) (r := 3) (len := 8) (jj := x1.toNatClampNeg) hk (by decide) (by decide) (va_up_self _ _ _) rfl hi17 rfl dX0_leakAll_17 rfl ?_
      refine lc_aload_n C (pc' := 19) 0 dX0_leakAll_18 rfl rfl ?_
      refine lc_br1 C (pc' := 22) (k0 := k0) hk dX0_leakAll_19 kf_RX0_15 rfl ?_
      refine lc_iload_n C (pc' := 23) 1 dX0_leakAll_22 rfl rfl ?_
      obtain ⟨hi23, h⟩ := lc_ife h
      refine lc_bald C (pc' := 24) (k0 := k0) (r := 2) (len := 8) (jj := x1.toNatClampNeg) hk (by decide) (by decide) (va_up_self _ _ _) rfl hi23 rfl dX0_leakAll_23 rfl ?_
      refine lc_min C (pc' := 27) kl_RX0_121.1.1 ⟨kl_RX0_121.1.2.1, kl_RX0_121.1.2.2.1, kl_RX0_121.1.2.2.2⟩ ⟨Nat.le_of_ble_eq_true rfl, Nat.le_of_ble_eq_true rfl, Nat.zero_le _, Nat.zero_le _⟩ dX0_leakAll_24 rfl ?_
      obtain ⟨s1, h27, h⟩ := lc_bde h
      refine lc_cvv C (pc' := 30) (M' := (va_up M k0 s1)) (As := [.int x1, .int (if (s 2 x1.toNatClampNeg) < (s 3 x1.toNatClampNeg) then (s 2 x1.toNatClampNeg) else (s 3 x1.toNatClampNeg))]) (rest := []) (c_X0_loseAsHeat S X.2.1 M (k0 := k0) hk x1 (if (s 2 x1.toNatClampNeg) < (s 3 x1.toNatClampNeg) then (s 2 x1.toNatClampNeg) else (s 3 x1.toNatClampNeg)) s s1 h27) kl_RX0_150 (lc_at_b S _ hk) rfl rfl rfl rfl (Nat.le_of_ble_eq_true rfl) ⟨Nat.le_of_ble_eq_true rfl, Nat.le_of_ble_eq_true rfl⟩ ⟨rfl, rfl⟩ (lc_z2 _ _) dX0_leakAll_27 rfl ?_
      obtain ⟨x1_30, e1_30, h⟩ := lc_let2 h
      refine lc_iinc C (pc' := 33) (lo' := [(1, .int x1_30), (0, .ref (lc_ad S (10 * k0)))]) (q := 1) dX0_leakAll_30 rfl (by rw [← e1_30]; rfl) (Nat.le_of_ble_eq_true rfl) rfl rfl ?_
      refine lc_goto C (tgt := 2) dX0_leakAll_33 (by decide) ?_
      refine lc_sub (lo' := [(0, .ref (lc_ad S (10 * k0))), (1, .int x1_30)]) [1, 0] rfl ?_
      exact ih x1_30 s1 h
def P_X0_leakAll   (s : lc_St) : Option (lc_St) :=
  P_X0_leakAll_2  lc_FU (0 : Int32) s
set_option maxRecDepth 100000 in
set_option maxHeartbeats 4000000 in
theorem c_X0_leakAll (S : lc_Se) (l : Launch) (M : lc_MM) {k0 : Nat} (hk : k0 < 19)  (s : lc_St) (out : lc_St) (h : P_X0_leakAll  s = some out) : lc_MV S l yX0_leakAll cX0_leakAll 2 none rm_X0_leakAll [.ref (lc_ad S (10 * k0))] (va_up M k0 s)  (va_up M k0 out) := by
  refine lc_mkV (own := RX0) pn_RX0 rfl (Nat.le_of_ble_eq_true rfl) (lo := [(0, .ref (lc_ad S (10 * k0)))]) rfl (fun X hX C => ?_)
  rw [P_X0_leakAll] at h
  refine lc_iconst C (pc' := 1) (v := (0 : Int32)) dX0_leakAll_0 (by decide) rfl ?_
  refine lc_istore_n C (pc' := 2) (lo' := [(1, .int (0 : Int32)), (0, .ref (lc_ad S (10 * k0)))]) dX0_leakAll_1 (Nat.le_of_ble_eq_true rfl) rfl rfl ?_
  refine lc_sub (lo' := [(0, .ref (lc_ad S (10 * k0))), (1, .int (0 : Int32))]) [1, 0] rfl ?_
  exact w_X0_leakAll_2 C  hk out  lc_FU (0 : Int32) s h
abbrev rm_X0_burnInterest : Room := { frames := 2, cells := 0, slots := 0, locals := 43 }
def P_X0_burnInterest_82 (K4 : Int32 → Int32 → lc_St → Option (Int32 × lc_St)) (x1 : Int32) (x2 : Int32) (s : lc_St) : Option (Int32 × lc_St) :=
  lc_let (x2 + (1 : Int32)) (fun x2_82 => K4 x1 x2_82 s)
set_option maxRecDepth 100000 in
set_option maxHeartbeats 4000000 in
theorem w_X0_burnInterest_82 {S : lc_Se} {X : lc_X} (C : lc_C X cX0_burnInterest RX0 5 (some .int) rm_X0_burnInterest) {M : lc_MM} {k0 : Nat} (hk : k0 < 19) (out : Int32 × lc_St) (K4 : Int32 → Int32 → lc_St → Option (Int32 × lc_St)) (hK4 : ∀ (x1 : Int32) (x2 : Int32) (s : lc_St), K4 x1 x2 s = some out → lc_J S X 5 0 0 (lc_QI S X 0 0 out.1 (va_up M k0 out.2)) 4 [(0, .ref (lc_ad S (10 * k0))), (1, .int x1), (2, .int x2)] [] (va_up M k0 s)) : ∀ (x1 : Int32) (x2 : Int32) (s : lc_St), P_X0_burnInterest_82 K4 x1 x2 s = some out → lc_J S X 5 0 0 (lc_QI S X 0 0 out.1 (va_up M k0 out.2)) 82 [(0, .ref (lc_ad S (10 * k0))), (1, .int x1), (2, .int x2)] [] (va_up M k0 s) := by
  intro x1 x2 s h
  rw [P_X0_burnInterest_82] at h
  obtain ⟨x2_82, e2_82, h⟩ := lc_let2 h
  refine lc_iinc C (pc' := 85) (lo' := [(2, .int x2_82), (0, .ref (lc_ad S (10 * k0))), (1, .int x1)]) (q := 2) dX0_burnInterest_82 rfl (by rw [← e2_82]; rfl) (Nat.le_of_ble_eq_true rfl) rfl rfl ?_
  refine lc_goto C (tgt := 4) dX0_burnInterest_85 (by decide) ?_
  refine lc_sub (lo' := [(0, .ref (lc_ad S (10 * k0))), (1, .int x1), (2, .int x2_82)]) [1, 2, 0] rfl ?_
  exact hK4 x1 x2_82 s h
def P_X0_burnInterest_63 (K4 : Int32 → Int32 → lc_St → Option (Int32 × lc_St)) (x1 : Int32) (x2 : Int32) (x4 : Int32) (s : lc_St) : Option (Int32 × lc_St) :=
  if x2 = (s 0 7) then lc_let (lc_ss s 0 8 ((s 0 8) + x4)) (fun s2 => P_X0_burnInterest_82 K4  x1 x2 s2) else P_X0_burnInterest_82 K4  x1 x2 s
set_option maxRecDepth 100000 in
set_option maxHeartbeats 4000000 in
theorem w_X0_burnInterest_63 {S : lc_Se} {X : lc_X} (C : lc_C X cX0_burnInterest RX0 5 (some .int) rm_X0_burnInterest) {M : lc_MM} {k0 : Nat} (hk : k0 < 19) (out : Int32 × lc_St) (K4 : Int32 → Int32 → lc_St → Option (Int32 × lc_St)) (hK4 : ∀ (x1 : Int32) (x2 : Int32) (s : lc_St), K4 x1 x2 s = some out → lc_J S X 5 0 0 (lc_QI S X 0 0 out.1 (va_up M k0 out.2)) 4 [(0, .ref (lc_ad S (10 * k0))), (1, .int x1), (2, .int x2)] [] (va_up M k0 s)) : ∀ (x1 : Int32) (x2 : Int32) (x4 : Int32) (s : lc_St), P_X0_burnInterest_63 K4 x1 x2 x4 s = some out → lc_J S X 5 0 0 (lc_QI S X 0 0 out.1 (va_up M k0 out.2)) 63 [(0, .ref (lc_ad S (10 * k0))), (1, .int x1), (2, .int x2), (4, .int x4)] [] (va_up M k0 s) := by
  intro x1 x2 x4 s h
  rw [P_X0_burnInterest_63] at h
  refine lc_iload_n C (pc' := 64) 2 dX0_burnInterest_63 rfl rfl ?_
  refine lc_aload_n C (pc' := 65) 0 dX0_burnInterest_64 rfl rfl ?_
  refine lc_bg7 C (pc' := 68) (k0 := k0) hk (va_up_self _ _ _) dX0_burnInterest_65 kf_RX0_39 rfl ?_
  refine lc_icmp_ne C (pc' := 71) (tgt := 82) dX0_burnInterest_68 (by decide) rfl (fun c68 => ?_) (fun c68 => ?_)
  · have h := (lc_if2 h).2 c68
    refine lc_sub (lo' := [(0, .ref (lc_ad S (10 * k0))), (1, .int x1), (2, .int x2)]) [0, 1, 2] rfl ?_
    exact w_X0_burnInterest_82 C  hk out K4 hK4  x1 x2 s h
  · have h := (lc_if2 h).1 c68
    refine lc_aload_n C (pc' := 72) 0 dX0_burnInterest_71 rfl rfl ?_
    refine lc_dup C (pc' := 73) dX0_burnInterest_72 rfl rfl ?_
    refine lc_bg8 C (pc' := 76) (k0 := k0) hk (va_up_self _ _ _) dX0_burnInterest_73 kf_RX0_64 rfl ?_
    refine lc_iload C (pc' := 78) 3 dX0_burnInterest_76 rfl rfl ?_
    refine lc_iadd C (pc' := 79) dX0_burnInterest_78 rfl ?_
    obtain ⟨s2, es2, h⟩ := lc_let2 h
    refine lc_bp8 C (pc' := 82) (k0 := k0) (M' := (va_up M k0 s2)) hk (va_up_self _ _ _) es2 (lc_up_up _ _ _ _) dX0_burnInterest_79 kf_RX0_64 rfl ?_
    refine lc_sub (lo' := [(0, .ref (lc_ad S (10 * k0))), (1, .int x1), (2, .int x2)]) [0, 1, 2] rfl ?_
    exact w_X0_burnInterest_82 C  hk out K4 hK4  x1 x2 s2 h
def P_X0_burnInterest_4  : Nat → Int32 → Int32 → lc_St → Option (Int32 × lc_St)
  | 0, _, _, _ => none
  | n + 1, x1, x2, s =>
    if (s 0 1) ≤ x2 then some (x1, s) else lc_bd (P_X0_interestOf x2 s) (fun r14 => lc_if (lc_ok x2 12) (lc_bd (P_X0_chargeOf (s 6 x2.toNatClampNeg) s) (fun r26 => lc_let (if r26 < r14 then r26 else r14) (fun x4_32 => lc_if (lc_ok x2 12) (lc_bd (P_X0_loseAsHeat (s 6 x2.toNatClampNeg) x4_32 s) (fun s1 => if r14 ≤ x4_32 then P_X0_burnInterest_63 (fun x1 x2 s => P_X0_burnInterest_4  n x1 x2 s)  x1 x2 x4_32 s1 else lc_if (lc_ok x2 12) (lc_let (x1 ||| ((1 : Int32) <<< ((s1 6 x2.toNatClampNeg) &&& 31))) (fun x1_62 => P_X0_burnInterest_63 (fun x1 x2 s => P_X0_burnInterest_4  n x1 x2 s)  x1_62 x2 x4_32 s1))))))))
set_option maxRecDepth 100000 in
set_option maxHeartbeats 4000000 in
theorem w_X0_burnInterest_4 {S : lc_Se} {X : lc_X} (C : lc_C X cX0_burnInterest RX0 5 (some .int) rm_X0_burnInterest) {M : lc_MM} {k0 : Nat} (hk : k0 < 19) (out : Int32 × lc_St)  : ∀ (n : Nat) (x1 : Int32) (x2 : Int32) (s : lc_St), P_X0_burnInterest_4  n x1 x2 s = some out → lc_J S X 5 0 0 (lc_QI S X 0 0 out.1 (va_up M k0 out.2)) 4 [(0, .ref (lc_ad S (10 * k0))), (1, .int x1), (2, .int x2)] [] (va_up M k0 s) := by
  intro n
  induction n with
  | zero =>
    intro x1 x2 s h
    rw [P_X0_burnInterest_4] at h
    cases h
  | succ n ih =>
    intro x1 x2 s h
    rw [P_X0_burnInterest_4] at h
    refine lc_iload_n C (pc' := 5) 2 dX0_burnInterest_4 rfl rfl ?_
    refine lc_aload_n C (pc' := 6) 0 dX0_burnInterest_5 rfl rfl ?_
    refine lc_bg1 C (pc' := 9) (k0 := k0) hk (va_up_self _ _ _) dX0_burnInterest_6 kf_RX0_46 rfl ?_
    refine lc_icmp_ge C (pc' := 12) (tgt := 88) dX0_burnInterest_9 (by decide) rfl (fun c9 => ?_) (fun c9 => ?_)
    · have h := (lc_if2 h).1 c9
      refine lc_iload_n C (pc' := 89) 1 dX0_burnInterest_88 rfl rfl ?_
      obtain rfl := Option.some.inj h
      exact lc_iret C rfl dX0_burnInterest_89
    · have h := (lc_if2 h).2 c9
      refine lc_aload_n C (pc' := 13) 0 dX0_burnInterest_12 rfl rfl ?_
      refine lc_iload_n C (pc' := 14) 2 dX0_burnInterest_13 rfl rfl ?_
      obtain ⟨r14, h14, h⟩ := lc_bde h
      refine lc_cvi C (pc' := 17) (r := r14) (M' := (va_up M k0 s)) (As := [.int x2]) (rest := []) (c_X0_interestOf S X.2.1 M (k0 := k0) hk x2 s r14 h14) kl_RX0_83 (lc_at_b S _ hk) rfl rfl rfl rfl (Nat.le_of_ble_eq_true rfl) ⟨Nat.le_of_ble_eq_true rfl, Nat.le_of_ble_eq_true rfl⟩ ⟨rfl, rfl⟩ (lc_z2 _ _) dX0_burnInterest_14 rfl ?_
      refine lc_istore_n C (pc' := 18) (lo' := [(3, .int r14), (0, .ref (lc_ad S (10 * k0))), (1, .int x1), (2, .int x2)]) dX0_burnInterest_17 (Nat.le_of_ble_eq_true rfl) rfl rfl ?_
      refine lc_iload_n C (pc' := 19) 0 dX0_burnInterest_18 rfl rfl ?_
      refine lc_aload_n C (pc' := 20) 1 dX0_burnInterest_19 rfl rfl ?_
      refine lc_aload_n C (pc' := 21) 1 dX0_burnInterest_20 rfl rfl ?_
      refine lc_br5 C (pc' := 24) (k0 := k0) hk dX0_burnInterest_21 kf_RX0_27 rfl ?_
      refine lc_iload_n C (pc' := 25) 3 dX0_burnInterest_24 rfl rfl ?_
      obtain ⟨hi25, h⟩ := lc_ife h
      refine lc_bald C (pc' := 26) (k0 := k0) (r := 6) (len := 12) (jj := x2.toNatClampNeg) hk (by decide) (by decide) (va_up_self _ _ _) rfl hi25 rfl dX0_burnInterest_25 rfl ?_
      obtain ⟨r26, h26, h⟩ := lc_bde h
      refine lc_cvi C (pc' := 29) (r := r26) (M' := (va_up M k0 s)) (As := [.int (s 6 x2.toNatClampNeg)]) (rest := [.int r14]) (c_X0_chargeOf S X.2.1 M (k0 := k0) hk (s 6 x2.toNatClampNeg) s r26 h26) kl_RX0_93 (lc_at_b S _ hk) rfl rfl rfl rfl (Nat.le_of_ble_eq_true rfl) ⟨Nat.le_of_ble_eq_true rfl, Nat.le_of_ble_eq_true rfl⟩ ⟨rfl, rfl⟩ (lc_z2 _ _) dX0_burnInterest_26 rfl ?_
      refine lc_min C (pc' := 32) kl_RX0_121.1.1 ⟨kl_RX0_121.1.2.1, kl_RX0_121.1.2.2.1, kl_RX0_121.1.2.2.2⟩ ⟨Nat.le_of_ble_eq_true rfl, Nat.le_of_ble_eq_true rfl, Nat.zero_le _, Nat.zero_le _⟩ dX0_burnInterest_29 rfl ?_
      obtain ⟨x4_32, e4_32, h⟩ := lc_let2 h
      rw [e4_32]
      refine lc_istore C (pc' := 34) (lo' := [(4, .int x4_32), (3, .int r14), (0, .ref (lc_ad S (10 * k0))), (1, .int x1), (2, .int x2)]) dX0_burnInterest_32 (Nat.le_of_ble_eq_true rfl) rfl rfl ?_
      refine lc_aload_n C (pc' := 35) 2 dX0_burnInterest_34 rfl rfl ?_
      refine lc_aload_n C (pc' := 36) 2 dX0_burnInterest_35 rfl rfl ?_
      refine lc_br5 C (pc' := 39) (k0 := k0) hk dX0_burnInterest_36 kf_RX0_27 rfl ?_
      refine lc_iload_n C (pc' := 40) 4 dX0_burnInterest_39 rfl rfl ?_
      obtain ⟨hi40, h⟩ := lc_ife h
      refine lc_bald C (pc' := 41) (k0 := k0) (r := 6) (len := 12) (jj := x2.toNatClampNeg) hk (by decide) (by decide) (va_up_self _ _ _) rfl hi40 rfl dX0_burnInterest_40 rfl ?_
      refine lc_iload C (pc' := 43) 0 dX0_burnInterest_41 rfl rfl ?_
      obtain ⟨s1, h43, h⟩ := lc_bde h
      refine lc_cvv C (pc' := 46) (M' := (va_up M k0 s1)) (As := [.int (s 6 x2.toNatClampNeg), .int x4_32]) (rest := []) (c_X0_loseAsHeat S X.2.1 M (k0 := k0) hk (s 6 x2.toNatClampNeg) x4_32 s s1 h43) kl_RX0_150 (lc_at_b S _ hk) rfl rfl rfl rfl (Nat.le_of_ble_eq_true rfl) ⟨Nat.le_of_ble_eq_true rfl, Nat.le_of_ble_eq_true rfl⟩ ⟨rfl, rfl⟩ (lc_z2 _ _) dX0_burnInterest_43 rfl ?_
      refine lc_iload C (pc' := 48) 0 dX0_burnInterest_46 rfl rfl ?_
      refine lc_iload_n C (pc' := 49) 1 dX0_burnInterest_48 rfl rfl ?_
      refine lc_icmp_ge C (pc' := 52) (tgt := 63) dX0_burnInterest_49 (by decide) rfl (fun c49 => ?_) (fun c49 => ?_)
      · have h := (lc_if2 h).1 c49
        refine lc_sub (lo' := [(0, .ref (lc_ad S (10 * k0))), (1, .int x1), (2, .int x2), (4, .int x4_32)]) [2, 3, 4, 0] rfl ?_
        exact w_X0_burnInterest_63 C  hk out (fun x1 x2 s => P_X0_burnInterest_4  n x1 x2 s) ih  x1 x2 x4_32 s1 h
      · have h := (lc_if2 h).2 c49
        refine lc_iload_n C (pc' := 53) 3 dX0_burnInterest_52 rfl rfl ?_
        refine lc_iconst C (pc' := 54) (v := (1 : Int32)) dX0_burnInterest_53 (by decide) rfl ?_
        refine lc_aload_n C (pc' := 55) 2 dX0_burnInterest_54 rfl rfl ?_
        refine lc_br5 C (pc' := 58) (k0 := k0) hk dX0_burnInterest_55 kf_RX0_27 rfl ?_
        refine lc_iload_n C (pc' := 59) 4 dX0_burnInterest_58 rfl rfl ?_
        obtain ⟨hi59, h⟩ := lc_ife h
        refine lc_bald C (pc' := 60) (k0 := k0) (r := 6) (len := 12) (jj := x2.toNatClampNeg) hk (by decide) (by decide) (va_up_self _ _ _) rfl hi59 rfl dX0_burnInterest_59 rfl ?_
        refine lc_ishl C (pc' := 61) dX0_burnInterest_60 rfl ?_
        refine lc_ior C (pc' := 62) dX0_burnInterest_61 rfl ?_
        obtain ⟨x1_62, e1_62, h⟩ := lc_let2 h
        rw [e1_62]
        refine lc_istore_n C (pc' := 63) (lo' := [(1, .int x1_62), (4, .int x4_32), (3, .int r14), (0, .ref (lc_ad S (10 * k0))), (2, .int x2)]) dX0_burnInterest_62 (Nat.le_of_ble_eq_true rfl) rfl rfl ?_
        refine lc_sub (lo' := [(0, .ref (lc_ad S (10 * k0))), (1, .int x1_62), (2, .int x2), (4, .int x4_32)]) [3, 0, 4, 1] rfl ?_
        exact w_X0_burnInterest_63 C  hk out (fun x1 x2 s => P_X0_burnInterest_4  n x1 x2 s) ih  x1_62 x2 x4_32 s1 h
def P_X0_burnInterest   (s : lc_St) : Option (Int32 × lc_St) :=
  P_X0_burnInterest_4  lc_FU (0 : Int32) (0 : Int32) s
set_option maxRecDepth 100000 in
set_option maxHeartbeats 4000000 in
theorem c_X0_burnInterest (S : lc_Se) (l : Launch) (M : lc_MM) {k0 : Nat} (hk : k0 < 19)  (s : lc_St) (out : Int32 × lc_St) (h : P_X0_burnInterest  s = some out) : lc_MI S l yX0_burnInterest cX0_burnInterest 5 (some .int) rm_X0_burnInterest [.ref (lc_ad S (10 * k0))] (va_up M k0 s) out.1 (va_up M k0 out.2) := by
  refine lc_mkI (own := RX0) pn_RX0 rfl (Nat.le_of_ble_eq_true rfl) (lo := [(0, .ref (lc_ad S (10 * k0)))]) rfl (fun X hX C => ?_)
  rw [P_X0_burnInterest] at h
  refine lc_iconst C (pc' := 1) (v := (0 : Int32)) dX0_burnInterest_0 (by decide) rfl ?_
  refine lc_istore_n C (pc' := 2) (lo' := [(1, .int (0 : Int32)), (0, .ref (lc_ad S (10 * k0)))]) dX0_burnInterest_1 (Nat.le_of_ble_eq_true rfl) rfl rfl ?_
  refine lc_iconst C (pc' := 3) (v := (0 : Int32)) dX0_burnInterest_2 (by decide) rfl ?_
  refine lc_istore_n C (pc' := 4) (lo' := [(2, .int (0 : Int32)), (1, .int (0 : Int32)), (0, .ref (lc_ad S (10 * k0)))]) dX0_burnInterest_3 (Nat.le_of_ble_eq_true rfl) rfl rfl ?_
  refine lc_sub (lo' := [(0, .ref (lc_ad S (10 * k0))), (1, .int (0 : Int32)), (2, .int (0 : Int32))]) [2, 1, 0] rfl ?_
  exact w_X0_burnInterest_4 C  hk out  lc_FU (0 : Int32) (0 : Int32) s h
abbrev rm_X0_shareOut : Room := { frames := 2, cells := 0, slots := 0, locals := 43 }
def P_X0_shareOut_129 (K24 : Int32 → Int32 → Int32 → Int32 → lc_St → Option (lc_St)) (x1 : Int32) (x2 : Int32) (x3 : Int32) (x4 : Int32) (s : lc_St) : Option (lc_St) :=
  lc_let (x4 + (1 : Int32)) (fun x4_129 => K24 x1 x2 x3 x4_129 s)
set_option maxRecDepth 100000 in
set_option maxHeartbeats 4000000 in
theorem w_X0_shareOut_129 {S : lc_Se} {X : lc_X} (C : lc_C X cX0_shareOut RX0 8 none rm_X0_shareOut) {M : lc_MM} {k0 : Nat} (hk : k0 < 19) (out : lc_St) (K24 : Int32 → Int32 → Int32 → Int32 → lc_St → Option (lc_St)) (hK24 : ∀ (x1 : Int32) (x2 : Int32) (x3 : Int32) (x4 : Int32) (s : lc_St), K24 x1 x2 x3 x4 s = some out → lc_J S X 8 0 0 (lc_QV S X 0 0 (va_up M k0 out)) 24 [(0, .ref (lc_ad S (10 * k0))), (1, .int x1), (2, .int x2), (3, .int x3), (4, .int x4)] [] (va_up M k0 s)) : ∀ (x1 : Int32) (x2 : Int32) (x3 : Int32) (x4 : Int32) (s : lc_St), P_X0_shareOut_129 K24 x1 x2 x3 x4 s = some out → lc_J S X 8 0 0 (lc_QV S X 0 0 (va_up M k0 out)) 129 [(0, .ref (lc_ad S (10 * k0))), (1, .int x1), (2, .int x2), (3, .int x3), (4, .int x4)] [] (va_up M k0 s) := by
  intro x1 x2 x3 x4 s h
  rw [P_X0_shareOut_129] at h
  obtain ⟨x4_129, e4_129, h⟩ := lc_let2 h
  refine lc_iinc C (pc' := 132) (lo' := [(4, .int x4_129), (0, .ref (lc_ad S (10 * k0))), (1, .int x1), (2, .int x2), (3, .int x3)]) (q := 4) dX0_shareOut_129 rfl (by rw [← e4_129]; rfl) (Nat.le_of_ble_eq_true rfl) rfl rfl ?_
  refine lc_goto C (tgt := 24) dX0_shareOut_132 (by decide) ?_
  refine lc_sub (lo' := [(0, .ref (lc_ad S (10 * k0))), (1, .int x1), (2, .int x2), (3, .int x3), (4, .int x4_129)]) [1, 2, 3, 4, 0] rfl ?_
  exact hK24 x1 x2 x3 x4_129 s h
def P_X0_shareOut_24  : Nat → Int32 → Int32 → Int32 → Int32 → lc_St → Option (lc_St)
  | 0, _, _, _, _, _ => none
  | n + 1, x1, x2, x3, x4, s =>
    if (s 0 1) ≤ x4 then lc_bd (P_X0_chargeOf x1 s) (fun r139 => lc_bd (P_X0_loseAsHeat x1 r139 s) (fun s1 => some s1)) else lc_if (lc_ok x4 12) (lc_let (s 5 x4.toNatClampNeg) (fun x5_40 => lc_if (lc_ok x4 12) (if (s 6 x4.toNatClampNeg) = x1 then lc_bd (P_X0_hasCell x5_40 s) (fun r56 => if r56 = 0 then P_X0_shareOut_129 (fun x1 x2 x3 x4 s => P_X0_shareOut_24  n x1 x2 x3 x4 s)  x1 x2 x3 x4 s else if x3 ≤ 0 then P_X0_shareOut_129 (fun x1 x2 x3 x4 s => P_X0_shareOut_24  n x1 x2 x3 x4 s)  x1 x2 x3 x4 s else lc_if (lc_ok x4 12) (lc_if (¬ x3 = 0) (lc_let ((x2 * (s 7 x4.toNatClampNeg)) / x3) (fun x6_77 => lc_bd (P_X0_roomOf x5_40 s) (fun r84 => lc_let (if r84 < x6_77 then r84 else x6_77) (fun x7_90 => lc_if (lc_ok x5_40 8) (lc_if (lc_ok x5_40 8) (lc_let (lc_ss s 2 (x5_40.toNatClampNeg) ((s 2 x5_40.toNatClampNeg) + x7_90)) (fun s2 => lc_let (lc_ss s2 0 5 ((s2 0 5) + (x6_77 - x7_90))) (fun s3 => lc_if (lc_ok x1 8) (lc_if (lc_ok x1 8) (lc_let (lc_ss s3 2 (x1.toNatClampNeg) ((s3 2 x1.toNatClampNeg) - x6_77)) (fun s4 => P_X0_shareOut_129 (fun x1 x2 x3 x4 s => P_X0_shareOut_24  n x1 x2 x3 x4 s)  x1 x2 x3 x4 s4))))))))))))) else P_X0_shareOut_129 (fun x1 x2 x3 x4 s => P_X0_shareOut_24  n x1 x2 x3 x4 s)  x1 x2 x3 x4 s)))
set_option maxRecDepth 100000 in
set_option maxHeartbeats 4000000 in
theorem w_X0_shareOut_24 {S : lc_Se} {X : lc_X} (C : lc_C X cX0_shareOut RX0 8 none rm_X0_shareOut) {M : lc_MM} {k0 : Nat} (hk : k0 < 19) (out : lc_St)  : ∀ (n : Nat) (x1 : Int32) (x2 : Int32) (x3 : Int32) (x4 : Int32) (s : lc_St), P_X0_shareOut_24  n x1 x2 x3 x4 s = some out → lc_J S X 8 0 0 (lc_QV S X 0 0 (va_up M k0 out)) 24 [(0, .ref (lc_ad S (10 * k0))), (1, .int x1), (2, .int x2), (3, .int x3), (4, .int x4)] [] (va_up M k0 s) := by
  intro n
  induction n with
  | zero =>
    intro x1 x2 x3 x4 s h
    rw [P_X0_shareOut_24] at h
    cases h
  | succ n ih =>
    intro x1 x2 x3 x4 s h
    rw [P_X0_shareOut_24] at h
    refine lc_iload C (pc' := 26) 4 dX0_shareOut_24 rfl rfl ?_
    refine lc_aload_n C (pc' := 27) 0 dX0_shareOut_26 rfl rfl ?_
    refine lc_bg1 C (pc' := 30) (k0 := k0) hk (va_up_self _ _ _) dX0_shareOut_27 kf_RX0_46 rfl ?_
    refine lc_icmp_ge C (pc' := 33) (tgt := 135) dX0_shareOut_30 (by decide) rfl (fun c30 => ?_) (fun c30 => ?_)
    · have h := (lc_if2 h).1 c30
      refine lc_aload_n C (pc' := 136) 0 dX0_shareOut_135 rfl rfl ?_
      refine lc_iload_n C (pc' := 137) 1 dX0_shareOut_136 rfl rfl ?_
      refine lc_aload_n C (pc' := 138) 0 dX0_shareOut_137 rfl rfl ?_
      refine lc_iload_n C (pc' := 139) 1 dX0_shareOut_138 rfl rfl ?_
      obtain ⟨r139, h139, h⟩ := lc_bde h
      refine lc_cvi C (pc' := 142) (r := r139) (M' := (va_up M k0 s)) (As := [.int x1]) (rest := [.int x1, .ref (lc_ad S (10 * k0))]) (c_X0_chargeOf S X.2.1 M (k0 := k0) hk x1 s r139 h139) kl_RX0_93 (lc_at_b S _ hk) rfl rfl rfl rfl (Nat.le_of_ble_eq_true rfl) ⟨Nat.le_of_ble_eq_true rfl, Nat.le_of_ble_eq_true rfl⟩ ⟨rfl, rfl⟩ (lc_z2 _ _) dX0_shareOut_139 rfl ?_
      obtain ⟨s1, h142, h⟩ := lc_bde h
      refine lc_cvv C (pc' := 145) (M' := (va_up M k0 s1)) (As := [.int x1, .int r139]) (rest := []) (c_X0_loseAsHeat S X.2.1 M (k0 := k0) hk x1 r139 s s1 h142) kl_RX0_150 (lc_at_b S _ hk) rfl rfl rfl rfl (Nat.le_of_ble_eq_true rfl) ⟨Nat.le_of_ble_eq_true rfl, Nat.le_of_ble_eq_true rfl⟩ ⟨rfl, rfl⟩ (lc_z2 _ _) dX0_shareOut_142 rfl ?_
      obtain rfl := Option.some.inj h
      exact lc_vret C rfl dX0_shareOut_145
    · have h := (lc_if2 h).2 c30
      refine lc_aload_n C (pc' := 34) 0 dX0_shareOut_33 rfl rfl ?_
      refine lc_br4 C (pc' := 37) (k0 := k0) hk dX0_shareOut_34 kf_RX0_24 rfl ?_
      refine lc_iload C (pc' := 39) 4 dX0_shareOut_37 rfl rfl ?_
      obtain ⟨hi39, h⟩ := lc_ife h
      refine lc_bald C (pc' := 40) (k0 := k0) (r := 5) (len := 12) (jj := x4.toNatClampNeg) hk (by decide) (by decide) (va_up_self _ _ _) rfl hi39 rfl dX0_shareOut_39 rfl ?_
      obtain ⟨x5_40, e5_40, h⟩ := lc_let2 h
      rw [e5_40]
      refine lc_istore C (pc' := 42) (lo' := [(5, .int x5_40), (0, .ref (lc_ad S (10 * k0))), (1, .int x1), (2, .int x2), (3, .int x3), (4, .int x4)]) dX0_shareOut_40 (Nat.le_of_ble_eq_true rfl) rfl rfl ?_
      refine lc_aload_n C (pc' := 43) 1 dX0_shareOut_42 rfl rfl ?_
      refine lc_br5 C (pc' := 46) (k0 := k0) hk dX0_shareOut_43 kf_RX0_27 rfl ?_
      refine lc_iload C (pc' := 48) 5 dX0_shareOut_46 rfl rfl ?_
      obtain ⟨hi48, h⟩ := lc_ife h
      refine lc_bald C (pc' := 49) (k0 := k0) (r := 6) (len := 12) (jj := x4.toNatClampNeg) hk (by decide) (by decide) (va_up_self _ _ _) rfl hi48 rfl dX0_shareOut_48 rfl ?_
      refine lc_iload_n C (pc' := 50) 2 dX0_shareOut_49 rfl rfl ?_
      refine lc_icmp_ne C (pc' := 53) (tgt := 129) dX0_shareOut_50 (by decide) rfl (fun c50 => ?_) (fun c50 => ?_)
      · have h := (lc_if2 h).2 c50
        refine lc_sub (lo' := [(0, .ref (lc_ad S (10 * k0))), (1, .int x1), (2, .int x2), (3, .int x3), (4, .int x4)]) [1, 2, 3, 4, 5] rfl ?_
        exact w_X0_shareOut_129 C  hk out (fun x1 x2 x3 x4 s => P_X0_shareOut_24  n x1 x2 x3 x4 s) ih  x1 x2 x3 x4 s h
      · have h := (lc_if2 h).1 c50
        refine lc_aload_n C (pc' := 54) 1 dX0_shareOut_53 rfl rfl ?_
        refine lc_iload C (pc' := 56) 0 dX0_shareOut_54 rfl rfl ?_
        obtain ⟨r56, h56, h⟩ := lc_bde h
        refine lc_cvi C (pc' := 59) (r := r56) (M' := (va_up M k0 s)) (As := [.int x5_40]) (rest := []) (c_X0_hasCell S X.2.1 M (k0 := k0) hk x5_40 s r56 h56) kl_RX0_73 (lc_at_b S _ hk) rfl rfl rfl rfl (Nat.le_of_ble_eq_true rfl) ⟨Nat.le_of_ble_eq_true rfl, Nat.le_of_ble_eq_true rfl⟩ ⟨rfl, rfl⟩ (lc_z2 _ _) dX0_shareOut_56 rfl ?_
        refine lc_if_eq C (pc' := 62) (tgt := 129) dX0_shareOut_59 (by decide) rfl (fun c59 => ?_) (fun c59 => ?_)
        · have h := (lc_if2 h).1 c59
          refine lc_sub (lo' := [(0, .ref (lc_ad S (10 * k0))), (1, .int x1), (2, .int x2), (3, .int x3), (4, .int x4)]) [1, 2, 3, 4, 5] rfl ?_
          exact w_X0_shareOut_129 C  hk out (fun x1 x2 x3 x4 s => P_X0_shareOut_24  n x1 x2 x3 x4 s) ih  x1 x2 x3 x4 s h
        · have h := (lc_if2 h).2 c59
          refine lc_iload_n C (pc' := 63) 4 dX0_shareOut_62 rfl rfl ?_
          refine lc_if_le C (pc' := 66) (tgt := 129) dX0_shareOut_63 (by decide) rfl (fun c63 => ?_) (fun c63 => ?_)
          · have h := (lc_if2 h).1 c63
            refine lc_sub (lo' := [(0, .ref (lc_ad S (10 * k0))), (1, .int x1), (2, .int x2), (3, .int x3), (4, .int x4)]) [1, 2, 3, 4, 5] rfl ?_
            exact w_X0_shareOut_129 C  hk out (fun x1 x2 x3 x4 s => P_X0_shareOut_24  n x1 x2 x3 x4 s) ih  x1 x2 x3 x4 s h
          · have h := (lc_if2 h).2 c63
            refine lc_iload_n C (pc' := 67) 3 dX0_shareOut_66 rfl rfl ?_
            refine lc_aload_n C (pc' := 68) 1 dX0_shareOut_67 rfl rfl ?_
            refine lc_br6 C (pc' := 71) (k0 := k0) hk dX0_shareOut_68 kf_RX0_30 rfl ?_
            refine lc_iload C (pc' := 73) 5 dX0_shareOut_71 rfl rfl ?_
            obtain ⟨hi73, h⟩ := lc_ife h
            refine lc_bald C (pc' := 74) (k0 := k0) (r := 7) (len := 12) (jj := x4.toNatClampNeg) hk (by decide) (by decide) (va_up_self _ _ _) rfl hi73 rfl dX0_shareOut_73 rfl ?_
            refine lc_imul C (pc' := 75) dX0_shareOut_74 rfl ?_
            refine lc_iload_n C (pc' := 76) 4 dX0_shareOut_75 rfl rfl ?_
            obtain ⟨hy76, h⟩ := lc_ife h
            refine lc_idiv C (pc' := 77) dX0_shareOut_76 hy76 rfl ?_
            obtain ⟨x6_77, e6_77, h⟩ := lc_let2 h
            rw [e6_77]
            refine lc_istore C (pc' := 79) (lo' := [(6, .int x6_77), (5, .int x5_40), (0, .ref (lc_ad S (10 * k0))), (1, .int x1), (2, .int x2), (3, .int x3), (4, .int x4)]) dX0_shareOut_77 (Nat.le_of_ble_eq_true rfl) rfl rfl ?_
            refine lc_iload C (pc' := 81) 0 dX0_shareOut_79 rfl rfl ?_
            refine lc_aload_n C (pc' := 82) 2 dX0_shareOut_81 rfl rfl ?_
            refine lc_iload C (pc' := 84) 1 dX0_shareOut_82 rfl rfl ?_
            obtain ⟨r84, h84, h⟩ := lc_bde h
            refine lc_cvi C (pc' := 87) (r := r84) (M' := (va_up M k0 s)) (As := [.int x5_40]) (rest := [.int x6_77]) (c_X0_roomOf S X.2.1 M (k0 := k0) hk x5_40 s r84 h84) kl_RX0_100 (lc_at_b S _ hk) rfl rfl rfl rfl (Nat.le_of_ble_eq_true rfl) ⟨Nat.le_of_ble_eq_true rfl, Nat.le_of_ble_eq_true rfl⟩ ⟨rfl, rfl⟩ (lc_z2 _ _) dX0_shareOut_84 rfl ?_
            refine lc_min C (pc' := 90) kl_RX0_121.1.1 ⟨kl_RX0_121.1.2.1, kl_RX0_121.1.2.2.1, kl_RX0_121.1.2.2.2⟩ ⟨Nat.le_of_ble_eq_true rfl, Nat.le_of_ble_eq_true rfl, Nat.zero_le _, Nat.zero_le _⟩ dX0_shareOut_87 rfl ?_
            obtain ⟨x7_90, e7_90, h⟩ := lc_let2 h
            rw [e7_90]
            refine lc_istore C (pc' := 92) (lo' := [(7, .int x7_90), (6, .int x6_77), (5, .int x5_40), (0, .ref (lc_ad S (10 * k0))), (1, .int x1), (2, .int x2), (3, .int x3), (4, .int x4)]) dX0_shareOut_90 (Nat.le_of_ble_eq_true rfl) rfl rfl ?_
            refine lc_aload_n C (pc' := 93) 3 dX0_shareOut_92 rfl rfl ?_
            refine lc_br1 C (pc' := 96) (k0 := k0) hk dX0_shareOut_93 kf_RX0_15 rfl ?_
            refine lc_iload C (pc' := 98) 2 dX0_shareOut_96 rfl rfl ?_
            refine lc_dup2 C (pc' := 99) dX0_shareOut_98 rfl rfl rfl ?_
            obtain ⟨hi99, h⟩ := lc_ife h
            refine lc_bald C (pc' := 100) (k0 := k0) (r := 2) (len := 8) (jj := x5_40.toNatClampNeg) hk (by decide) (by decide) (va_up_self _ _ _) rfl hi99 rfl dX0_shareOut_99 rfl ?_
            refine lc_iload C (pc' := 102) 0 dX0_shareOut_100 rfl rfl ?_
            refine lc_iadd C (pc' := 103) dX0_shareOut_102 rfl ?_
            obtain ⟨hi103, h⟩ := lc_ife h
            obtain ⟨s2, es2, h⟩ := lc_let2 h
            refine lc_bast C (pc' := 104) (k0 := k0) (r := 2) (len := 8) (jj := x5_40.toNatClampNeg) (M' := (va_up M k0 s2)) hk (by decide) (by decide) (va_up_self _ _ _) rfl hi103 rfl es2 (lc_up_up _ _ _ _) dX0_shareOut_103 rfl ?_
            refine lc_aload_n C (pc' := 105) 3 dX0_shareOut_104 rfl rfl ?_
            refine lc_dup C (pc' := 106) dX0_shareOut_105 rfl rfl ?_
            refine lc_bg5 C (pc' := 109) (k0 := k0) hk (va_up_self _ _ _) dX0_shareOut_106 kf_RX0_58 rfl ?_
            refine lc_iload C (pc' := 111) 1 dX0_shareOut_109 rfl rfl ?_
            refine lc_iload C (pc' := 113) 0 dX0_shareOut_111 rfl rfl ?_
            refine lc_isub C (pc' := 114) dX0_shareOut_113 rfl ?_
            refine lc_iadd C (pc' := 115) dX0_shareOut_114 rfl ?_
            obtain ⟨s3, es3, h⟩ := lc_let2 h
            refine lc_bp5 C (pc' := 118) (k0 := k0) (M' := (va_up M k0 s3)) hk (va_up_self _ _ _) es3 (lc_up_up _ _ _ _) dX0_shareOut_115 kf_RX0_58 rfl ?_
            refine lc_aload_n C (pc' := 119) 3 dX0_shareOut_118 rfl rfl ?_
            refine lc_br1 C (pc' := 122) (k0 := k0) hk dX0_shareOut_119 kf_RX0_15 rfl ?_
            refine lc_iload_n C (pc' := 123) 4 dX0_shareOut_122 rfl rfl ?_
            refine lc_dup2 C (pc' := 124) dX0_shareOut_123 rfl rfl rfl ?_
            obtain ⟨hi124, h⟩ := lc_ife h
            refine lc_bald C (pc' := 125) (k0 := k0) (r := 2) (len := 8) (jj := x1.toNatClampNeg) hk (by decide) (by decide) (va_up_self _ _ _) rfl hi124 rfl dX0_shareOut_124 rfl ?_
            refine lc_iload C (pc' := 127) 1 dX0_shareOut_125 rfl rfl ?_
            refine lc_isub C (pc' := 128) dX0_shareOut_127 rfl ?_
            obtain ⟨hi128, h⟩ := lc_ife h
            obtain ⟨s4, es4, h⟩ := lc_let2 h
            refine lc_bast C (pc' := 129) (k0 := k0) (r := 2) (len := 8) (jj := x1.toNatClampNeg) (M' := (va_up M k0 s4)) hk (by decide) (by decide) (va_up_self _ _ _) rfl hi128 rfl es4 (lc_up_up _ _ _ _) dX0_shareOut_128 rfl ?_
            refine lc_sub (lo' := [(0, .ref (lc_ad S (10 * k0))), (1, .int x1), (2, .int x2), (3, .int x3), (4, .int x4)]) [3, 4, 5, 6, 7] rfl ?_
            exact w_X0_shareOut_129 C  hk out (fun x1 x2 x3 x4 s => P_X0_shareOut_24  n x1 x2 x3 x4 s) ih  x1 x2 x3 x4 s4 h
def P_X0_shareOut  (x1 : Int32) (s : lc_St) : Option (lc_St) :=
  lc_bd (P_X0_hasCell x1 s) (fun r2 => if r2 = 0 then some s else lc_bd (P_X0_chargeOf x1 s) (fun r11 => lc_bd (P_X0_owedBy x1 s) (fun r17 => P_X0_shareOut_24  lc_FU x1 r11 r17 (0 : Int32) s)))
set_option maxRecDepth 100000 in
set_option maxHeartbeats 4000000 in
theorem c_X0_shareOut (S : lc_Se) (l : Launch) (M : lc_MM) {k0 : Nat} (hk : k0 < 19) (x1 : Int32) (s : lc_St) (out : lc_St) (h : P_X0_shareOut x1 s = some out) : lc_MV S l yX0_shareOut cX0_shareOut 8 none rm_X0_shareOut [.ref (lc_ad S (10 * k0)), .int x1] (va_up M k0 s)  (va_up M k0 out) := by
  refine lc_mkV (own := RX0) pn_RX0 rfl (Nat.le_of_ble_eq_true rfl) (lo := [(0, .ref (lc_ad S (10 * k0))), (1, .int x1)]) rfl (fun X hX C => ?_)
  rw [P_X0_shareOut] at h
  refine lc_aload_n C (pc' := 1) 0 dX0_shareOut_0 rfl rfl ?_
  refine lc_iload_n C (pc' := 2) 1 dX0_shareOut_1 rfl rfl ?_
  obtain ⟨r2, h2, h⟩ := lc_bde h
  refine lc_cvi C (pc' := 5) (r := r2) (M' := (va_up M k0 s)) (As := [.int x1]) (rest := []) (c_X0_hasCell S X.2.1 M (k0 := k0) hk x1 s r2 h2) kl_RX0_73 (lc_at_b S _ hk) rfl rfl rfl rfl (Nat.le_of_ble_eq_true rfl) ⟨Nat.le_of_ble_eq_true rfl, Nat.le_of_ble_eq_true rfl⟩ ⟨rfl, rfl⟩ (lc_z2 _ _) dX0_shareOut_2 rfl ?_
  refine lc_if_ne C (pc' := 8) (tgt := 9) dX0_shareOut_5 (by decide) rfl (fun c5 => ?_) (fun c5 => ?_)
  · have h := (lc_if2 h).2 c5
    refine lc_aload_n C (pc' := 10) 0 dX0_shareOut_9 rfl rfl ?_
    refine lc_iload_n C (pc' := 11) 1 dX0_shareOut_10 rfl rfl ?_
    obtain ⟨r11, h11, h⟩ := lc_bde h
    refine lc_cvi C (pc' := 14) (r := r11) (M' := (va_up M k0 s)) (As := [.int x1]) (rest := []) (c_X0_chargeOf S X.2.1 M (k0 := k0) hk x1 s r11 h11) kl_RX0_93 (lc_at_b S _ hk) rfl rfl rfl rfl (Nat.le_of_ble_eq_true rfl) ⟨Nat.le_of_ble_eq_true rfl, Nat.le_of_ble_eq_true rfl⟩ ⟨rfl, rfl⟩ (lc_z2 _ _) dX0_shareOut_11 rfl ?_
    refine lc_istore_n C (pc' := 15) (lo' := [(2, .int r11), (0, .ref (lc_ad S (10 * k0))), (1, .int x1)]) dX0_shareOut_14 (Nat.le_of_ble_eq_true rfl) rfl rfl ?_
    refine lc_aload_n C (pc' := 16) 1 dX0_shareOut_15 rfl rfl ?_
    refine lc_iload_n C (pc' := 17) 2 dX0_shareOut_16 rfl rfl ?_
    obtain ⟨r17, h17, h⟩ := lc_bde h
    refine lc_cvi C (pc' := 20) (r := r17) (M' := (va_up M k0 s)) (As := [.int x1]) (rest := []) (c_X0_owedBy S X.2.1 M (k0 := k0) hk x1 s r17 h17) kl_RX0_87 (lc_at_b S _ hk) rfl rfl rfl rfl (Nat.le_of_ble_eq_true rfl) ⟨Nat.le_of_ble_eq_true rfl, Nat.le_of_ble_eq_true rfl⟩ ⟨rfl, rfl⟩ (lc_z2 _ _) dX0_shareOut_17 rfl ?_
    refine lc_istore_n C (pc' := 21) (lo' := [(3, .int r17), (2, .int r11), (0, .ref (lc_ad S (10 * k0))), (1, .int x1)]) dX0_shareOut_20 (Nat.le_of_ble_eq_true rfl) rfl rfl ?_
    refine lc_iconst C (pc' := 22) (v := (0 : Int32)) dX0_shareOut_21 (by decide) rfl ?_
    refine lc_istore C (pc' := 24) (lo' := [(4, .int (0 : Int32)), (3, .int r17), (2, .int r11), (0, .ref (lc_ad S (10 * k0))), (1, .int x1)]) dX0_shareOut_22 (Nat.le_of_ble_eq_true rfl) rfl rfl ?_
    refine lc_sub (lo' := [(0, .ref (lc_ad S (10 * k0))), (1, .int x1), (2, .int r11), (3, .int r17), (4, .int (0 : Int32))]) [3, 4, 2, 1, 0] rfl ?_
    exact w_X0_shareOut_24 C  hk out  lc_FU x1 r11 r17 (0 : Int32) s h
  · have h := (lc_if2 h).1 c5
    obtain rfl := Option.some.inj h
    exact lc_vret C rfl dX0_shareOut_8
abbrev rm_X0_dropLoansOf : Room := { frames := 1, cells := 0, slots := 0, locals := 22 }
def P_X0_dropLoansOf_51 (K7 : Int32 → Int32 → lc_St → Option (lc_St)) (x1 : Int32) (x2 : Int32) (s : lc_St) : Option (lc_St) :=
  lc_let (x2 + (-1 : Int32)) (fun x2_51 => K7 x1 x2_51 s)
set_option maxRecDepth 100000 in
set_option maxHeartbeats 4000000 in
theorem w_X0_dropLoansOf_51 {S : lc_Se} {X : lc_X} (C : lc_C X cX0_dropLoansOf RX0 3 none rm_X0_dropLoansOf) {M : lc_MM} {k0 : Nat} (hk : k0 < 19) (out : lc_St) (K7 : Int32 → Int32 → lc_St → Option (lc_St)) (hK7 : ∀ (x1 : Int32) (x2 : Int32) (s : lc_St), K7 x1 x2 s = some out → lc_J S X 3 0 0 (lc_QV S X 0 0 (va_up M k0 out)) 7 [(0, .ref (lc_ad S (10 * k0))), (1, .int x1), (2, .int x2)] [] (va_up M k0 s)) : ∀ (x1 : Int32) (x2 : Int32) (s : lc_St), P_X0_dropLoansOf_51 K7 x1 x2 s = some out → lc_J S X 3 0 0 (lc_QV S X 0 0 (va_up M k0 out)) 51 [(0, .ref (lc_ad S (10 * k0))), (1, .int x1), (2, .int x2)] [] (va_up M k0 s) := by
  intro x1 x2 s h
  rw [P_X0_dropLoansOf_51] at h
  obtain ⟨x2_51, e2_51, h⟩ := lc_let2 h
  refine lc_iinc C (pc' := 54) (lo' := [(2, .int x2_51), (0, .ref (lc_ad S (10 * k0))), (1, .int x1)]) (q := 2) dX0_dropLoansOf_51 rfl (by rw [← e2_51]; rfl) (Nat.le_of_ble_eq_true rfl) rfl rfl ?_
  refine lc_goto C (tgt := 7) dX0_dropLoansOf_54 (by decide) ?_
  refine lc_sub (lo' := [(0, .ref (lc_ad S (10 * k0))), (1, .int x1), (2, .int x2_51)]) [1, 2, 0] rfl ?_
  exact hK7 x1 x2_51 s h
def P_X0_dropLoansOf_31 (K7 : Int32 → Int32 → lc_St → Option (lc_St)) (x1 : Int32) (x2 : Int32) (s : lc_St) : Option (lc_St) :=
  lc_if (lc_ok x2 12) (lc_let (lc_ss s 0 6 ((s 0 6) + (s 7 x2.toNatClampNeg))) (fun s1 => lc_bd (P_X0_removeLoan x2 s1) (fun s2 => P_X0_dropLoansOf_51 K7  x1 x2 s2)))
set_option maxRecDepth 100000 in
set_option maxHeartbeats 4000000 in
theorem w_X0_dropLoansOf_31 {S : lc_Se} {X : lc_X} (C : lc_C X cX0_dropLoansOf RX0 3 none rm_X0_dropLoansOf) {M : lc_MM} {k0 : Nat} (hk : k0 < 19) (out : lc_St) (K7 : Int32 → Int32 → lc_St → Option (lc_St)) (hK7 : ∀ (x1 : Int32) (x2 : Int32) (s : lc_St), K7 x1 x2 s = some out → lc_J S X 3 0 0 (lc_QV S X 0 0 (va_up M k0 out)) 7 [(0, .ref (lc_ad S (10 * k0))), (1, .int x1), (2, .int x2)] [] (va_up M k0 s)) : ∀ (x1 : Int32) (x2 : Int32) (s : lc_St), P_X0_dropLoansOf_31 K7 x1 x2 s = some out → lc_J S X 3 0 0 (lc_QV S X 0 0 (va_up M k0 out)) 31 [(0, .ref (lc_ad S (10 * k0))), (1, .int x1), (2, .int x2)] [] (va_up M k0 s) := by
  intro x1 x2 s h
  rw [P_X0_dropLoansOf_31] at h
  refine lc_aload_n C (pc' := 32) 0 dX0_dropLoansOf_31 rfl rfl ?_
  refine lc_dup C (pc' := 33) dX0_dropLoansOf_32 rfl rfl ?_
  refine lc_bg6 C (pc' := 36) (k0 := k0) hk (va_up_self _ _ _) dX0_dropLoansOf_33 kf_RX0_61 rfl ?_
  refine lc_aload_n C (pc' := 37) 0 dX0_dropLoansOf_36 rfl rfl ?_
  refine lc_br6 C (pc' := 40) (k0 := k0) hk dX0_dropLoansOf_37 kf_RX0_30 rfl ?_
  refine lc_iload_n C (pc' := 41) 2 dX0_dropLoansOf_40 rfl rfl ?_
  obtain ⟨hi41, h⟩ := lc_ife h
  refine lc_bald C (pc' := 42) (k0 := k0) (r := 7) (len := 12) (jj := x2.toNatClampNeg) hk (by decide) (by decide) (va_up_self _ _ _) rfl hi41 rfl dX0_dropLoansOf_41 rfl ?_
  refine lc_iadd C (pc' := 43) dX0_dropLoansOf_42 rfl ?_
  obtain ⟨s1, es1, h⟩ := lc_let2 h
  refine lc_bp6 C (pc' := 46) (k0 := k0) (M' := (va_up M k0 s1)) hk (va_up_self _ _ _) es1 (lc_up_up _ _ _ _) dX0_dropLoansOf_43 kf_RX0_61 rfl ?_
  refine lc_aload_n C (pc' := 47) 0 dX0_dropLoansOf_46 rfl rfl ?_
  refine lc_iload_n C (pc' := 48) 2 dX0_dropLoansOf_47 rfl rfl ?_
  obtain ⟨s2, h48, h⟩ := lc_bde h
  refine lc_cvv C (pc' := 51) (M' := (va_up M k0 s2)) (As := [.int x2]) (rest := []) (c_X0_removeLoan S X.2.1 M (k0 := k0) hk x2 s1 s2 h48) kl_RX0_114 (lc_at_b S _ hk) rfl rfl rfl rfl (Nat.le_of_ble_eq_true rfl) ⟨Nat.le_of_ble_eq_true rfl, Nat.le_of_ble_eq_true rfl⟩ ⟨rfl, rfl⟩ (lc_z2 _ _) dX0_dropLoansOf_48 rfl ?_
  exact w_X0_dropLoansOf_51 C  hk out K7 hK7  x1 x2 s2 h
def P_X0_dropLoansOf_7  : Nat → Int32 → Int32 → lc_St → Option (lc_St)
  | 0, _, _, _ => none
  | n + 1, x1, x2, s =>
    if x2 < 0 then some s else lc_if (lc_ok x2 12) (if (s 5 x2.toNatClampNeg) = x1 then P_X0_dropLoansOf_31 (fun x1 x2 s => P_X0_dropLoansOf_7  n x1 x2 s)  x1 x2 s else lc_if (lc_ok x2 12) (if (s 6 x2.toNatClampNeg) = x1 then P_X0_dropLoansOf_31 (fun x1 x2 s => P_X0_dropLoansOf_7  n x1 x2 s)  x1 x2 s else P_X0_dropLoansOf_51 (fun x1 x2 s => P_X0_dropLoansOf_7  n x1 x2 s)  x1 x2 s))
set_option maxRecDepth 100000 in
set_option maxHeartbeats 4000000 in
theorem w_X0_dropLoansOf_7 {S : lc_Se} {X : lc_X} (C : lc_C X cX0_dropLoansOf RX0 3 none rm_X0_dropLoansOf) {M : lc_MM} {k0 : Nat} (hk : k0 < 19) (out : lc_St)  : ∀ (n : Nat) (x1 : Int32) (x2 : Int32) (s : lc_St), P_X0_dropLoansOf_7  n x1 x2 s = some out → lc_J S X 3 0 0 (lc_QV S X 0 0 (va_up M k0 out)) 7 [(0, .ref (lc_ad S (10 * k0))), (1, .int x1), (2, .int x2)] [] (va_up M k0 s) := by
  intro n
  induction n with
  | zero =>
    intro x1 x2 s h
    rw [P_X0_dropLoansOf_7] at h
    cases h
  | succ n ih =>
    intro x1 x2 s h
    rw [P_X0_dropLoansOf_7] at h
    refine lc_iload_n C (pc' := 8) 2 dX0_dropLoansOf_7 rfl rfl ?_
    refine lc_if_lt C (pc' := 11) (tgt := 57) dX0_dropLoansOf_8 (by decide) rfl (fun c8 => ?_) (fun c8 => ?_)
    · have h := (lc_if2 h).1 c8
      obtain rfl := Option.some.inj h
      exact lc_vret C rfl dX0_dropLoansOf_57
    · have h := (lc_if2 h).2 c8
      refine lc_aload_n C (pc' := 12) 0 dX0_dropLoansOf_11 rfl rfl ?_
      refine lc_br4 C (pc' := 15) (k0 := k0) hk dX0_dropLoansOf_12 kf_RX0_24 rfl ?_
      refine lc_iload_n C (pc' := 16) 2 dX0_dropLoansOf_15 rfl rfl ?_
      obtain ⟨hi16, h⟩ := lc_ife h
      refine lc_bald C (pc' := 17) (k0 := k0) (r := 5) (len := 12) (jj := x2.toNatClampNeg) hk (by decide) (by decide) (va_up_self _ _ _) rfl hi16 rfl dX0_dropLoansOf_16 rfl ?_
      refine lc_iload_n C (pc' := 18) 1 dX0_dropLoansOf_17 rfl rfl ?_
      refine lc_icmp_eq C (pc' := 21) (tgt := 31) dX0_dropLoansOf_18 (by decide) rfl (fun c18 => ?_) (fun c18 => ?_)
      · have h := (lc_if2 h).1 c18
        exact w_X0_dropLoansOf_31 C  hk out (fun x1 x2 s => P_X0_dropLoansOf_7  n x1 x2 s) ih  x1 x2 s h
      · have h := (lc_if2 h).2 c18
        refine lc_aload_n C (pc' := 22) 0 dX0_dropLoansOf_21 rfl rfl ?_
        refine lc_br5 C (pc' := 25) (k0 := k0) hk dX0_dropLoansOf_22 kf_RX0_27 rfl ?_
        refine lc_iload_n C (pc' := 26) 2 dX0_dropLoansOf_25 rfl rfl ?_
        obtain ⟨hi26, h⟩ := lc_ife h
        refine lc_bald C (pc' := 27) (k0 := k0) (r := 6) (len := 12) (jj := x2.toNatClampNeg) hk (by decide) (by decide) (va_up_self _ _ _) rfl hi26 rfl dX0_dropLoansOf_26 rfl ?_
        refine lc_iload_n C (pc' := 28) 1 dX0_dropLoansOf_27 rfl rfl ?_
        refine lc_icmp_ne C (pc' := 31) (tgt := 51) dX0_dropLoansOf_28 (by decide) rfl (fun c28 => ?_) (fun c28 => ?_)
        · have h := (lc_if2 h).2 c28
          exact w_X0_dropLoansOf_51 C  hk out (fun x1 x2 s => P_X0_dropLoansOf_7  n x1 x2 s) ih  x1 x2 s h
        · have h := (lc_if2 h).1 c28
          exact w_X0_dropLoansOf_31 C  hk out (fun x1 x2 s => P_X0_dropLoansOf_7  n x1 x2 s) ih  x1 x2 s h
def P_X0_dropLoansOf  (x1 : Int32) (s : lc_St) : Option (lc_St) :=
  lc_let ((s 0 1) - (1 : Int32)) (fun x2_6 => P_X0_dropLoansOf_7  lc_FU x1 x2_6 s)
set_option maxRecDepth 100000 in
set_option maxHeartbeats 4000000 in
theorem c_X0_dropLoansOf (S : lc_Se) (l : Launch) (M : lc_MM) {k0 : Nat} (hk : k0 < 19) (x1 : Int32) (s : lc_St) (out : lc_St) (h : P_X0_dropLoansOf x1 s = some out) : lc_MV S l yX0_dropLoansOf cX0_dropLoansOf 3 none rm_X0_dropLoansOf [.ref (lc_ad S (10 * k0)), .int x1] (va_up M k0 s)  (va_up M k0 out) := by
  refine lc_mkV (own := RX0) pn_RX0 rfl (Nat.le_of_ble_eq_true rfl) (lo := [(0, .ref (lc_ad S (10 * k0))), (1, .int x1)]) rfl (fun X hX C => ?_)
  rw [P_X0_dropLoansOf] at h
  refine lc_aload_n C (pc' := 1) 0 dX0_dropLoansOf_0 rfl rfl ?_
  refine lc_bg1 C (pc' := 4) (k0 := k0) hk (va_up_self _ _ _) dX0_dropLoansOf_1 kf_RX0_46 rfl ?_
  refine lc_iconst C (pc' := 5) (v := (1 : Int32)) dX0_dropLoansOf_4 (by decide) rfl ?_
  refine lc_isub C (pc' := 6) dX0_dropLoansOf_5 rfl ?_
  obtain ⟨x2_6, e2_6, h⟩ := lc_let2 h
  rw [e2_6]
  refine lc_istore_n C (pc' := 7) (lo' := [(2, .int x2_6), (0, .ref (lc_ad S (10 * k0))), (1, .int x1)]) dX0_dropLoansOf_6 (Nat.le_of_ble_eq_true rfl) rfl rfl ?_
  refine lc_sub (lo' := [(0, .ref (lc_ad S (10 * k0))), (1, .int x1), (2, .int x2_6)]) [1, 2, 0] rfl ?_
  exact w_X0_dropLoansOf_7 C  hk out  lc_FU x1 x2_6 s h
abbrev rm_X0_countLateRounds : Room := { frames := 3, cells := 0, slots := 0, locals := 70 }
def P_X0_countLateRounds_85 (K4 : Int32 → Int32 → Int32 → lc_St → Option (Int32 × lc_St)) (x1 : Int32) (x2 : Int32) (x3 : Int32) (s : lc_St) : Option (Int32 × lc_St) :=
  lc_let (x3 + (1 : Int32)) (fun x3_85 => K4 x1 x2 x3_85 s)
set_option maxRecDepth 100000 in
set_option maxHeartbeats 4000000 in
theorem w_X0_countLateRounds_85 {S : lc_Se} {X : lc_X} (C : lc_C X cX0_countLateRounds RX0 5 (some .int) rm_X0_countLateRounds) {M : lc_MM} {k0 : Nat} (hk : k0 < 19) (out : Int32 × lc_St) (K4 : Int32 → Int32 → Int32 → lc_St → Option (Int32 × lc_St)) (hK4 : ∀ (x1 : Int32) (x2 : Int32) (x3 : Int32) (s : lc_St), K4 x1 x2 x3 s = some out → lc_J S X 5 0 0 (lc_QI S X 0 0 out.1 (va_up M k0 out.2)) 4 [(0, .ref (lc_ad S (10 * k0))), (1, .int x1), (2, .int x2), (3, .int x3)] [] (va_up M k0 s)) : ∀ (x1 : Int32) (x2 : Int32) (x3 : Int32) (s : lc_St), P_X0_countLateRounds_85 K4 x1 x2 x3 s = some out → lc_J S X 5 0 0 (lc_QI S X 0 0 out.1 (va_up M k0 out.2)) 85 [(0, .ref (lc_ad S (10 * k0))), (1, .int x1), (2, .int x2), (3, .int x3)] [] (va_up M k0 s) := by
  intro x1 x2 x3 s h
  rw [P_X0_countLateRounds_85] at h
  obtain ⟨x3_85, e3_85, h⟩ := lc_let2 h
  refine lc_iinc C (pc' := 88) (lo' := [(3, .int x3_85), (0, .ref (lc_ad S (10 * k0))), (1, .int x1), (2, .int x2)]) (q := 3) dX0_countLateRounds_85 rfl (by rw [← e3_85]; rfl) (Nat.le_of_ble_eq_true rfl) rfl rfl ?_
  refine lc_goto C (tgt := 4) dX0_countLateRounds_88 (by decide) ?_
  refine lc_sub (lo' := [(0, .ref (lc_ad S (10 * k0))), (1, .int x1), (2, .int x2), (3, .int x3_85)]) [1, 2, 3, 0] rfl ?_
  exact hK4 x1 x2 x3_85 s h
def P_X0_countLateRounds_60 (K4 : Int32 → Int32 → Int32 → lc_St → Option (Int32 × lc_St)) (x1 : Int32) (x2 : Int32) (x3 : Int32) (t1 : Int32) (t2 : Int32) (s : lc_St) : Option (Int32 × lc_St) :=
  lc_if (lc_ok t1 8) (lc_let (lc_ss s 4 (t1.toNatClampNeg) t2) (fun s1 => lc_bd (P_X0_isBankrupt x3 s1) (fun r63 => if r63 = 0 then P_X0_countLateRounds_85 K4  x1 x2 x3 s1 else lc_bd (P_X0_shareOut x3 s1) (fun s2 => lc_bd (P_X0_dropLoansOf x3 s2) (fun s3 => lc_let (x2 ||| ((1 : Int32) <<< (x3 &&& 31))) (fun x2_84 => P_X0_countLateRounds_85 K4  x1 x2_84 x3 s3))))))
set_option maxRecDepth 100000 in
set_option maxHeartbeats 4000000 in
theorem w_X0_countLateRounds_60 {S : lc_Se} {X : lc_X} (C : lc_C X cX0_countLateRounds RX0 5 (some .int) rm_X0_countLateRounds) {M : lc_MM} {k0 : Nat} (hk : k0 < 19) (out : Int32 × lc_St) (K4 : Int32 → Int32 → Int32 → lc_St → Option (Int32 × lc_St)) (hK4 : ∀ (x1 : Int32) (x2 : Int32) (x3 : Int32) (s : lc_St), K4 x1 x2 x3 s = some out → lc_J S X 5 0 0 (lc_QI S X 0 0 out.1 (va_up M k0 out.2)) 4 [(0, .ref (lc_ad S (10 * k0))), (1, .int x1), (2, .int x2), (3, .int x3)] [] (va_up M k0 s)) : ∀ (x1 : Int32) (x2 : Int32) (x3 : Int32) (t1 : Int32) (t2 : Int32) (s : lc_St), P_X0_countLateRounds_60 K4 x1 x2 x3 t1 t2 s = some out → lc_J S X 5 0 0 (lc_QI S X 0 0 out.1 (va_up M k0 out.2)) 60 [(0, .ref (lc_ad S (10 * k0))), (1, .int x1), (2, .int x2), (3, .int x3)] [.int t2, .int t1, .ref (lc_ad S (10 * k0 + 4))] (va_up M k0 s) := by
  intro x1 x2 x3 t1 t2 s h
  rw [P_X0_countLateRounds_60] at h
  obtain ⟨hi60, h⟩ := lc_ife h
  obtain ⟨s1, es1, h⟩ := lc_let2 h
  refine lc_bast C (pc' := 61) (k0 := k0) (r := 4) (len := 8) (jj := t1.toNatClampNeg) (M' := (va_up M k0 s1)) hk (by decide) (by decide) (va_up_self _ _ _) rfl hi60 rfl es1 (lc_up_up _ _ _ _) dX0_countLateRounds_60 rfl ?_
  refine lc_aload_n C (pc' := 62) 0 dX0_countLateRounds_61 rfl rfl ?_
  refine lc_iload_n C (pc' := 63) 3 dX0_countLateRounds_62 rfl rfl ?_
  obtain ⟨r63, h63, h⟩ := lc_bde h
  refine lc_cvi C (pc' := 66) (r := r63) (M' := (va_up M k0 s1)) (As := [.int x3]) (rest := []) (c_X0_isBankrupt S X.2.1 M (k0 := k0) hk x3 s1 r63 h63) kl_RX0_77 (lc_at_b S _ hk) rfl rfl rfl rfl (Nat.le_of_ble_eq_true rfl) ⟨Nat.le_of_ble_eq_true rfl, Nat.le_of_ble_eq_true rfl⟩ ⟨rfl, rfl⟩ (lc_z2 _ _) dX0_countLateRounds_63 rfl ?_
  refine lc_if_eq C (pc' := 69) (tgt := 85) dX0_countLateRounds_66 (by decide) rfl (fun c66 => ?_) (fun c66 => ?_)
  · have h := (lc_if2 h).1 c66
    exact w_X0_countLateRounds_85 C  hk out K4 hK4  x1 x2 x3 s1 h
  · have h := (lc_if2 h).2 c66
    refine lc_aload_n C (pc' := 70) 0 dX0_countLateRounds_69 rfl rfl ?_
    refine lc_iload_n C (pc' := 71) 3 dX0_countLateRounds_70 rfl rfl ?_
    obtain ⟨s2, h71, h⟩ := lc_bde h
    refine lc_cvv C (pc' := 74) (M' := (va_up M k0 s2)) (As := [.int x3]) (rest := []) (c_X0_shareOut S X.2.1 M (k0 := k0) hk x3 s1 s2 h71) kl_RX0_154 (lc_at_b S _ hk) rfl rfl rfl rfl (Nat.le_of_ble_eq_true rfl) ⟨Nat.le_of_ble_eq_true rfl, Nat.le_of_ble_eq_true rfl⟩ ⟨rfl, rfl⟩ (lc_z2 _ _) dX0_countLateRounds_71 rfl ?_
    refine lc_aload_n C (pc' := 75) 0 dX0_countLateRounds_74 rfl rfl ?_
    refine lc_iload_n C (pc' := 76) 3 dX0_countLateRounds_75 rfl rfl ?_
    obtain ⟨s3, h76, h⟩ := lc_bde h
    refine lc_cvv C (pc' := 79) (M' := (va_up M k0 s3)) (As := [.int x3]) (rest := []) (c_X0_dropLoansOf S X.2.1 M (k0 := k0) hk x3 s2 s3 h76) kl_RX0_157 (lc_at_b S _ hk) rfl rfl rfl rfl (Nat.le_of_ble_eq_true rfl) ⟨Nat.le_of_ble_eq_true rfl, Nat.le_of_ble_eq_true rfl⟩ ⟨rfl, rfl⟩ (lc_z2 _ _) dX0_countLateRounds_76 rfl ?_
    refine lc_iload_n C (pc' := 80) 2 dX0_countLateRounds_79 rfl rfl ?_
    refine lc_iconst C (pc' := 81) (v := (1 : Int32)) dX0_countLateRounds_80 (by decide) rfl ?_
    refine lc_iload_n C (pc' := 82) 3 dX0_countLateRounds_81 rfl rfl ?_
    refine lc_ishl C (pc' := 83) dX0_countLateRounds_82 rfl ?_
    refine lc_ior C (pc' := 84) dX0_countLateRounds_83 rfl ?_
    obtain ⟨x2_84, e2_84, h⟩ := lc_let2 h
    rw [e2_84]
    refine lc_istore_n C (pc' := 85) (lo' := [(2, .int x2_84), (0, .ref (lc_ad S (10 * k0))), (1, .int x1), (3, .int x3)]) dX0_countLateRounds_84 (Nat.le_of_ble_eq_true rfl) rfl rfl ?_
    refine lc_sub (lo' := [(0, .ref (lc_ad S (10 * k0))), (1, .int x1), (2, .int x2_84), (3, .int x3)]) [1, 2, 0, 3] rfl ?_
    exact w_X0_countLateRounds_85 C  hk out K4 hK4  x1 x2_84 x3 s3 h
def P_X0_countLateRounds_36 (K4 : Int32 → Int32 → Int32 → lc_St → Option (Int32 × lc_St)) (x1 : Int32) (x2 : Int32) (x3 : Int32) (t0 : Int32) (s : lc_St) : Option (Int32 × lc_St) :=
  if t0 = 0 then P_X0_countLateRounds_60 K4  x1 x2 x3 x3 (0 : Int32) s else lc_if (lc_ok x3 8) (P_X0_countLateRounds_60 K4  x1 x2 x3 x3 ((s 4 x3.toNatClampNeg) + (1 : Int32)) s)
set_option maxRecDepth 100000 in
set_option maxHeartbeats 4000000 in
theorem w_X0_countLateRounds_36 {S : lc_Se} {X : lc_X} (C : lc_C X cX0_countLateRounds RX0 5 (some .int) rm_X0_countLateRounds) {M : lc_MM} {k0 : Nat} (hk : k0 < 19) (out : Int32 × lc_St) (K4 : Int32 → Int32 → Int32 → lc_St → Option (Int32 × lc_St)) (hK4 : ∀ (x1 : Int32) (x2 : Int32) (x3 : Int32) (s : lc_St), K4 x1 x2 x3 s = some out → lc_J S X 5 0 0 (lc_QI S X 0 0 out.1 (va_up M k0 out.2)) 4 [(0, .ref (lc_ad S (10 * k0))), (1, .int x1), (2, .int x2), (3, .int x3)] [] (va_up M k0 s)) : ∀ (x1 : Int32) (x2 : Int32) (x3 : Int32) (t0 : Int32) (s : lc_St), P_X0_countLateRounds_36 K4 x1 x2 x3 t0 s = some out → lc_J S X 5 0 0 (lc_QI S X 0 0 out.1 (va_up M k0 out.2)) 36 [(0, .ref (lc_ad S (10 * k0))), (1, .int x1), (2, .int x2), (3, .int x3)] [.int t0] (va_up M k0 s) := by
  intro x1 x2 x3 t0 s h
  rw [P_X0_countLateRounds_36] at h
  refine lc_istore C (pc' := 38) (lo' := [(4, .int t0), (0, .ref (lc_ad S (10 * k0))), (1, .int x1), (2, .int x2), (3, .int x3)]) dX0_countLateRounds_36 (Nat.le_of_ble_eq_true rfl) rfl rfl ?_
  refine lc_aload_n C (pc' := 39) 1 dX0_countLateRounds_38 rfl rfl ?_
  refine lc_br3 C (pc' := 42) (k0 := k0) hk dX0_countLateRounds_39 kf_RX0_21 rfl ?_
  refine lc_iload_n C (pc' := 43) 4 dX0_countLateRounds_42 rfl rfl ?_
  refine lc_iload C (pc' := 45) 0 dX0_countLateRounds_43 rfl rfl ?_
  refine lc_if_eq C (pc' := 48) (tgt := 59) dX0_countLateRounds_45 (by decide) rfl (fun c45 => ?_) (fun c45 => ?_)
  · have h := (lc_if2 h).1 c45
    refine lc_iconst C (pc' := 60) (v := (0 : Int32)) dX0_countLateRounds_59 (by decide) rfl ?_
    refine lc_sub (lo' := [(0, .ref (lc_ad S (10 * k0))), (1, .int x1), (2, .int x2), (3, .int x3)]) [1, 2, 3, 4] rfl ?_
    exact w_X0_countLateRounds_60 C  hk out K4 hK4  x1 x2 x3 x3 (0 : Int32) s h
  · have h := (lc_if2 h).2 c45
    refine lc_aload_n C (pc' := 49) 1 dX0_countLateRounds_48 rfl rfl ?_
    refine lc_br3 C (pc' := 52) (k0 := k0) hk dX0_countLateRounds_49 kf_RX0_21 rfl ?_
    refine lc_iload_n C (pc' := 53) 4 dX0_countLateRounds_52 rfl rfl ?_
    obtain ⟨hi53, h⟩ := lc_ife h
    refine lc_bald C (pc' := 54) (k0 := k0) (r := 4) (len := 8) (jj := x3.toNatClampNeg) hk (by decide) (by decide) (va_up_self _ _ _) rfl hi53 rfl dX0_countLateRounds_53 rfl ?_
    refine lc_iconst C (pc' := 55) (v := (1 : Int32)) dX0_countLateRounds_54 (by decide) rfl ?_
    refine lc_iadd C (pc' := 56) dX0_countLateRounds_55 rfl ?_
    refine lc_goto C (tgt := 60) dX0_countLateRounds_56 (by decide) ?_
    refine lc_sub (lo' := [(0, .ref (lc_ad S (10 * k0))), (1, .int x1), (2, .int x2), (3, .int x3)]) [1, 2, 3, 4] rfl ?_
    exact w_X0_countLateRounds_60 C  hk out K4 hK4  x1 x2 x3 x3 ((s 4 x3.toNatClampNeg) + (1 : Int32)) s h
def P_X0_countLateRounds_4  : Nat → Int32 → Int32 → Int32 → lc_St → Option (Int32 × lc_St)
  | 0, _, _, _, _ => none
  | n + 1, x1, x2, x3, s =>
    if (s 0 0) ≤ x3 then some (x2, s) else lc_bd (P_X0_isBankrupt x3 s) (fun r14 => if r14 = 0 then if (x1 &&& ((1 : Int32) <<< (x3 &&& 31))) = 0 then P_X0_countLateRounds_36 (fun x1 x2 x3 s => P_X0_countLateRounds_4  n x1 x2 x3 s)  x1 x2 x3 (0 : Int32) s else P_X0_countLateRounds_36 (fun x1 x2 x3 s => P_X0_countLateRounds_4  n x1 x2 x3 s)  x1 x2 x3 (1 : Int32) s else P_X0_countLateRounds_85 (fun x1 x2 x3 s => P_X0_countLateRounds_4  n x1 x2 x3 s)  x1 x2 x3 s)
set_option maxRecDepth 100000 in
set_option maxHeartbeats 4000000 in
theorem w_X0_countLateRounds_4 {S : lc_Se} {X : lc_X} (C : lc_C X cX0_countLateRounds RX0 5 (some .int) rm_X0_countLateRounds) {M : lc_MM} {k0 : Nat} (hk : k0 < 19) (out : Int32 × lc_St)  : ∀ (n : Nat) (x1 : Int32) (x2 : Int32) (x3 : Int32) (s : lc_St), P_X0_countLateRounds_4  n x1 x2 x3 s = some out → lc_J S X 5 0 0 (lc_QI S X 0 0 out.1 (va_up M k0 out.2)) 4 [(0, .ref (lc_ad S (10 * k0))), (1, .int x1), (2, .int x2), (3, .int x3)] [] (va_up M k0 s) := by
  intro n
  induction n with
  | zero =>
    intro x1 x2 x3 s h
    rw [P_X0_countLateRounds_4] at h
    cases h
  | succ n ih =>
    intro x1 x2 x3 s h
    rw [P_X0_countLateRounds_4] at h
    refine lc_iload_n C (pc' := 5) 3 dX0_countLateRounds_4 rfl rfl ?_
    refine lc_aload_n C (pc' := 6) 0 dX0_countLateRounds_5 rfl rfl ?_
    refine lc_bg0 C (pc' := 9) (k0 := k0) hk (va_up_self _ _ _) dX0_countLateRounds_6 kf_RX0_43 rfl ?_
    refine lc_icmp_ge C (pc' := 12) (tgt := 91) dX0_countLateRounds_9 (by decide) rfl (fun c9 => ?_) (fun c9 => ?_)
    · have h := (lc_if2 h).1 c9
      refine lc_iload_n C (pc' := 92) 2 dX0_countLateRounds_91 rfl rfl ?_
      obtain rfl := Option.some.inj h
      exact lc_iret C rfl dX0_countLateRounds_92
    · have h := (lc_if2 h).2 c9
      refine lc_aload_n C (pc' := 13) 0 dX0_countLateRounds_12 rfl rfl ?_
      refine lc_iload_n C (pc' := 14) 3 dX0_countLateRounds_13 rfl rfl ?_
      obtain ⟨r14, h14, h⟩ := lc_bde h
      refine lc_cvi C (pc' := 17) (r := r14) (M' := (va_up M k0 s)) (As := [.int x3]) (rest := []) (c_X0_isBankrupt S X.2.1 M (k0 := k0) hk x3 s r14 h14) kl_RX0_77 (lc_at_b S _ hk) rfl rfl rfl rfl (Nat.le_of_ble_eq_true rfl) ⟨Nat.le_of_ble_eq_true rfl, Nat.le_of_ble_eq_true rfl⟩ ⟨rfl, rfl⟩ (lc_z2 _ _) dX0_countLateRounds_14 rfl ?_
      refine lc_if_eq C (pc' := 20) (tgt := 23) dX0_countLateRounds_17 (by decide) rfl (fun c17 => ?_) (fun c17 => ?_)
      · have h := (lc_if2 h).1 c17
        refine lc_iload_n C (pc' := 24) 1 dX0_countLateRounds_23 rfl rfl ?_
        refine lc_iconst C (pc' := 25) (v := (1 : Int32)) dX0_countLateRounds_24 (by decide) rfl ?_
        refine lc_iload_n C (pc' := 26) 3 dX0_countLateRounds_25 rfl rfl ?_
        refine lc_ishl C (pc' := 27) dX0_countLateRounds_26 rfl ?_
        refine lc_iand C (pc' := 28) dX0_countLateRounds_27 rfl ?_
        refine lc_if_eq C (pc' := 31) (tgt := 35) dX0_countLateRounds_28 (by decide) rfl (fun c28 => ?_) (fun c28 => ?_)
        · have h := (lc_if2 h).1 c28
          refine lc_iconst C (pc' := 36) (v := (0 : Int32)) dX0_countLateRounds_35 (by decide) rfl ?_
          exact w_X0_countLateRounds_36 C  hk out (fun x1 x2 x3 s => P_X0_countLateRounds_4  n x1 x2 x3 s) ih  x1 x2 x3 (0 : Int32) s h
        · have h := (lc_if2 h).2 c28
          refine lc_iconst C (pc' := 32) (v := (1 : Int32)) dX0_countLateRounds_31 (by decide) rfl ?_
          refine lc_goto C (tgt := 36) dX0_countLateRounds_32 (by decide) ?_
          exact w_X0_countLateRounds_36 C  hk out (fun x1 x2 x3 s => P_X0_countLateRounds_4  n x1 x2 x3 s) ih  x1 x2 x3 (1 : Int32) s h
      · have h := (lc_if2 h).2 c17
        refine lc_goto C (tgt := 85) dX0_countLateRounds_20 (by decide) ?_
        exact w_X0_countLateRounds_85 C  hk out (fun x1 x2 x3 s => P_X0_countLateRounds_4  n x1 x2 x3 s) ih  x1 x2 x3 s h
def P_X0_countLateRounds  (x1 : Int32) (s : lc_St) : Option (Int32 × lc_St) :=
  P_X0_countLateRounds_4  lc_FU x1 (0 : Int32) (0 : Int32) s
set_option maxRecDepth 100000 in
set_option maxHeartbeats 4000000 in
theorem c_X0_countLateRounds (S : lc_Se) (l : Launch) (M : lc_MM) {k0 : Nat} (hk : k0 < 19) (x1 : Int32) (s : lc_St) (out : Int32 × lc_St) (h : P_X0_countLateRounds x1 s = some out) : lc_MI S l yX0_countLateRounds cX0_countLateRounds 5 (some .int) rm_X0_countLateRounds [.ref (lc_ad S (10 * k0)), .int x1] (va_up M k0 s) out.1 (va_up M k0 out.2) := by
  refine lc_mkI (own := RX0) pn_RX0 rfl (Nat.le_of_ble_eq_true rfl) (lo := [(0, .ref (lc_ad S (10 * k0))), (1, .int x1)]) rfl (fun X hX C => ?_)
  rw [P_X0_countLateRounds] at h
  refine lc_iconst C (pc' := 1) (v := (0 : Int32)) dX0_countLateRounds_0 (by decide) rfl ?_
  refine lc_istore_n C (pc' := 2) (lo' := [(2, .int (0 : Int32)), (0, .ref (lc_ad S (10 * k0))), (1, .int x1)]) dX0_countLateRounds_1 (Nat.le_of_ble_eq_true rfl) rfl rfl ?_
  refine lc_iconst C (pc' := 3) (v := (0 : Int32)) dX0_countLateRounds_2 (by decide) rfl ?_
  refine lc_istore_n C (pc' := 4) (lo' := [(3, .int (0 : Int32)), (2, .int (0 : Int32)), (0, .ref (lc_ad S (10 * k0))), (1, .int x1)]) dX0_countLateRounds_3 (Nat.le_of_ble_eq_true rfl) rfl rfl ?_
  refine lc_sub (lo' := [(0, .ref (lc_ad S (10 * k0))), (1, .int x1), (2, .int (0 : Int32)), (3, .int (0 : Int32))]) [2, 3, 1, 0] rfl ?_
  exact w_X0_countLateRounds_4 C  hk out  lc_FU x1 (0 : Int32) (0 : Int32) s h
abbrev rm_X0_letRoundGoBy : Room := { frames := 4, cells := 0, slots := 0, locals := 94 }
def P_X0_letRoundGoBy   (s : lc_St) : Option (Int32 × lc_St) :=
  lc_bd (P_X0_leakAll  s) (fun s1 => lc_bd2 (P_X0_burnInterest  s1) (fun r5 s2 => lc_bd2 (P_X0_countLateRounds r5 s2) (fun r11 s3 => lc_let (lc_ss s3 0 2 ((s3 0 2) + (1 : Int32))) (fun s4 => some (r11, s4)))))
set_option maxRecDepth 100000 in
set_option maxHeartbeats 4000000 in
theorem c_X0_letRoundGoBy (S : lc_Se) (l : Launch) (M : lc_MM) {k0 : Nat} (hk : k0 < 19)  (s : lc_St) (out : Int32 × lc_St) (h : P_X0_letRoundGoBy  s = some out) : lc_MI S l yX0_letRoundGoBy cX0_letRoundGoBy 3 (some .int) rm_X0_letRoundGoBy [.ref (lc_ad S (10 * k0))] (va_up M k0 s) out.1 (va_up M k0 out.2) := by
  refine lc_mkI (own := RX0) pn_RX0 rfl (Nat.le_of_ble_eq_true rfl) (lo := [(0, .ref (lc_ad S (10 * k0)))]) rfl (fun X hX C => ?_)
  rw [P_X0_letRoundGoBy] at h
  refine lc_aload_n C (pc' := 1) 0 dX0_letRoundGoBy_0 rfl rfl ?_
  obtain ⟨s1, h1, h⟩ := lc_bde h
  refine lc_cvv C (pc' := 4) (M' := (va_up M k0 s1)) (As := []) (rest := []) (c_X0_leakAll S X.2.1 M (k0 := k0) hk  s s1 h1) kl_RX0_141 (lc_at_b S _ hk) rfl rfl rfl rfl (Nat.le_of_ble_eq_true rfl) ⟨Nat.le_of_ble_eq_true rfl, Nat.le_of_ble_eq_true rfl⟩ ⟨rfl, rfl⟩ (lc_z2 _ _) dX0_letRoundGoBy_1 rfl ?_
  refine lc_aload_n C (pc' := 5) 0 dX0_letRoundGoBy_4 rfl rfl ?_
  obtain ⟨r5, s2, h5, h⟩ := lc_bd2e h
  refine lc_cvi C (pc' := 8) (r := r5) (M' := (va_up M k0 s2)) (As := []) (rest := []) (c_X0_burnInterest S X.2.1 M (k0 := k0) hk  s1 (r5, s2) h5) kl_RX0_144 (lc_at_b S _ hk) rfl rfl rfl rfl (Nat.le_of_ble_eq_true rfl) ⟨Nat.le_of_ble_eq_true rfl, Nat.le_of_ble_eq_true rfl⟩ ⟨rfl, rfl⟩ (lc_z2 _ _) dX0_letRoundGoBy_5 rfl ?_
  refine lc_istore_n C (pc' := 9) (lo' := [(1, .int r5), (0, .ref (lc_ad S (10 * k0)))]) dX0_letRoundGoBy_8 (Nat.le_of_ble_eq_true rfl) rfl rfl ?_
  refine lc_aload_n C (pc' := 10) 1 dX0_letRoundGoBy_9 rfl rfl ?_
  refine lc_iload_n C (pc' := 11) 0 dX0_letRoundGoBy_10 rfl rfl ?_
  obtain ⟨r11, s3, h11, h⟩ := lc_bd2e h
  refine lc_cvi C (pc' := 14) (r := r11) (M' := (va_up M k0 s3)) (As := [.int r5]) (rest := []) (c_X0_countLateRounds S X.2.1 M (k0 := k0) hk r5 s2 (r11, s3) h11) kl_RX0_147 (lc_at_b S _ hk) rfl rfl rfl rfl (Nat.le_of_ble_eq_true rfl) ⟨Nat.le_of_ble_eq_true rfl, Nat.le_of_ble_eq_true rfl⟩ ⟨rfl, rfl⟩ (lc_z2 _ _) dX0_letRoundGoBy_11 rfl ?_
  refine lc_istore_n C (pc' := 15) (lo' := [(2, .int r11), (1, .int r5), (0, .ref (lc_ad S (10 * k0)))]) dX0_letRoundGoBy_14 (Nat.le_of_ble_eq_true rfl) rfl rfl ?_
  refine lc_aload_n C (pc' := 16) 2 dX0_letRoundGoBy_15 rfl rfl ?_
  refine lc_dup C (pc' := 17) dX0_letRoundGoBy_16 rfl rfl ?_
  refine lc_bg2 C (pc' := 20) (k0 := k0) hk (va_up_self _ _ _) dX0_letRoundGoBy_17 kf_RX0_49 rfl ?_
  refine lc_iconst C (pc' := 21) (v := (1 : Int32)) dX0_letRoundGoBy_20 (by decide) rfl ?_
  refine lc_iadd C (pc' := 22) dX0_letRoundGoBy_21 rfl ?_
  obtain ⟨s4, es4, h⟩ := lc_let2 h
  refine lc_bp2 C (pc' := 25) (k0 := k0) (M' := (va_up M k0 s4)) hk (va_up_self _ _ _) es4 (lc_up_up _ _ _ _) dX0_letRoundGoBy_22 kf_RX0_49 rfl ?_
  refine lc_iload_n C (pc' := 26) 0 dX0_letRoundGoBy_25 rfl rfl ?_
  obtain rfl := Option.some.inj h
  exact lc_iret C rfl dX0_letRoundGoBy_26
abbrev rm_X0_letRoundsGoBy : Room := { frames := 5, cells := 0, slots := 0, locals := 116 }
def P_X0_letRoundsGoBy_4  : Nat → Int32 → Int32 → Int32 → lc_St → Option (Int32 × lc_St)
  | 0, _, _, _, _ => none
  | n + 1, x1, x2, x3, s =>
    if x1 ≤ x3 then some (x2, s) else lc_bd2 (P_X0_letRoundGoBy  s) (fun r11 s1 => lc_let (x2 ||| r11) (fun x2_15 => lc_let (x3 + (1 : Int32)) (fun x3_16 => P_X0_letRoundsGoBy_4  n x1 x2_15 x3_16 s1)))
set_option maxRecDepth 100000 in
set_option maxHeartbeats 4000000 in
theorem w_X0_letRoundsGoBy_4 {S : lc_Se} {X : lc_X} (C : lc_C X cX0_letRoundsGoBy RX0 4 (some .int) rm_X0_letRoundsGoBy) {M : lc_MM} {k0 : Nat} (hk : k0 < 19) (out : Int32 × lc_St)  : ∀ (n : Nat) (x1 : Int32) (x2 : Int32) (x3 : Int32) (s : lc_St), P_X0_letRoundsGoBy_4  n x1 x2 x3 s = some out → lc_J S X 4 0 0 (lc_QI S X 0 0 out.1 (va_up M k0 out.2)) 4 [(0, .ref (lc_ad S (10 * k0))), (1, .int x1), (2, .int x2), (3, .int x3)] [] (va_up M k0 s) := by
  intro n
  induction n with
  | zero =>
    intro x1 x2 x3 s h
    rw [P_X0_letRoundsGoBy_4] at h
    cases h
  | succ n ih =>
    intro x1 x2 x3 s h
    rw [P_X0_letRoundsGoBy_4] at h
    refine lc_iload_n C (pc' := 5) 3 dX0_letRoundsGoBy_4 rfl rfl ?_
    refine lc_iload_n C (pc' := 6) 1 dX0_letRoundsGoBy_5 rfl rfl ?_
    refine lc_icmp_ge C (pc' := 9) (tgt := 22) dX0_letRoundsGoBy_6 (by decide) rfl (fun c6 => ?_) (fun c6 => ?_)
    · have h := (lc_if2 h).1 c6
      refine lc_iload_n C (pc' := 23) 2 dX0_letRoundsGoBy_22 rfl rfl ?_
      obtain rfl := Option.some.inj h
      exact lc_iret C rfl dX0_letRoundsGoBy_23
    · have h := (lc_if2 h).2 c6
      refine lc_iload_n C (pc' := 10) 2 dX0_letRoundsGoBy_9 rfl rfl ?_
      refine lc_aload_n C (pc' := 11) 0 dX0_letRoundsGoBy_10 rfl rfl ?_
      obtain ⟨r11, s1, h11, h⟩ := lc_bd2e h
      refine lc_cvi C (pc' := 14) (r := r11) (M' := (va_up M k0 s1)) (As := []) (rest := [.int x2]) (c_X0_letRoundGoBy S X.2.1 M (k0 := k0) hk  s (r11, s1) h11) kl_RX0_137 (lc_at_b S _ hk) rfl rfl rfl rfl (Nat.le_of_ble_eq_true rfl) ⟨Nat.le_of_ble_eq_true rfl, Nat.le_of_ble_eq_true rfl⟩ ⟨rfl, rfl⟩ (lc_z2 _ _) dX0_letRoundsGoBy_11 rfl ?_
      refine lc_ior C (pc' := 15) dX0_letRoundsGoBy_14 rfl ?_
      obtain ⟨x2_15, e2_15, h⟩ := lc_let2 h
      rw [e2_15]
      refine lc_istore_n C (pc' := 16) (lo' := [(2, .int x2_15), (0, .ref (lc_ad S (10 * k0))), (1, .int x1), (3, .int x3)]) dX0_letRoundsGoBy_15 (Nat.le_of_ble_eq_true rfl) rfl rfl ?_
      obtain ⟨x3_16, e3_16, h⟩ := lc_let2 h
      refine lc_iinc C (pc' := 19) (lo' := [(3, .int x3_16), (2, .int x2_15), (0, .ref (lc_ad S (10 * k0))), (1, .int x1)]) (q := 3) dX0_letRoundsGoBy_16 rfl (by rw [← e3_16]; rfl) (Nat.le_of_ble_eq_true rfl) rfl rfl ?_
      refine lc_goto C (tgt := 4) dX0_letRoundsGoBy_19 (by decide) ?_
      refine lc_sub (lo' := [(0, .ref (lc_ad S (10 * k0))), (1, .int x1), (2, .int x2_15), (3, .int x3_16)]) [2, 3, 1, 0] rfl ?_
      exact ih x1 x2_15 x3_16 s1 h
def P_X0_letRoundsGoBy  (x1 : Int32) (s : lc_St) : Option (Int32 × lc_St) :=
  P_X0_letRoundsGoBy_4  lc_FU x1 (0 : Int32) (0 : Int32) s
set_option maxRecDepth 100000 in
set_option maxHeartbeats 4000000 in
theorem c_X0_letRoundsGoBy (S : lc_Se) (l : Launch) (M : lc_MM) {k0 : Nat} (hk : k0 < 19) (x1 : Int32) (s : lc_St) (out : Int32 × lc_St) (h : P_X0_letRoundsGoBy x1 s = some out) : lc_MI S l yX0_letRoundsGoBy cX0_letRoundsGoBy 4 (some .int) rm_X0_letRoundsGoBy [.ref (lc_ad S (10 * k0)), .int x1] (va_up M k0 s) out.1 (va_up M k0 out.2) := by
  refine lc_mkI (own := RX0) pn_RX0 rfl (Nat.le_of_ble_eq_true rfl) (lo := [(0, .ref (lc_ad S (10 * k0))), (1, .int x1)]) rfl (fun X hX C => ?_)
  rw [P_X0_letRoundsGoBy] at h
  refine lc_iconst C (pc' := 1) (v := (0 : Int32)) dX0_letRoundsGoBy_0 (by decide) rfl ?_
  refine lc_istore_n C (pc' := 2) (lo' := [(2, .int (0 : Int32)), (0, .ref (lc_ad S (10 * k0))), (1, .int x1)]) dX0_letRoundsGoBy_1 (Nat.le_of_ble_eq_true rfl) rfl rfl ?_
  refine lc_iconst C (pc' := 3) (v := (0 : Int32)) dX0_letRoundsGoBy_2 (by decide) rfl ?_
  refine lc_istore_n C (pc' := 4) (lo' := [(3, .int (0 : Int32)), (2, .int (0 : Int32)), (0, .ref (lc_ad S (10 * k0))), (1, .int x1)]) dX0_letRoundsGoBy_3 (Nat.le_of_ble_eq_true rfl) rfl rfl ?_
  refine lc_sub (lo' := [(0, .ref (lc_ad S (10 * k0))), (1, .int x1), (2, .int (0 : Int32)), (3, .int (0 : Int32))]) [2, 3, 1, 0] rfl ?_
  exact w_X0_letRoundsGoBy_4 C  hk out  lc_FU x1 (0 : Int32) (0 : Int32) s h
