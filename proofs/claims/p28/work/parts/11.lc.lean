abbrev rm_X1_remember : Room := { frames := 2, cells := 0, slots := 0, locals := 61 }
def P_X1_remember (k0 : Nat)  (M : lc_MM) : Option (lc_MM) :=
  lc_let (((M 20) 0 0) + ((M 20) 0 1)) (fun y15 => lc_if (lc_ok (y15 - y15 / (14 : Int32) * (14 : Int32)) 14) (lc_bd (P_X0_copyFrom  (M k0) (M (5 + (y15 - y15 / (14 : Int32) * (14 : Int32)).toNatClampNeg))) (fun s1 => lc_let (va_up M (5 + (y15 - y15 / (14 : Int32) * (14 : Int32)).toNatClampNeg) s1) (fun M2 => if (14 : Int32) ≤ ((M2 20) 0 1) then lc_let (((M2 20) 0 0) + (1 : Int32)) (fun y52 => lc_let (lc_ss (M2 20) 0 0 (y52 - y52 / (14 : Int32) * (14 : Int32))) (fun s3 => lc_let (va_up M2 20 s3) (fun M4 => some M4))) else lc_let (lc_ss (M2 20) 0 1 (((M2 20) 0 1) + (1 : Int32))) (fun s5 => lc_let (va_up M2 20 s5) (fun M6 => some M6))))))
set_option maxRecDepth 100000 in
set_option maxHeartbeats 4000000 in
theorem c_X1_remember (S : lc_Se) (l : Launch)  {k0 : Nat} (hk5 : k0 < 5)  (M : lc_MM) (out : lc_MM) (h : P_X1_remember k0  M = some out) : lc_MV S l yX1_remember cX1_remember 2 none rm_X1_remember [.ref (lc_ad S 192), .ref (lc_ad S (10 * k0))] M  out := by
  refine lc_mkV (own := RX1) pn_RX1 rfl (Nat.le_of_ble_eq_true rfl) (lo := [(0, .ref (lc_ad S 192)), (1, .ref (lc_ad S (10 * k0)))]) rfl (fun X hX C => ?_)
  rw [P_X1_remember] at h
  refine lc_aload_n C (pc' := 1) 0 dX1_remember_0 rfl rfl ?_
  refine lc_g192_states C (pc' := 4) (s := (M 20)) rfl dX1_remember_1 kf_RX1_11 rfl ?_
  refine lc_aload_n C (pc' := 5) 0 dX1_remember_4 rfl rfl ?_
  refine lc_g192_first C (pc' := 8) rfl dX1_remember_5 kf_RX1_18 rfl ?_
  refine lc_aload_n C (pc' := 9) 0 dX1_remember_8 rfl rfl ?_
  refine lc_g192_count C (pc' := 12) rfl dX1_remember_9 kf_RX1_22 rfl ?_
  refine lc_iadd C (pc' := 13) dX1_remember_12 rfl ?_
  refine lc_bipush C (pc' := 15) (v := (14 : Int32)) dX1_remember_13 (by decide) rfl ?_
  obtain ⟨y15, ey15, h⟩ := lc_let2 h
  rw [ey15]
  refine lc_irem C (pc' := 16) dX1_remember_15 (by decide) rfl ?_
  obtain ⟨hi16, h⟩ := lc_ife h
  refine lc_ld193 C (pc' := 17) (jj := (y15 - y15 / (14 : Int32) * (14 : Int32)).toNatClampNeg) hi16 rfl dX1_remember_16 rfl ?_
  refine lc_aload_n C (pc' := 18) 1 dX1_remember_17 rfl rfl ?_
  refine lc_meq (lc_two M k0 (5 + (y15 - y15 / (14 : Int32) * (14 : Int32)).toNatClampNeg)).symm ?_
  obtain ⟨s1, h18, h⟩ := lc_bde h
  refine lc_cvv C (pc' := 21) (M' := (va_up (va_up M k0 (M k0)) (5 + (y15 - y15 / (14 : Int32) * (14 : Int32)).toNatClampNeg) s1)) (As := [.ref (lc_ad S (10 * k0))]) (rest := []) (c_X0_copyFrom S X.2.1 M (k0 := (5 + (y15 - y15 / (14 : Int32) * (14 : Int32)).toNatClampNeg)) (k1 := k0) (lc_k19_5 hi16) (Nat.lt_trans hk5 (by decide)) (by omega)  (M k0) (M (5 + (y15 - y15 / (14 : Int32) * (14 : Int32)).toNatClampNeg)) s1 h18) kl_RX1_25 (lc_at_b S _ (lc_k19_5 hi16)) rfl rfl rfl rfl (Nat.le_of_ble_eq_true rfl) ⟨Nat.le_of_ble_eq_true rfl, Nat.le_of_ble_eq_true rfl⟩ ⟨rfl, rfl⟩ (lc_z2 _ _) dX1_remember_18 rfl ?_
  rw [lc_up_self M k0]
  obtain ⟨M2, eM2, h⟩ := lc_let2 h
  refine lc_meq eM2 ?_
  refine lc_aload_n C (pc' := 22) 0 dX1_remember_21 rfl rfl ?_
  refine lc_g192_count C (pc' := 25) rfl dX1_remember_22 kf_RX1_22 rfl ?_
  refine lc_bipush C (pc' := 27) (v := (14 : Int32)) dX1_remember_25 (by decide) rfl ?_
  refine lc_icmp_ge C (pc' := 30) (tgt := 43) dX1_remember_27 (by decide) rfl (fun c27 => ?_) (fun c27 => ?_)
  · have h := (lc_if2 h).1 c27
    refine lc_aload_n C (pc' := 44) 0 dX1_remember_43 rfl rfl ?_
    refine lc_aload_n C (pc' := 45) 0 dX1_remember_44 rfl rfl ?_
    refine lc_g192_first C (pc' := 48) rfl dX1_remember_45 kf_RX1_18 rfl ?_
    refine lc_iconst C (pc' := 49) (v := (1 : Int32)) dX1_remember_48 (by decide) rfl ?_
    refine lc_iadd C (pc' := 50) dX1_remember_49 rfl ?_
    refine lc_bipush C (pc' := 52) (v := (14 : Int32)) dX1_remember_50 (by decide) rfl ?_
    obtain ⟨y52, ey52, h⟩ := lc_let2 h
    rw [ey52]
    refine lc_irem C (pc' := 53) dX1_remember_52 (by decide) rfl ?_
    obtain ⟨s3, es3, h⟩ := lc_let2 h
    obtain ⟨M4, eM4, h⟩ := lc_let2 h
    refine lc_p192_first C (pc' := 56) (M' := M4) rfl es3 eM4 dX1_remember_53 kf_RX1_18 rfl ?_
    obtain rfl := Option.some.inj h
    exact lc_vret C rfl dX1_remember_56
  · have h := (lc_if2 h).2 c27
    refine lc_aload_n C (pc' := 31) 0 dX1_remember_30 rfl rfl ?_
    refine lc_dup C (pc' := 32) dX1_remember_31 rfl rfl ?_
    refine lc_g192_count C (pc' := 35) rfl dX1_remember_32 kf_RX1_22 rfl ?_
    refine lc_iconst C (pc' := 36) (v := (1 : Int32)) dX1_remember_35 (by decide) rfl ?_
    refine lc_iadd C (pc' := 37) dX1_remember_36 rfl ?_
    obtain ⟨s5, es5, h⟩ := lc_let2 h
    obtain ⟨M6, eM6, h⟩ := lc_let2 h
    refine lc_p192_count C (pc' := 40) (M' := M6) rfl es5 eM6 dX1_remember_37 kf_RX1_22 rfl ?_
    refine lc_goto C (tgt := 56) dX1_remember_40 (by decide) ?_
    obtain rfl := Option.some.inj h
    exact lc_vret C rfl dX1_remember_56
abbrev rm_X3_about : Room := { frames := 2, cells := 0, slots := 0, locals := 43 }
def P_X3_about  (x1 : Int32) (M : lc_MM) : Option (Int32 × lc_MM) :=
  if x1 = (0 : Int32) then some (((M 0) 0 0), M) else if x1 = (1 : Int32) then some (((M 0) 0 1), M) else if x1 = (2 : Int32) then some (((M 0) 0 2), M) else if x1 = (3 : Int32) then lc_bd (P_X0_allCharge  (M 0)) (fun r84 => some (r84, M)) else if x1 = (4 : Int32) then some (((M 0) 0 3), M) else if x1 = (5 : Int32) then some (((M 0) 0 4), M) else if x1 = (6 : Int32) then some (((M 0) 0 5), M) else if x1 = (7 : Int32) then lc_bd (P_X0_allOwed  (M 0)) (fun r116 => some (r116, M)) else if x1 = (8 : Int32) then some (((M 0) 0 6), M) else if x1 = (9 : Int32) then lc_bd (P_X0_bankruptCells  (M 0)) (fun r132 => some (r132, M)) else none
set_option maxRecDepth 100000 in
set_option maxHeartbeats 4000000 in
theorem c_X3_about (S : lc_Se) (l : Launch)   (x1 : Int32) (M : lc_MM) (out : Int32 × lc_MM) (h : P_X3_about x1 M = some out) : lc_MI S l yX3_about cX3_about 2 (some .int) rm_X3_about [.ref (lc_ad S 194), .int x1] M out.1 out.2 := by
  refine lc_mkI (own := RX3) pn_RX3 rfl (Nat.le_of_ble_eq_true rfl) (lo := [(0, .ref (lc_ad S 194)), (1, .int x1)]) rfl (fun X hX C => ?_)
  rw [P_X3_about] at h
  refine lc_iload_n C (pc' := 1) 1 dX3_about_0 rfl rfl ?_
  by_cases q1_0 : x1 = (0 : Int32)
  · have h := (lc_if2 h).1 q1_0
    refine lc_tabIn C (tgt := 56) dX3_about_1 (0 : Int) (by rw [q1_0]; decide) (by decide) (by decide) rfl (by decide) ?_
    refine lc_aload_n C (pc' := 57) 0 dX3_about_56 rfl rfl ?_
    refine lc_g194_now C (pc' := 60) (s := (M 21)) rfl dX3_about_57 kf_RX3_19 rfl ?_
    refine lc_bg0 C (pc' := 63) (k0 := 0) (by decide) rfl dX3_about_60 kf_RX3_84 rfl ?_
    obtain rfl := Option.some.inj h
    exact lc_iret C rfl dX3_about_63
  have h := (lc_if2 h).2 q1_0
  by_cases q1_1 : x1 = (1 : Int32)
  · have h := (lc_if2 h).1 q1_1
    refine lc_tabIn C (tgt := 64) dX3_about_1 (1 : Int) (by rw [q1_1]; decide) (by decide) (by decide) rfl (by decide) ?_
    refine lc_aload_n C (pc' := 65) 0 dX3_about_64 rfl rfl ?_
    refine lc_g194_now C (pc' := 68) (s := (M 21)) rfl dX3_about_65 kf_RX3_19 rfl ?_
    refine lc_bg1 C (pc' := 71) (k0 := 0) (by decide) rfl dX3_about_68 kf_RX3_87 rfl ?_
    obtain rfl := Option.some.inj h
    exact lc_iret C rfl dX3_about_71
  have h := (lc_if2 h).2 q1_1
  by_cases q1_2 : x1 = (2 : Int32)
  · have h := (lc_if2 h).1 q1_2
    refine lc_tabIn C (tgt := 72) dX3_about_1 (2 : Int) (by rw [q1_2]; decide) (by decide) (by decide) rfl (by decide) ?_
    refine lc_aload_n C (pc' := 73) 0 dX3_about_72 rfl rfl ?_
    refine lc_g194_now C (pc' := 76) (s := (M 21)) rfl dX3_about_73 kf_RX3_19 rfl ?_
    refine lc_bg2 C (pc' := 79) (k0 := 0) (by decide) rfl dX3_about_76 kf_RX3_90 rfl ?_
    obtain rfl := Option.some.inj h
    exact lc_iret C rfl dX3_about_79
  have h := (lc_if2 h).2 q1_2
  by_cases q1_3 : x1 = (3 : Int32)
  · have h := (lc_if2 h).1 q1_3
    refine lc_tabIn C (tgt := 80) dX3_about_1 (3 : Int) (by rw [q1_3]; decide) (by decide) (by decide) rfl (by decide) ?_
    refine lc_aload_n C (pc' := 81) 0 dX3_about_80 rfl rfl ?_
    refine lc_g194_now C (pc' := 84) (s := (M 21)) rfl dX3_about_81 kf_RX3_19 rfl ?_
    refine lc_meq (lc_up_self M 0).symm ?_
    obtain ⟨r84, h84, h⟩ := lc_bde h
    refine lc_cvi C (pc' := 87) (r := r84) (M' := (va_up M 0 (M 0))) (As := []) (rest := []) (c_X0_allCharge S X.2.1 M (k0 := 0) (by decide)  (M 0) r84 h84) kl_RX3_93 (lc_at_b S _ (by decide)) rfl rfl rfl rfl (Nat.le_of_ble_eq_true rfl) ⟨Nat.le_of_ble_eq_true rfl, Nat.le_of_ble_eq_true rfl⟩ ⟨rfl, rfl⟩ (lc_z2 _ _) dX3_about_84 rfl ?_
    refine lc_meq (lc_up_self M 0) ?_
    obtain rfl := Option.some.inj h
    exact lc_iret C rfl dX3_about_87
  have h := (lc_if2 h).2 q1_3
  by_cases q1_4 : x1 = (4 : Int32)
  · have h := (lc_if2 h).1 q1_4
    refine lc_tabIn C (tgt := 88) dX3_about_1 (4 : Int) (by rw [q1_4]; decide) (by decide) (by decide) rfl (by decide) ?_
    refine lc_aload_n C (pc' := 89) 0 dX3_about_88 rfl rfl ?_
    refine lc_g194_now C (pc' := 92) (s := (M 21)) rfl dX3_about_89 kf_RX3_19 rfl ?_
    refine lc_bg3 C (pc' := 95) (k0 := 0) (by decide) rfl dX3_about_92 kf_RX3_97 rfl ?_
    obtain rfl := Option.some.inj h
    exact lc_iret C rfl dX3_about_95
  have h := (lc_if2 h).2 q1_4
  by_cases q1_5 : x1 = (5 : Int32)
  · have h := (lc_if2 h).1 q1_5
    refine lc_tabIn C (tgt := 96) dX3_about_1 (5 : Int) (by rw [q1_5]; decide) (by decide) (by decide) rfl (by decide) ?_
    refine lc_aload_n C (pc' := 97) 0 dX3_about_96 rfl rfl ?_
    refine lc_g194_now C (pc' := 100) (s := (M 21)) rfl dX3_about_97 kf_RX3_19 rfl ?_
    refine lc_bg4 C (pc' := 103) (k0 := 0) (by decide) rfl dX3_about_100 kf_RX3_100 rfl ?_
    obtain rfl := Option.some.inj h
    exact lc_iret C rfl dX3_about_103
  have h := (lc_if2 h).2 q1_5
  by_cases q1_6 : x1 = (6 : Int32)
  · have h := (lc_if2 h).1 q1_6
    refine lc_tabIn C (tgt := 104) dX3_about_1 (6 : Int) (by rw [q1_6]; decide) (by decide) (by decide) rfl (by decide) ?_
    refine lc_aload_n C (pc' := 105) 0 dX3_about_104 rfl rfl ?_
    refine lc_g194_now C (pc' := 108) (s := (M 21)) rfl dX3_about_105 kf_RX3_19 rfl ?_
    refine lc_bg5 C (pc' := 111) (k0 := 0) (by decide) rfl dX3_about_108 kf_RX3_103 rfl ?_
    obtain rfl := Option.some.inj h
    exact lc_iret C rfl dX3_about_111
  have h := (lc_if2 h).2 q1_6
  by_cases q1_7 : x1 = (7 : Int32)
  · have h := (lc_if2 h).1 q1_7
    refine lc_tabIn C (tgt := 112) dX3_about_1 (7 : Int) (by rw [q1_7]; decide) (by decide) (by decide) rfl (by decide) ?_
    refine lc_aload_n C (pc' := 113) 0 dX3_about_112 rfl rfl ?_
    refine lc_g194_now C (pc' := 116) (s := (M 21)) rfl dX3_about_113 kf_RX3_19 rfl ?_
    refine lc_meq (lc_up_self M 0).symm ?_
    obtain ⟨r116, h116, h⟩ := lc_bde h
    refine lc_cvi C (pc' := 119) (r := r116) (M' := (va_up M 0 (M 0))) (As := []) (rest := []) (c_X0_allOwed S X.2.1 M (k0 := 0) (by decide)  (M 0) r116 h116) kl_RX3_106 (lc_at_b S _ (by decide)) rfl rfl rfl rfl (Nat.le_of_ble_eq_true rfl) ⟨Nat.le_of_ble_eq_true rfl, Nat.le_of_ble_eq_true rfl⟩ ⟨rfl, rfl⟩ (lc_z2 _ _) dX3_about_116 rfl ?_
    refine lc_meq (lc_up_self M 0) ?_
    obtain rfl := Option.some.inj h
    exact lc_iret C rfl dX3_about_119
  have h := (lc_if2 h).2 q1_7
  by_cases q1_8 : x1 = (8 : Int32)
  · have h := (lc_if2 h).1 q1_8
    refine lc_tabIn C (tgt := 120) dX3_about_1 (8 : Int) (by rw [q1_8]; decide) (by decide) (by decide) rfl (by decide) ?_
    refine lc_aload_n C (pc' := 121) 0 dX3_about_120 rfl rfl ?_
    refine lc_g194_now C (pc' := 124) (s := (M 21)) rfl dX3_about_121 kf_RX3_19 rfl ?_
    refine lc_bg6 C (pc' := 127) (k0 := 0) (by decide) rfl dX3_about_124 kf_RX3_109 rfl ?_
    obtain rfl := Option.some.inj h
    exact lc_iret C rfl dX3_about_127
  have h := (lc_if2 h).2 q1_8
  by_cases q1_9 : x1 = (9 : Int32)
  · have h := (lc_if2 h).1 q1_9
    refine lc_tabIn C (tgt := 128) dX3_about_1 (9 : Int) (by rw [q1_9]; decide) (by decide) (by decide) rfl (by decide) ?_
    refine lc_aload_n C (pc' := 129) 0 dX3_about_128 rfl rfl ?_
    refine lc_g194_now C (pc' := 132) (s := (M 21)) rfl dX3_about_129 kf_RX3_19 rfl ?_
    refine lc_meq (lc_up_self M 0).symm ?_
    obtain ⟨r132, h132, h⟩ := lc_bde h
    refine lc_cvi C (pc' := 135) (r := r132) (M' := (va_up M 0 (M 0))) (As := []) (rest := []) (c_X0_bankruptCells S X.2.1 M (k0 := 0) (by decide)  (M 0) r132 h132) kl_RX3_112 (lc_at_b S _ (by decide)) rfl rfl rfl rfl (Nat.le_of_ble_eq_true rfl) ⟨Nat.le_of_ble_eq_true rfl, Nat.le_of_ble_eq_true rfl⟩ ⟨rfl, rfl⟩ (lc_z2 _ _) dX3_about_132 rfl ?_
    refine lc_meq (lc_up_self M 0) ?_
    obtain rfl := Option.some.inj h
    exact lc_iret C rfl dX3_about_135
  have h := (lc_if2 h).2 q1_9
  refine lc_tabOut C (tgt := 136) dX3_about_1 (by have n0 : x1.toInt ≠ 0 := fun q => q1_0 (Int32.toInt_inj.mp q); have n1 : x1.toInt ≠ 1 := fun q => q1_1 (Int32.toInt_inj.mp q); have n2 : x1.toInt ≠ 2 := fun q => q1_2 (Int32.toInt_inj.mp q); have n3 : x1.toInt ≠ 3 := fun q => q1_3 (Int32.toInt_inj.mp q); have n4 : x1.toInt ≠ 4 := fun q => q1_4 (Int32.toInt_inj.mp q); have n5 : x1.toInt ≠ 5 := fun q => q1_5 (Int32.toInt_inj.mp q); have n6 : x1.toInt ≠ 6 := fun q => q1_6 (Int32.toInt_inj.mp q); have n7 : x1.toInt ≠ 7 := fun q => q1_7 (Int32.toInt_inj.mp q); have n8 : x1.toInt ≠ 8 := fun q => q1_8 (Int32.toInt_inj.mp q); have n9 : x1.toInt ≠ 9 := fun q => q1_9 (Int32.toInt_inj.mp q); omega) (by decide) ?_
  cases h
abbrev rm_X3_cell : Room := { frames := 3, cells := 0, slots := 0, locals := 65 }
def P_X3_cell  (x1 : Int32) (x2 : Int32) (M : lc_MM) : Option (Int32 × lc_MM) :=
  lc_bd (P_X0_hasCell x1 (M 0)) (fun r5 => if r5 = 0 then none else if x2 = (0 : Int32) then lc_if (lc_ok x1 8) (some (((M 0) 1 x1.toNatClampNeg), M)) else if x2 = (1 : Int32) then lc_if (lc_ok x1 8) (some (((M 0) 2 x1.toNatClampNeg), M)) else if x2 = (2 : Int32) then lc_if (lc_ok x1 8) (some (((M 0) 3 x1.toNatClampNeg), M)) else if x2 = (3 : Int32) then lc_if (lc_ok x1 8) (some (((M 0) 4 x1.toNatClampNeg), M)) else if x2 = (4 : Int32) then lc_bd (P_X0_owedBy x1 (M 0)) (fun r113 => some (r113, M)) else if x2 = (5 : Int32) then lc_bd (P_X0_owedTo x1 (M 0)) (fun r122 => some (r122, M)) else if x2 = (6 : Int32) then lc_bd (P_X0_interestBy x1 (M 0)) (fun r131 => some (r131, M)) else if x2 = (7 : Int32) then lc_bd (P_X0_kindOf x1 (M 0)) (fun r140 => some (r140, M)) else none)
set_option maxRecDepth 100000 in
set_option maxHeartbeats 4000000 in
theorem c_X3_cell (S : lc_Se) (l : Launch)   (x1 : Int32) (x2 : Int32) (M : lc_MM) (out : Int32 × lc_MM) (h : P_X3_cell x1 x2 M = some out) : lc_MI S l yX3_cell cX3_cell 3 (some .int) rm_X3_cell [.ref (lc_ad S 194), .int x1, .int x2] M out.1 out.2 := by
  refine lc_mkI (own := RX3) pn_RX3 rfl (Nat.le_of_ble_eq_true rfl) (lo := [(0, .ref (lc_ad S 194)), (1, .int x1), (2, .int x2)]) rfl (fun X hX C => ?_)
  rw [P_X3_cell] at h
  refine lc_aload_n C (pc' := 1) 0 dX3_cell_0 rfl rfl ?_
  refine lc_g194_now C (pc' := 4) (s := (M 21)) rfl dX3_cell_1 kf_RX3_19 rfl ?_
  refine lc_iload_n C (pc' := 5) 1 dX3_cell_4 rfl rfl ?_
  refine lc_meq (lc_up_self M 0).symm ?_
  obtain ⟨r5, h5, h⟩ := lc_bde h
  refine lc_cvi C (pc' := 8) (r := r5) (M' := (va_up M 0 (M 0))) (As := [.int x1]) (rest := []) (c_X0_hasCell S X.2.1 M (k0 := 0) (by decide) x1 (M 0) r5 h5) kl_RX3_117 (lc_at_b S _ (by decide)) rfl rfl rfl rfl (Nat.le_of_ble_eq_true rfl) ⟨Nat.le_of_ble_eq_true rfl, Nat.le_of_ble_eq_true rfl⟩ ⟨rfl, rfl⟩ (lc_z2 _ _) dX3_cell_5 rfl ?_
  refine lc_meq (lc_up_self M 0) ?_
  refine lc_if_ne C (pc' := 11) (tgt := 21) dX3_cell_8 (by decide) rfl (fun c8 => ?_) (fun c8 => ?_)
  · have h := (lc_if2 h).2 c8
    refine lc_iload_n C (pc' := 22) 2 dX3_cell_21 rfl rfl ?_
    by_cases q22_0 : x2 = (0 : Int32)
    · have h := (lc_if2 h).1 q22_0
      refine lc_tabIn C (tgt := 68) dX3_cell_22 (0 : Int) (by rw [q22_0]; decide) (by decide) (by decide) rfl (by decide) ?_
      refine lc_aload_n C (pc' := 69) 0 dX3_cell_68 rfl rfl ?_
      refine lc_g194_now C (pc' := 72) (s := (M 21)) rfl dX3_cell_69 kf_RX3_19 rfl ?_
      refine lc_br0 C (pc' := 75) (k0 := 0) (by decide) dX3_cell_72 kf_RX3_126 rfl ?_
      refine lc_iload_n C (pc' := 76) 1 dX3_cell_75 rfl rfl ?_
      obtain ⟨hi76, h⟩ := lc_ife h
      refine lc_bald C (pc' := 77) (k0 := 0) (r := 1) (len := 8) (jj := x1.toNatClampNeg) (by decide) (by decide) (by decide) rfl rfl hi76 rfl dX3_cell_76 rfl ?_
      obtain rfl := Option.some.inj h
      exact lc_iret C rfl dX3_cell_77
    have h := (lc_if2 h).2 q22_0
    by_cases q22_1 : x2 = (1 : Int32)
    · have h := (lc_if2 h).1 q22_1
      refine lc_tabIn C (tgt := 78) dX3_cell_22 (1 : Int) (by rw [q22_1]; decide) (by decide) (by decide) rfl (by decide) ?_
      refine lc_aload_n C (pc' := 79) 0 dX3_cell_78 rfl rfl ?_
      refine lc_g194_now C (pc' := 82) (s := (M 21)) rfl dX3_cell_79 kf_RX3_19 rfl ?_
      refine lc_br1 C (pc' := 85) (k0 := 0) (by decide) dX3_cell_82 kf_RX3_130 rfl ?_
      refine lc_iload_n C (pc' := 86) 1 dX3_cell_85 rfl rfl ?_
      obtain ⟨hi86, h⟩ := lc_ife h
      refine lc_bald C (pc' := 87) (k0 := 0) (r := 2) (len := 8) (jj := x1.toNatClampNeg) (by decide) (by decide) (by decide) rfl rfl hi86 rfl dX3_cell_86 rfl ?_
      obtain rfl := Option.some.inj h
      exact lc_iret C rfl dX3_cell_87
    have h := (lc_if2 h).2 q22_1
    by_cases q22_2 : x2 = (2 : Int32)
    · have h := (lc_if2 h).1 q22_2
      refine lc_tabIn C (tgt := 88) dX3_cell_22 (2 : Int) (by rw [q22_2]; decide) (by decide) (by decide) rfl (by decide) ?_
      refine lc_aload_n C (pc' := 89) 0 dX3_cell_88 rfl rfl ?_
      refine lc_g194_now C (pc' := 92) (s := (M 21)) rfl dX3_cell_89 kf_RX3_19 rfl ?_
      refine lc_br2 C (pc' := 95) (k0 := 0) (by decide) dX3_cell_92 kf_RX3_133 rfl ?_
      refine lc_iload_n C (pc' := 96) 1 dX3_cell_95 rfl rfl ?_
      obtain ⟨hi96, h⟩ := lc_ife h
      refine lc_bald C (pc' := 97) (k0 := 0) (r := 3) (len := 8) (jj := x1.toNatClampNeg) (by decide) (by decide) (by decide) rfl rfl hi96 rfl dX3_cell_96 rfl ?_
      obtain rfl := Option.some.inj h
      exact lc_iret C rfl dX3_cell_97
    have h := (lc_if2 h).2 q22_2
    by_cases q22_3 : x2 = (3 : Int32)
    · have h := (lc_if2 h).1 q22_3
      refine lc_tabIn C (tgt := 98) dX3_cell_22 (3 : Int) (by rw [q22_3]; decide) (by decide) (by decide) rfl (by decide) ?_
      refine lc_aload_n C (pc' := 99) 0 dX3_cell_98 rfl rfl ?_
      refine lc_g194_now C (pc' := 102) (s := (M 21)) rfl dX3_cell_99 kf_RX3_19 rfl ?_
      refine lc_br3 C (pc' := 105) (k0 := 0) (by decide) dX3_cell_102 kf_RX3_136 rfl ?_
      refine lc_iload_n C (pc' := 106) 1 dX3_cell_105 rfl rfl ?_
      obtain ⟨hi106, h⟩ := lc_ife h
      refine lc_bald C (pc' := 107) (k0 := 0) (r := 4) (len := 8) (jj := x1.toNatClampNeg) (by decide) (by decide) (by decide) rfl rfl hi106 rfl dX3_cell_106 rfl ?_
      obtain rfl := Option.some.inj h
      exact lc_iret C rfl dX3_cell_107
    have h := (lc_if2 h).2 q22_3
    by_cases q22_4 : x2 = (4 : Int32)
    · have h := (lc_if2 h).1 q22_4
      refine lc_tabIn C (tgt := 108) dX3_cell_22 (4 : Int) (by rw [q22_4]; decide) (by decide) (by decide) rfl (by decide) ?_
      refine lc_aload_n C (pc' := 109) 0 dX3_cell_108 rfl rfl ?_
      refine lc_g194_now C (pc' := 112) (s := (M 21)) rfl dX3_cell_109 kf_RX3_19 rfl ?_
      refine lc_iload_n C (pc' := 113) 1 dX3_cell_112 rfl rfl ?_
      refine lc_meq (lc_up_self M 0).symm ?_
      obtain ⟨r113, h113, h⟩ := lc_bde h
      refine lc_cvi C (pc' := 116) (r := r113) (M' := (va_up M 0 (M 0))) (As := [.int x1]) (rest := []) (c_X0_owedBy S X.2.1 M (k0 := 0) (by decide) x1 (M 0) r113 h113) kl_RX3_139 (lc_at_b S _ (by decide)) rfl rfl rfl rfl (Nat.le_of_ble_eq_true rfl) ⟨Nat.le_of_ble_eq_true rfl, Nat.le_of_ble_eq_true rfl⟩ ⟨rfl, rfl⟩ (lc_z2 _ _) dX3_cell_113 rfl ?_
      refine lc_meq (lc_up_self M 0) ?_
      obtain rfl := Option.some.inj h
      exact lc_iret C rfl dX3_cell_116
    have h := (lc_if2 h).2 q22_4
    by_cases q22_5 : x2 = (5 : Int32)
    · have h := (lc_if2 h).1 q22_5
      refine lc_tabIn C (tgt := 117) dX3_cell_22 (5 : Int) (by rw [q22_5]; decide) (by decide) (by decide) rfl (by decide) ?_
      refine lc_aload_n C (pc' := 118) 0 dX3_cell_117 rfl rfl ?_
      refine lc_g194_now C (pc' := 121) (s := (M 21)) rfl dX3_cell_118 kf_RX3_19 rfl ?_
      refine lc_iload_n C (pc' := 122) 1 dX3_cell_121 rfl rfl ?_
      refine lc_meq (lc_up_self M 0).symm ?_
      obtain ⟨r122, h122, h⟩ := lc_bde h
      refine lc_cvi C (pc' := 125) (r := r122) (M' := (va_up M 0 (M 0))) (As := [.int x1]) (rest := []) (c_X0_owedTo S X.2.1 M (k0 := 0) (by decide) x1 (M 0) r122 h122) kl_RX3_143 (lc_at_b S _ (by decide)) rfl rfl rfl rfl (Nat.le_of_ble_eq_true rfl) ⟨Nat.le_of_ble_eq_true rfl, Nat.le_of_ble_eq_true rfl⟩ ⟨rfl, rfl⟩ (lc_z2 _ _) dX3_cell_122 rfl ?_
      refine lc_meq (lc_up_self M 0) ?_
      obtain rfl := Option.some.inj h
      exact lc_iret C rfl dX3_cell_125
    have h := (lc_if2 h).2 q22_5
    by_cases q22_6 : x2 = (6 : Int32)
    · have h := (lc_if2 h).1 q22_6
      refine lc_tabIn C (tgt := 126) dX3_cell_22 (6 : Int) (by rw [q22_6]; decide) (by decide) (by decide) rfl (by decide) ?_
      refine lc_aload_n C (pc' := 127) 0 dX3_cell_126 rfl rfl ?_
      refine lc_g194_now C (pc' := 130) (s := (M 21)) rfl dX3_cell_127 kf_RX3_19 rfl ?_
      refine lc_iload_n C (pc' := 131) 1 dX3_cell_130 rfl rfl ?_
      refine lc_meq (lc_up_self M 0).symm ?_
      obtain ⟨r131, h131, h⟩ := lc_bde h
      refine lc_cvi C (pc' := 134) (r := r131) (M' := (va_up M 0 (M 0))) (As := [.int x1]) (rest := []) (c_X0_interestBy S X.2.1 M (k0 := 0) (by decide) x1 (M 0) r131 h131) kl_RX3_146 (lc_at_b S _ (by decide)) rfl rfl rfl rfl (Nat.le_of_ble_eq_true rfl) ⟨Nat.le_of_ble_eq_true rfl, Nat.le_of_ble_eq_true rfl⟩ ⟨rfl, rfl⟩ (lc_z2 _ _) dX3_cell_131 rfl ?_
      refine lc_meq (lc_up_self M 0) ?_
      obtain rfl := Option.some.inj h
      exact lc_iret C rfl dX3_cell_134
    have h := (lc_if2 h).2 q22_6
    by_cases q22_7 : x2 = (7 : Int32)
    · have h := (lc_if2 h).1 q22_7
      refine lc_tabIn C (tgt := 135) dX3_cell_22 (7 : Int) (by rw [q22_7]; decide) (by decide) (by decide) rfl (by decide) ?_
      refine lc_aload_n C (pc' := 136) 0 dX3_cell_135 rfl rfl ?_
      refine lc_g194_now C (pc' := 139) (s := (M 21)) rfl dX3_cell_136 kf_RX3_19 rfl ?_
      refine lc_iload_n C (pc' := 140) 1 dX3_cell_139 rfl rfl ?_
      refine lc_meq (lc_up_self M 0).symm ?_
      obtain ⟨r140, h140, h⟩ := lc_bde h
      refine lc_cvi C (pc' := 143) (r := r140) (M' := (va_up M 0 (M 0))) (As := [.int x1]) (rest := []) (c_X0_kindOf S X.2.1 M (k0 := 0) (by decide) x1 (M 0) r140 h140) kl_RX3_149 (lc_at_b S _ (by decide)) rfl rfl rfl rfl (Nat.le_of_ble_eq_true rfl) ⟨Nat.le_of_ble_eq_true rfl, Nat.le_of_ble_eq_true rfl⟩ ⟨rfl, rfl⟩ (lc_z2 _ _) dX3_cell_140 rfl ?_
      refine lc_meq (lc_up_self M 0) ?_
      obtain rfl := Option.some.inj h
      exact lc_iret C rfl dX3_cell_143
    have h := (lc_if2 h).2 q22_7
    refine lc_tabOut C (tgt := 144) dX3_cell_22 (by have n0 : x2.toInt ≠ 0 := fun q => q22_0 (Int32.toInt_inj.mp q); have n1 : x2.toInt ≠ 1 := fun q => q22_1 (Int32.toInt_inj.mp q); have n2 : x2.toInt ≠ 2 := fun q => q22_2 (Int32.toInt_inj.mp q); have n3 : x2.toInt ≠ 3 := fun q => q22_3 (Int32.toInt_inj.mp q); have n4 : x2.toInt ≠ 4 := fun q => q22_4 (Int32.toInt_inj.mp q); have n5 : x2.toInt ≠ 5 := fun q => q22_5 (Int32.toInt_inj.mp q); have n6 : x2.toInt ≠ 6 := fun q => q22_6 (Int32.toInt_inj.mp q); have n7 : x2.toInt ≠ 7 := fun q => q22_7 (Int32.toInt_inj.mp q); omega) (by decide) ?_
    cases h
  · have h := (lc_if2 h).1 c8
    cases h
abbrev rm_X3_loan : Room := { frames := 2, cells := 0, slots := 0, locals := 42 }
def P_X3_loan  (x1 : Int32) (x2 : Int32) (M : lc_MM) : Option (Int32 × lc_MM) :=
  lc_bd (P_X0_hasLoan x1 (M 0)) (fun r5 => if r5 = 0 then none else if x2 = (0 : Int32) then lc_if (lc_ok x1 12) (some (((M 0) 5 x1.toNatClampNeg), M)) else if x2 = (1 : Int32) then lc_if (lc_ok x1 12) (some (((M 0) 6 x1.toNatClampNeg), M)) else if x2 = (2 : Int32) then lc_if (lc_ok x1 12) (some (((M 0) 7 x1.toNatClampNeg), M)) else if x2 = (3 : Int32) then lc_if (lc_ok x1 12) (some (((M 0) 8 x1.toNatClampNeg), M)) else if x2 = (4 : Int32) then lc_bd (P_X0_interestOf x1 (M 0)) (fun r105 => some (r105, M)) else if x2 = (5 : Int32) then lc_if (lc_ok x1 12) (some (((M 0) 9 x1.toNatClampNeg), M)) else none)
set_option maxRecDepth 100000 in
set_option maxHeartbeats 4000000 in
theorem c_X3_loan (S : lc_Se) (l : Launch)   (x1 : Int32) (x2 : Int32) (M : lc_MM) (out : Int32 × lc_MM) (h : P_X3_loan x1 x2 M = some out) : lc_MI S l yX3_loan cX3_loan 3 (some .int) rm_X3_loan [.ref (lc_ad S 194), .int x1, .int x2] M out.1 out.2 := by
  refine lc_mkI (own := RX3) pn_RX3 rfl (Nat.le_of_ble_eq_true rfl) (lo := [(0, .ref (lc_ad S 194)), (1, .int x1), (2, .int x2)]) rfl (fun X hX C => ?_)
  rw [P_X3_loan] at h
  refine lc_aload_n C (pc' := 1) 0 dX3_loan_0 rfl rfl ?_
  refine lc_g194_now C (pc' := 4) (s := (M 21)) rfl dX3_loan_1 kf_RX3_19 rfl ?_
  refine lc_iload_n C (pc' := 5) 1 dX3_loan_4 rfl rfl ?_
  refine lc_meq (lc_up_self M 0).symm ?_
  obtain ⟨r5, h5, h⟩ := lc_bde h
  refine lc_cvi C (pc' := 8) (r := r5) (M' := (va_up M 0 (M 0))) (As := [.int x1]) (rest := []) (c_X0_hasLoan S X.2.1 M (k0 := 0) (by decide) x1 (M 0) r5 h5) kl_RX3_154 (lc_at_b S _ (by decide)) rfl rfl rfl rfl (Nat.le_of_ble_eq_true rfl) ⟨Nat.le_of_ble_eq_true rfl, Nat.le_of_ble_eq_true rfl⟩ ⟨rfl, rfl⟩ (lc_z2 _ _) dX3_loan_5 rfl ?_
  refine lc_meq (lc_up_self M 0) ?_
  refine lc_if_ne C (pc' := 11) (tgt := 21) dX3_loan_8 (by decide) rfl (fun c8 => ?_) (fun c8 => ?_)
  · have h := (lc_if2 h).2 c8
    refine lc_iload_n C (pc' := 22) 2 dX3_loan_21 rfl rfl ?_
    by_cases q22_0 : x2 = (0 : Int32)
    · have h := (lc_if2 h).1 q22_0
      refine lc_tabIn C (tgt := 60) dX3_loan_22 (0 : Int) (by rw [q22_0]; decide) (by decide) (by decide) rfl (by decide) ?_
      refine lc_aload_n C (pc' := 61) 0 dX3_loan_60 rfl rfl ?_
      refine lc_g194_now C (pc' := 64) (s := (M 21)) rfl dX3_loan_61 kf_RX3_19 rfl ?_
      refine lc_br4 C (pc' := 67) (k0 := 0) (by decide) dX3_loan_64 kf_RX3_159 rfl ?_
      refine lc_iload_n C (pc' := 68) 1 dX3_loan_67 rfl rfl ?_
      obtain ⟨hi68, h⟩ := lc_ife h
      refine lc_bald C (pc' := 69) (k0 := 0) (r := 5) (len := 12) (jj := x1.toNatClampNeg) (by decide) (by decide) (by decide) rfl rfl hi68 rfl dX3_loan_68 rfl ?_
      obtain rfl := Option.some.inj h
      exact lc_iret C rfl dX3_loan_69
    have h := (lc_if2 h).2 q22_0
    by_cases q22_1 : x2 = (1 : Int32)
    · have h := (lc_if2 h).1 q22_1
      refine lc_tabIn C (tgt := 70) dX3_loan_22 (1 : Int) (by rw [q22_1]; decide) (by decide) (by decide) rfl (by decide) ?_
      refine lc_aload_n C (pc' := 71) 0 dX3_loan_70 rfl rfl ?_
      refine lc_g194_now C (pc' := 74) (s := (M 21)) rfl dX3_loan_71 kf_RX3_19 rfl ?_
      refine lc_br5 C (pc' := 77) (k0 := 0) (by decide) dX3_loan_74 kf_RX3_162 rfl ?_
      refine lc_iload_n C (pc' := 78) 1 dX3_loan_77 rfl rfl ?_
      obtain ⟨hi78, h⟩ := lc_ife h
      refine lc_bald C (pc' := 79) (k0 := 0) (r := 6) (len := 12) (jj := x1.toNatClampNeg) (by decide) (by decide) (by decide) rfl rfl hi78 rfl dX3_loan_78 rfl ?_
      obtain rfl := Option.some.inj h
      exact lc_iret C rfl dX3_loan_79
    have h := (lc_if2 h).2 q22_1
    by_cases q22_2 : x2 = (2 : Int32)
    · have h := (lc_if2 h).1 q22_2
      refine lc_tabIn C (tgt := 80) dX3_loan_22 (2 : Int) (by rw [q22_2]; decide) (by decide) (by decide) rfl (by decide) ?_
      refine lc_aload_n C (pc' := 81) 0 dX3_loan_80 rfl rfl ?_
      refine lc_g194_now C (pc' := 84) (s := (M 21)) rfl dX3_loan_81 kf_RX3_19 rfl ?_
      refine lc_br6 C (pc' := 87) (k0 := 0) (by decide) dX3_loan_84 kf_RX3_165 rfl ?_
      refine lc_iload_n C (pc' := 88) 1 dX3_loan_87 rfl rfl ?_
      obtain ⟨hi88, h⟩ := lc_ife h
      refine lc_bald C (pc' := 89) (k0 := 0) (r := 7) (len := 12) (jj := x1.toNatClampNeg) (by decide) (by decide) (by decide) rfl rfl hi88 rfl dX3_loan_88 rfl ?_
      obtain rfl := Option.some.inj h
      exact lc_iret C rfl dX3_loan_89
    have h := (lc_if2 h).2 q22_2
    by_cases q22_3 : x2 = (3 : Int32)
    · have h := (lc_if2 h).1 q22_3
      refine lc_tabIn C (tgt := 90) dX3_loan_22 (3 : Int) (by rw [q22_3]; decide) (by decide) (by decide) rfl (by decide) ?_
      refine lc_aload_n C (pc' := 91) 0 dX3_loan_90 rfl rfl ?_
      refine lc_g194_now C (pc' := 94) (s := (M 21)) rfl dX3_loan_91 kf_RX3_19 rfl ?_
      refine lc_br7 C (pc' := 97) (k0 := 0) (by decide) dX3_loan_94 kf_RX3_168 rfl ?_
      refine lc_iload_n C (pc' := 98) 1 dX3_loan_97 rfl rfl ?_
      obtain ⟨hi98, h⟩ := lc_ife h
      refine lc_bald C (pc' := 99) (k0 := 0) (r := 8) (len := 12) (jj := x1.toNatClampNeg) (by decide) (by decide) (by decide) rfl rfl hi98 rfl dX3_loan_98 rfl ?_
      obtain rfl := Option.some.inj h
      exact lc_iret C rfl dX3_loan_99
    have h := (lc_if2 h).2 q22_3
    by_cases q22_4 : x2 = (4 : Int32)
    · have h := (lc_if2 h).1 q22_4
      refine lc_tabIn C (tgt := 100) dX3_loan_22 (4 : Int) (by rw [q22_4]; decide) (by decide) (by decide) rfl (by decide) ?_
      refine lc_aload_n C (pc' := 101) 0 dX3_loan_100 rfl rfl ?_
      refine lc_g194_now C (pc' := 104) (s := (M 21)) rfl dX3_loan_101 kf_RX3_19 rfl ?_
      refine lc_iload_n C (pc' := 105) 1 dX3_loan_104 rfl rfl ?_
      refine lc_meq (lc_up_self M 0).symm ?_
      obtain ⟨r105, h105, h⟩ := lc_bde h
      refine lc_cvi C (pc' := 108) (r := r105) (M' := (va_up M 0 (M 0))) (As := [.int x1]) (rest := []) (c_X0_interestOf S X.2.1 M (k0 := 0) (by decide) x1 (M 0) r105 h105) kl_RX3_171 (lc_at_b S _ (by decide)) rfl rfl rfl rfl (Nat.le_of_ble_eq_true rfl) ⟨Nat.le_of_ble_eq_true rfl, Nat.le_of_ble_eq_true rfl⟩ ⟨rfl, rfl⟩ (lc_z2 _ _) dX3_loan_105 rfl ?_
      refine lc_meq (lc_up_self M 0) ?_
      obtain rfl := Option.some.inj h
      exact lc_iret C rfl dX3_loan_108
    have h := (lc_if2 h).2 q22_4
    by_cases q22_5 : x2 = (5 : Int32)
    · have h := (lc_if2 h).1 q22_5
      refine lc_tabIn C (tgt := 109) dX3_loan_22 (5 : Int) (by rw [q22_5]; decide) (by decide) (by decide) rfl (by decide) ?_
      refine lc_aload_n C (pc' := 110) 0 dX3_loan_109 rfl rfl ?_
      refine lc_g194_now C (pc' := 113) (s := (M 21)) rfl dX3_loan_110 kf_RX3_19 rfl ?_
      refine lc_br8 C (pc' := 116) (k0 := 0) (by decide) dX3_loan_113 kf_RX3_174 rfl ?_
      refine lc_iload_n C (pc' := 117) 1 dX3_loan_116 rfl rfl ?_
      obtain ⟨hi117, h⟩ := lc_ife h
      refine lc_bald C (pc' := 118) (k0 := 0) (r := 9) (len := 12) (jj := x1.toNatClampNeg) (by decide) (by decide) (by decide) rfl rfl hi117 rfl dX3_loan_117 rfl ?_
      obtain rfl := Option.some.inj h
      exact lc_iret C rfl dX3_loan_118
    have h := (lc_if2 h).2 q22_5
    refine lc_tabOut C (tgt := 119) dX3_loan_22 (by have n0 : x2.toInt ≠ 0 := fun q => q22_0 (Int32.toInt_inj.mp q); have n1 : x2.toInt ≠ 1 := fun q => q22_1 (Int32.toInt_inj.mp q); have n2 : x2.toInt ≠ 2 := fun q => q22_2 (Int32.toInt_inj.mp q); have n3 : x2.toInt ≠ 3 := fun q => q22_3 (Int32.toInt_inj.mp q); have n4 : x2.toInt ≠ 4 := fun q => q22_4 (Int32.toInt_inj.mp q); have n5 : x2.toInt ≠ 5 := fun q => q22_5 (Int32.toInt_inj.mp q); omega) (by decide) ?_
    cases h
  · have h := (lc_if2 h).1 c8
    cases h
abbrev rm_X3_addCell : Room := { frames := 6, cells := 1, slots := 6, locals := 95 }
def P_X3_addCell  (x1 : Int32) (x2 : Int32) (x3 : Int32) (M : lc_MM) : Option (Nat × Int32 × lc_MM) :=
  lc_bd (P_X3_isWithin x1 (10 : Int32) (99 : Int32)) (fun r5 => if r5 = 0 then some (1, 0, M) else lc_bd (P_X3_isWithin x2 (0 : Int32) x1) (fun r14 => if r14 = 0 then some (1, 0, M) else lc_bd (P_X3_isWithin x3 (0 : Int32) (3 : Int32)) (fun r23 => if r23 = 0 then some (1, 0, M) else if ((M 0) 0 0) < (8 : Int32) then lc_bd (P_X1_remember 0 M) (fun M1 => lc_bd2 (P_X0_putCell x1 x2 x3 (M1 0)) (fun r79 s2 => lc_let (va_up M1 0 s2) (fun M3 => some (0, r79, M3)))) else some (2, 0, M))))
set_option maxRecDepth 100000 in
set_option maxHeartbeats 4000000 in
theorem c_X3_addCell (S : lc_Se) (l : Launch) (hl : l.stackTraces = false)   (x1 : Int32) (x2 : Int32) (x3 : Int32) (M : lc_MM) (out : Nat × Int32 × lc_MM) (h : P_X3_addCell x1 x2 x3 M = some out) : lc_MX S l yX3_addCell cX3_addCell 4 (some .int) rm_X3_addCell [.ref (lc_ad S 194), .int x1, .int x2, .int x3] M out.1 out.2.1 out.2.2 := by
  refine lc_mkX (own := RX3) pn_RX3 rfl (Nat.le_of_ble_eq_true rfl) (lo := [(0, .ref (lc_ad S 194)), (1, .int x1), (2, .int x2), (3, .int x3)]) rfl (fun X hX C hE => ?_)
  rw [P_X3_addCell] at h
  subst hX
  refine lc_iload_n C (pc' := 1) 1 dX3_addCell_0 rfl rfl ?_
  refine lc_bipush C (pc' := 3) (v := (10 : Int32)) dX3_addCell_1 (by decide) rfl ?_
  refine lc_bipush C (pc' := 5) (v := (99 : Int32)) dX3_addCell_3 (by decide) rfl ?_
  obtain ⟨r5, h5, h⟩ := lc_bde h
  refine lc_csi C (pc' := 8) (r := r5) (M' := M) (As := [.int x1, .int (10 : Int32), .int (99 : Int32)]) (rest := []) (c_X3_isWithin S X.2.1 M   x1 (10 : Int32) (99 : Int32)  r5 h5) kl_RX3_44 rfl rfl (Nat.le_of_ble_eq_true rfl) ⟨Nat.le_of_ble_eq_true rfl, Nat.le_of_ble_eq_true rfl⟩ ⟨rfl, rfl⟩ ⟨Nat.le_of_ble_eq_true rfl, Nat.le_of_ble_eq_true rfl⟩ dX3_addCell_5 rfl ?_
  refine lc_if_eq C (pc' := 11) (tgt := 29) dX3_addCell_8 (by decide) rfl (fun c8 => ?_) (fun c8 => ?_)
  · have h := (lc_if2 h).1 c8
    obtain rfl := Option.some.inj h
    exact lc_thr1 C hE hl lc_s184 dX3_addCell_29 dX3_addCell_32 dX3_addCell_33 dX3_addCell_35 dX3_addCell_38 ⟨by decide, Nat.le_of_ble_eq_true rfl, by decide, by decide⟩
  · have h := (lc_if2 h).2 c8
    refine lc_iload_n C (pc' := 12) 2 dX3_addCell_11 rfl rfl ?_
    refine lc_iconst C (pc' := 13) (v := (0 : Int32)) dX3_addCell_12 (by decide) rfl ?_
    refine lc_iload_n C (pc' := 14) 1 dX3_addCell_13 rfl rfl ?_
    obtain ⟨r14, h14, h⟩ := lc_bde h
    refine lc_csi C (pc' := 17) (r := r14) (M' := M) (As := [.int x2, .int (0 : Int32), .int x1]) (rest := []) (c_X3_isWithin S X.2.1 M   x2 (0 : Int32) x1  r14 h14) kl_RX3_44 rfl rfl (Nat.le_of_ble_eq_true rfl) ⟨Nat.le_of_ble_eq_true rfl, Nat.le_of_ble_eq_true rfl⟩ ⟨rfl, rfl⟩ ⟨Nat.le_of_ble_eq_true rfl, Nat.le_of_ble_eq_true rfl⟩ dX3_addCell_14 rfl ?_
    refine lc_if_eq C (pc' := 20) (tgt := 29) dX3_addCell_17 (by decide) rfl (fun c17 => ?_) (fun c17 => ?_)
    · have h := (lc_if2 h).1 c17
      obtain rfl := Option.some.inj h
      exact lc_thr1 C hE hl lc_s184 dX3_addCell_29 dX3_addCell_32 dX3_addCell_33 dX3_addCell_35 dX3_addCell_38 ⟨by decide, Nat.le_of_ble_eq_true rfl, by decide, by decide⟩
    · have h := (lc_if2 h).2 c17
      refine lc_iload_n C (pc' := 21) 3 dX3_addCell_20 rfl rfl ?_
      refine lc_iconst C (pc' := 22) (v := (0 : Int32)) dX3_addCell_21 (by decide) rfl ?_
      refine lc_iconst C (pc' := 23) (v := (3 : Int32)) dX3_addCell_22 (by decide) rfl ?_
      obtain ⟨r23, h23, h⟩ := lc_bde h
      refine lc_csi C (pc' := 26) (r := r23) (M' := M) (As := [.int x3, .int (0 : Int32), .int (3 : Int32)]) (rest := []) (c_X3_isWithin S X.2.1 M   x3 (0 : Int32) (3 : Int32)  r23 h23) kl_RX3_44 rfl rfl (Nat.le_of_ble_eq_true rfl) ⟨Nat.le_of_ble_eq_true rfl, Nat.le_of_ble_eq_true rfl⟩ ⟨rfl, rfl⟩ ⟨Nat.le_of_ble_eq_true rfl, Nat.le_of_ble_eq_true rfl⟩ dX3_addCell_23 rfl ?_
      refine lc_if_ne C (pc' := 29) (tgt := 39) dX3_addCell_26 (by decide) rfl (fun c26 => ?_) (fun c26 => ?_)
      · have h := (lc_if2 h).2 c26
        refine lc_aload_n C (pc' := 40) 0 dX3_addCell_39 rfl rfl ?_
        refine lc_g194_now C (pc' := 43) (s := (M 21)) rfl dX3_addCell_40 kf_RX3_19 rfl ?_
        refine lc_bg0 C (pc' := 46) (k0 := 0) (by decide) rfl dX3_addCell_43 kf_RX3_84 rfl ?_
        refine lc_bipush C (pc' := 48) (v := (8 : Int32)) dX3_addCell_46 (by decide) rfl ?_
        refine lc_icmp_lt C (pc' := 51) (tgt := 61) dX3_addCell_48 (by decide) rfl (fun c48 => ?_) (fun c48 => ?_)
        · have h := (lc_if2 h).1 c48
          refine lc_aload_n C (pc' := 62) 0 dX3_addCell_61 rfl rfl ?_
          refine lc_g194_history C (pc' := 65) (s := (M 21)) rfl dX3_addCell_62 kf_RX3_26 rfl ?_
          refine lc_aload_n C (pc' := 66) 0 dX3_addCell_65 rfl rfl ?_
          refine lc_g194_now C (pc' := 69) (s := (M 21)) rfl dX3_addCell_66 kf_RX3_19 rfl ?_
          obtain ⟨M1, h69, h⟩ := lc_bde h
          refine lc_cvv C (pc' := 72) (M' := M1) (As := [.ref (lc_ad S (10 * 0))]) (rest := []) (c_X1_remember (k0 := 0) S X.2.1 (by decide)  M M1 h69) kl_RX3_188 (lc_at192 S _) rfl rfl rfl rfl (Nat.le_of_ble_eq_true rfl) ⟨Nat.le_of_ble_eq_true rfl, Nat.le_of_ble_eq_true rfl⟩ ⟨rfl, rfl⟩ ⟨Nat.le_of_ble_eq_true rfl, Nat.le_of_ble_eq_true rfl⟩ dX3_addCell_69 rfl ?_
          refine lc_aload_n C (pc' := 73) 0 dX3_addCell_72 rfl rfl ?_
          refine lc_g194_now C (pc' := 76) (s := (M1 21)) rfl dX3_addCell_73 kf_RX3_19 rfl ?_
          refine lc_iload_n C (pc' := 77) 1 dX3_addCell_76 rfl rfl ?_
          refine lc_iload_n C (pc' := 78) 2 dX3_addCell_77 rfl rfl ?_
          refine lc_iload_n C (pc' := 79) 3 dX3_addCell_78 rfl rfl ?_
          refine lc_meq (lc_up_self M1 0).symm ?_
          obtain ⟨r79, s2, h79, h⟩ := lc_bd2e h
          refine lc_cvi C (pc' := 82) (r := r79) (M' := (va_up M1 0 s2)) (As := [.int x1, .int x2, .int x3]) (rest := []) (c_X0_putCell S X.2.1 M1 (k0 := 0) (by decide) x1 x2 x3 (M1 0) (r79, s2) h79) kl_RX3_191 (lc_at_b S _ (by decide)) rfl rfl rfl rfl (Nat.le_of_ble_eq_true rfl) ⟨Nat.le_of_ble_eq_true rfl, Nat.le_of_ble_eq_true rfl⟩ ⟨rfl, rfl⟩ ⟨Nat.le_of_ble_eq_true rfl, Nat.le_of_ble_eq_true rfl⟩ dX3_addCell_79 rfl ?_
          obtain ⟨M3, eM3, h⟩ := lc_let2 h
          refine lc_meq eM3 ?_
          obtain rfl := Option.some.inj h
          exact lc_xret C rfl (by decide) (by decide) dX3_addCell_82
        · have h := (lc_if2 h).2 c48
          obtain rfl := Option.some.inj h
          exact lc_thr2 C hE hl lc_s186 dX3_addCell_51 dX3_addCell_54 dX3_addCell_55 dX3_addCell_57 dX3_addCell_60 ⟨by decide, Nat.le_of_ble_eq_true rfl, by decide, by decide⟩
      · have h := (lc_if2 h).1 c26
        obtain rfl := Option.some.inj h
        exact lc_thr1 C hE hl lc_s184 dX3_addCell_29 dX3_addCell_32 dX3_addCell_33 dX3_addCell_35 dX3_addCell_38 ⟨by decide, Nat.le_of_ble_eq_true rfl, by decide, by decide⟩
abbrev rm_X3_lend : Room := { frames := 6, cells := 1, slots := 6, locals := 95 }
def P_X3_lend  (x1 : Int32) (x2 : Int32) (x3 : Int32) (x4 : Int32) (M : lc_MM) : Option (Nat × Int32 × lc_MM) :=
  lc_bd (P_X0_hasCell x1 (M 0)) (fun r5 => if r5 = 0 then some (3, 0, M) else lc_bd (P_X0_hasCell x2 (M 0)) (fun r16 => if r16 = 0 then some (3, 0, M) else if x1 = x2 then some (1, 0, M) else lc_bd (P_X3_isUnits x3) (fun r38 => if r38 = 0 then some (1, 0, M) else lc_bd (P_X3_isWithin x4 (0 : Int32) (50 : Int32)) (fun r49 => if r49 = 0 then some (1, 0, M) else lc_bd (P_X0_canLend x1 x2 x3 (M 0)) (fun r72 => if r72 = 0 then some (2, 0, M) else lc_bd (P_X1_remember 0 M) (fun M1 => lc_bd2 (P_X0_makeLoan x1 x2 x3 x4 (M1 0)) (fun r108 s2 => lc_let (va_up M1 0 s2) (fun M3 => some (0, r108, M3)))))))))
set_option maxRecDepth 100000 in
set_option maxHeartbeats 4000000 in
theorem c_X3_lend (S : lc_Se) (l : Launch) (hl : l.stackTraces = false)   (x1 : Int32) (x2 : Int32) (x3 : Int32) (x4 : Int32) (M : lc_MM) (out : Nat × Int32 × lc_MM) (h : P_X3_lend x1 x2 x3 x4 M = some out) : lc_MX S l yX3_lend cX3_lend 5 (some .int) rm_X3_lend [.ref (lc_ad S 194), .int x1, .int x2, .int x3, .int x4] M out.1 out.2.1 out.2.2 := by
  refine lc_mkX (own := RX3) pn_RX3 rfl (Nat.le_of_ble_eq_true rfl) (lo := [(0, .ref (lc_ad S 194)), (1, .int x1), (2, .int x2), (3, .int x3), (4, .int x4)]) rfl (fun X hX C hE => ?_)
  rw [P_X3_lend] at h
  subst hX
  refine lc_aload_n C (pc' := 1) 0 dX3_lend_0 rfl rfl ?_
  refine lc_g194_now C (pc' := 4) (s := (M 21)) rfl dX3_lend_1 kf_RX3_19 rfl ?_
  refine lc_iload_n C (pc' := 5) 1 dX3_lend_4 rfl rfl ?_
  refine lc_meq (lc_up_self M 0).symm ?_
  obtain ⟨r5, h5, h⟩ := lc_bde h
  refine lc_cvi C (pc' := 8) (r := r5) (M' := (va_up M 0 (M 0))) (As := [.int x1]) (rest := []) (c_X0_hasCell S X.2.1 M (k0 := 0) (by decide) x1 (M 0) r5 h5) kl_RX3_117 (lc_at_b S _ (by decide)) rfl rfl rfl rfl (Nat.le_of_ble_eq_true rfl) ⟨Nat.le_of_ble_eq_true rfl, Nat.le_of_ble_eq_true rfl⟩ ⟨rfl, rfl⟩ ⟨Nat.le_of_ble_eq_true rfl, Nat.le_of_ble_eq_true rfl⟩ dX3_lend_5 rfl ?_
  refine lc_meq (lc_up_self M 0) ?_
  refine lc_if_eq C (pc' := 11) (tgt := 22) dX3_lend_8 (by decide) rfl (fun c8 => ?_) (fun c8 => ?_)
  · have h := (lc_if2 h).1 c8
    obtain rfl := Option.some.inj h
    exact lc_thr3 C hE hl lc_s123 dX3_lend_22 dX3_lend_25 dX3_lend_26 dX3_lend_28 dX3_lend_31 ⟨by decide, Nat.le_of_ble_eq_true rfl, by decide, by decide⟩
  · have h := (lc_if2 h).2 c8
    refine lc_aload_n C (pc' := 12) 0 dX3_lend_11 rfl rfl ?_
    refine lc_g194_now C (pc' := 15) (s := (M 21)) rfl dX3_lend_12 kf_RX3_19 rfl ?_
    refine lc_iload_n C (pc' := 16) 2 dX3_lend_15 rfl rfl ?_
    refine lc_meq (lc_up_self M 0).symm ?_
    obtain ⟨r16, h16, h⟩ := lc_bde h
    refine lc_cvi C (pc' := 19) (r := r16) (M' := (va_up M 0 (M 0))) (As := [.int x2]) (rest := []) (c_X0_hasCell S X.2.1 M (k0 := 0) (by decide) x2 (M 0) r16 h16) kl_RX3_117 (lc_at_b S _ (by decide)) rfl rfl rfl rfl (Nat.le_of_ble_eq_true rfl) ⟨Nat.le_of_ble_eq_true rfl, Nat.le_of_ble_eq_true rfl⟩ ⟨rfl, rfl⟩ ⟨Nat.le_of_ble_eq_true rfl, Nat.le_of_ble_eq_true rfl⟩ dX3_lend_16 rfl ?_
    refine lc_meq (lc_up_self M 0) ?_
    refine lc_if_ne C (pc' := 22) (tgt := 32) dX3_lend_19 (by decide) rfl (fun c19 => ?_) (fun c19 => ?_)
    · have h := (lc_if2 h).2 c19
      refine lc_iload_n C (pc' := 33) 1 dX3_lend_32 rfl rfl ?_
      refine lc_iload_n C (pc' := 34) 2 dX3_lend_33 rfl rfl ?_
      refine lc_icmp_eq C (pc' := 37) (tgt := 55) dX3_lend_34 (by decide) rfl (fun c34 => ?_) (fun c34 => ?_)
      · have h := (lc_if2 h).1 c34
        obtain rfl := Option.some.inj h
        exact lc_thr1 C hE hl lc_s198 dX3_lend_55 dX3_lend_58 dX3_lend_59 dX3_lend_61 dX3_lend_64 ⟨by decide, Nat.le_of_ble_eq_true rfl, by decide, by decide⟩
      · have h := (lc_if2 h).2 c34
        refine lc_iload_n C (pc' := 38) 3 dX3_lend_37 rfl rfl ?_
        obtain ⟨r38, h38, h⟩ := lc_bde h
        refine lc_csi C (pc' := 41) (r := r38) (M' := M) (As := [.int x3]) (rest := []) (c_X3_isUnits S X.2.1 M   x3  r38 h38) kl_RX3_195 rfl rfl (Nat.le_of_ble_eq_true rfl) ⟨Nat.le_of_ble_eq_true rfl, Nat.le_of_ble_eq_true rfl⟩ ⟨rfl, rfl⟩ ⟨Nat.le_of_ble_eq_true rfl, Nat.le_of_ble_eq_true rfl⟩ dX3_lend_38 rfl ?_
        refine lc_if_eq C (pc' := 44) (tgt := 55) dX3_lend_41 (by decide) rfl (fun c41 => ?_) (fun c41 => ?_)
        · have h := (lc_if2 h).1 c41
          obtain rfl := Option.some.inj h
          exact lc_thr1 C hE hl lc_s198 dX3_lend_55 dX3_lend_58 dX3_lend_59 dX3_lend_61 dX3_lend_64 ⟨by decide, Nat.le_of_ble_eq_true rfl, by decide, by decide⟩
        · have h := (lc_if2 h).2 c41
          refine lc_iload C (pc' := 46) 4 dX3_lend_44 rfl rfl ?_
          refine lc_iconst C (pc' := 47) (v := (0 : Int32)) dX3_lend_46 (by decide) rfl ?_
          refine lc_bipush C (pc' := 49) (v := (50 : Int32)) dX3_lend_47 (by decide) rfl ?_
          obtain ⟨r49, h49, h⟩ := lc_bde h
          refine lc_csi C (pc' := 52) (r := r49) (M' := M) (As := [.int x4, .int (0 : Int32), .int (50 : Int32)]) (rest := []) (c_X3_isWithin S X.2.1 M   x4 (0 : Int32) (50 : Int32)  r49 h49) kl_RX3_44 rfl rfl (Nat.le_of_ble_eq_true rfl) ⟨Nat.le_of_ble_eq_true rfl, Nat.le_of_ble_eq_true rfl⟩ ⟨rfl, rfl⟩ ⟨Nat.le_of_ble_eq_true rfl, Nat.le_of_ble_eq_true rfl⟩ dX3_lend_49 rfl ?_
          refine lc_if_ne C (pc' := 55) (tgt := 65) dX3_lend_52 (by decide) rfl (fun c52 => ?_) (fun c52 => ?_)
          · have h := (lc_if2 h).2 c52
            refine lc_aload_n C (pc' := 66) 0 dX3_lend_65 rfl rfl ?_
            refine lc_g194_now C (pc' := 69) (s := (M 21)) rfl dX3_lend_66 kf_RX3_19 rfl ?_
            refine lc_iload_n C (pc' := 70) 1 dX3_lend_69 rfl rfl ?_
            refine lc_iload_n C (pc' := 71) 2 dX3_lend_70 rfl rfl ?_
            refine lc_iload_n C (pc' := 72) 3 dX3_lend_71 rfl rfl ?_
            refine lc_meq (lc_up_self M 0).symm ?_
            obtain ⟨r72, h72, h⟩ := lc_bde h
            refine lc_cvi C (pc' := 75) (r := r72) (M' := (va_up M 0 (M 0))) (As := [.int x1, .int x2, .int x3]) (rest := []) (c_X0_canLend S X.2.1 M (k0 := 0) (by decide) x1 x2 x3 (M 0) r72 h72) kl_RX3_200 (lc_at_b S _ (by decide)) rfl rfl rfl rfl (Nat.le_of_ble_eq_true rfl) ⟨Nat.le_of_ble_eq_true rfl, Nat.le_of_ble_eq_true rfl⟩ ⟨rfl, rfl⟩ ⟨Nat.le_of_ble_eq_true rfl, Nat.le_of_ble_eq_true rfl⟩ dX3_lend_72 rfl ?_
            refine lc_meq (lc_up_self M 0) ?_
            refine lc_if_ne C (pc' := 78) (tgt := 88) dX3_lend_75 (by decide) rfl (fun c75 => ?_) (fun c75 => ?_)
            · have h := (lc_if2 h).2 c75
              refine lc_aload_n C (pc' := 89) 0 dX3_lend_88 rfl rfl ?_
              refine lc_g194_history C (pc' := 92) (s := (M 21)) rfl dX3_lend_89 kf_RX3_26 rfl ?_
              refine lc_aload_n C (pc' := 93) 0 dX3_lend_92 rfl rfl ?_
              refine lc_g194_now C (pc' := 96) (s := (M 21)) rfl dX3_lend_93 kf_RX3_19 rfl ?_
              obtain ⟨M1, h96, h⟩ := lc_bde h
              refine lc_cvv C (pc' := 99) (M' := M1) (As := [.ref (lc_ad S (10 * 0))]) (rest := []) (c_X1_remember (k0 := 0) S X.2.1 (by decide)  M M1 h96) kl_RX3_188 (lc_at192 S _) rfl rfl rfl rfl (Nat.le_of_ble_eq_true rfl) ⟨Nat.le_of_ble_eq_true rfl, Nat.le_of_ble_eq_true rfl⟩ ⟨rfl, rfl⟩ ⟨Nat.le_of_ble_eq_true rfl, Nat.le_of_ble_eq_true rfl⟩ dX3_lend_96 rfl ?_
              refine lc_aload_n C (pc' := 100) 0 dX3_lend_99 rfl rfl ?_
              refine lc_g194_now C (pc' := 103) (s := (M1 21)) rfl dX3_lend_100 kf_RX3_19 rfl ?_
              refine lc_iload_n C (pc' := 104) 1 dX3_lend_103 rfl rfl ?_
              refine lc_iload_n C (pc' := 105) 2 dX3_lend_104 rfl rfl ?_
              refine lc_iload_n C (pc' := 106) 3 dX3_lend_105 rfl rfl ?_
              refine lc_iload C (pc' := 108) 4 dX3_lend_106 rfl rfl ?_
              refine lc_meq (lc_up_self M1 0).symm ?_
              obtain ⟨r108, s2, h108, h⟩ := lc_bd2e h
              refine lc_cvi C (pc' := 111) (r := r108) (M' := (va_up M1 0 s2)) (As := [.int x1, .int x2, .int x3, .int x4]) (rest := []) (c_X0_makeLoan S X.2.1 M1 (k0 := 0) (by decide) x1 x2 x3 x4 (M1 0) (r108, s2) h108) kl_RX3_205 (lc_at_b S _ (by decide)) rfl rfl rfl rfl (Nat.le_of_ble_eq_true rfl) ⟨Nat.le_of_ble_eq_true rfl, Nat.le_of_ble_eq_true rfl⟩ ⟨rfl, rfl⟩ ⟨Nat.le_of_ble_eq_true rfl, Nat.le_of_ble_eq_true rfl⟩ dX3_lend_108 rfl ?_
              obtain ⟨M3, eM3, h⟩ := lc_let2 h
              refine lc_meq eM3 ?_
              obtain rfl := Option.some.inj h
              exact lc_xret C rfl (by decide) (by decide) dX3_lend_111
            · have h := (lc_if2 h).1 c75
              obtain rfl := Option.some.inj h
              exact lc_thr2 C hE hl lc_s203 dX3_lend_78 dX3_lend_81 dX3_lend_82 dX3_lend_84 dX3_lend_87 ⟨by decide, Nat.le_of_ble_eq_true rfl, by decide, by decide⟩
          · have h := (lc_if2 h).1 c52
            obtain rfl := Option.some.inj h
            exact lc_thr1 C hE hl lc_s198 dX3_lend_55 dX3_lend_58 dX3_lend_59 dX3_lend_61 dX3_lend_64 ⟨by decide, Nat.le_of_ble_eq_true rfl, by decide, by decide⟩
    · have h := (lc_if2 h).1 c19
      obtain rfl := Option.some.inj h
      exact lc_thr3 C hE hl lc_s123 dX3_lend_22 dX3_lend_25 dX3_lend_26 dX3_lend_28 dX3_lend_31 ⟨by decide, Nat.le_of_ble_eq_true rfl, by decide, by decide⟩
abbrev rm_X3_repay : Room := { frames := 6, cells := 1, slots := 6, locals := 95 }
def P_X3_repay  (x1 : Int32) (x2 : Int32) (M : lc_MM) : Option (Nat × Int32 × lc_MM) :=
  lc_bd (P_X0_hasLoan x1 (M 0)) (fun r5 => if r5 = 0 then some (3, 0, M) else lc_bd (P_X3_isUnits x2) (fun r22 => if r22 = 0 then some (1, 0, M) else lc_bd (P_X0_canPayBack x1 x2 (M 0)) (fun r44 => if r44 = 0 then some (2, 0, M) else lc_bd (P_X1_remember 0 M) (fun M1 => lc_bd2 (P_X0_payBack x1 x2 (M1 0)) (fun r77 s2 => lc_let (va_up M1 0 s2) (fun M3 => some (0, r77, M3)))))))
set_option maxRecDepth 100000 in
set_option maxHeartbeats 4000000 in
theorem c_X3_repay (S : lc_Se) (l : Launch) (hl : l.stackTraces = false)   (x1 : Int32) (x2 : Int32) (M : lc_MM) (out : Nat × Int32 × lc_MM) (h : P_X3_repay x1 x2 M = some out) : lc_MX S l yX3_repay cX3_repay 3 (some .int) rm_X3_repay [.ref (lc_ad S 194), .int x1, .int x2] M out.1 out.2.1 out.2.2 := by
  refine lc_mkX (own := RX3) pn_RX3 rfl (Nat.le_of_ble_eq_true rfl) (lo := [(0, .ref (lc_ad S 194)), (1, .int x1), (2, .int x2)]) rfl (fun X hX C hE => ?_)
  rw [P_X3_repay] at h
  subst hX
  refine lc_aload_n C (pc' := 1) 0 dX3_repay_0 rfl rfl ?_
  refine lc_g194_now C (pc' := 4) (s := (M 21)) rfl dX3_repay_1 kf_RX3_19 rfl ?_
  refine lc_iload_n C (pc' := 5) 1 dX3_repay_4 rfl rfl ?_
  refine lc_meq (lc_up_self M 0).symm ?_
  obtain ⟨r5, h5, h⟩ := lc_bde h
  refine lc_cvi C (pc' := 8) (r := r5) (M' := (va_up M 0 (M 0))) (As := [.int x1]) (rest := []) (c_X0_hasLoan S X.2.1 M (k0 := 0) (by decide) x1 (M 0) r5 h5) kl_RX3_154 (lc_at_b S _ (by decide)) rfl rfl rfl rfl (Nat.le_of_ble_eq_true rfl) ⟨Nat.le_of_ble_eq_true rfl, Nat.le_of_ble_eq_true rfl⟩ ⟨rfl, rfl⟩ ⟨Nat.le_of_ble_eq_true rfl, Nat.le_of_ble_eq_true rfl⟩ dX3_repay_5 rfl ?_
  refine lc_meq (lc_up_self M 0) ?_
  refine lc_if_ne C (pc' := 11) (tgt := 21) dX3_repay_8 (by decide) rfl (fun c8 => ?_) (fun c8 => ?_)
  · have h := (lc_if2 h).2 c8
    refine lc_iload_n C (pc' := 22) 2 dX3_repay_21 rfl rfl ?_
    obtain ⟨r22, h22, h⟩ := lc_bde h
    refine lc_csi C (pc' := 25) (r := r22) (M' := M) (As := [.int x2]) (rest := []) (c_X3_isUnits S X.2.1 M   x2  r22 h22) kl_RX3_195 rfl rfl (Nat.le_of_ble_eq_true rfl) ⟨Nat.le_of_ble_eq_true rfl, Nat.le_of_ble_eq_true rfl⟩ ⟨rfl, rfl⟩ ⟨Nat.le_of_ble_eq_true rfl, Nat.le_of_ble_eq_true rfl⟩ dX3_repay_22 rfl ?_
    refine lc_if_ne C (pc' := 28) (tgt := 38) dX3_repay_25 (by decide) rfl (fun c25 => ?_) (fun c25 => ?_)
    · have h := (lc_if2 h).2 c25
      refine lc_aload_n C (pc' := 39) 0 dX3_repay_38 rfl rfl ?_
      refine lc_g194_now C (pc' := 42) (s := (M 21)) rfl dX3_repay_39 kf_RX3_19 rfl ?_
      refine lc_iload_n C (pc' := 43) 1 dX3_repay_42 rfl rfl ?_
      refine lc_iload_n C (pc' := 44) 2 dX3_repay_43 rfl rfl ?_
      refine lc_meq (lc_up_self M 0).symm ?_
      obtain ⟨r44, h44, h⟩ := lc_bde h
      refine lc_cvi C (pc' := 47) (r := r44) (M' := (va_up M 0 (M 0))) (As := [.int x1, .int x2]) (rest := []) (c_X0_canPayBack S X.2.1 M (k0 := 0) (by decide) x1 x2 (M 0) r44 h44) kl_RX3_211 (lc_at_b S _ (by decide)) rfl rfl rfl rfl (Nat.le_of_ble_eq_true rfl) ⟨Nat.le_of_ble_eq_true rfl, Nat.le_of_ble_eq_true rfl⟩ ⟨rfl, rfl⟩ ⟨Nat.le_of_ble_eq_true rfl, Nat.le_of_ble_eq_true rfl⟩ dX3_repay_44 rfl ?_
      refine lc_meq (lc_up_self M 0) ?_
      refine lc_if_ne C (pc' := 50) (tgt := 60) dX3_repay_47 (by decide) rfl (fun c47 => ?_) (fun c47 => ?_)
      · have h := (lc_if2 h).2 c47
        refine lc_aload_n C (pc' := 61) 0 dX3_repay_60 rfl rfl ?_
        refine lc_g194_history C (pc' := 64) (s := (M 21)) rfl dX3_repay_61 kf_RX3_26 rfl ?_
        refine lc_aload_n C (pc' := 65) 0 dX3_repay_64 rfl rfl ?_
        refine lc_g194_now C (pc' := 68) (s := (M 21)) rfl dX3_repay_65 kf_RX3_19 rfl ?_
        obtain ⟨M1, h68, h⟩ := lc_bde h
        refine lc_cvv C (pc' := 71) (M' := M1) (As := [.ref (lc_ad S (10 * 0))]) (rest := []) (c_X1_remember (k0 := 0) S X.2.1 (by decide)  M M1 h68) kl_RX3_188 (lc_at192 S _) rfl rfl rfl rfl (Nat.le_of_ble_eq_true rfl) ⟨Nat.le_of_ble_eq_true rfl, Nat.le_of_ble_eq_true rfl⟩ ⟨rfl, rfl⟩ ⟨Nat.le_of_ble_eq_true rfl, Nat.le_of_ble_eq_true rfl⟩ dX3_repay_68 rfl ?_
        refine lc_aload_n C (pc' := 72) 0 dX3_repay_71 rfl rfl ?_
        refine lc_g194_now C (pc' := 75) (s := (M1 21)) rfl dX3_repay_72 kf_RX3_19 rfl ?_
        refine lc_iload_n C (pc' := 76) 1 dX3_repay_75 rfl rfl ?_
        refine lc_iload_n C (pc' := 77) 2 dX3_repay_76 rfl rfl ?_
        refine lc_meq (lc_up_self M1 0).symm ?_
        obtain ⟨r77, s2, h77, h⟩ := lc_bd2e h
        refine lc_cvi C (pc' := 80) (r := r77) (M' := (va_up M1 0 s2)) (As := [.int x1, .int x2]) (rest := []) (c_X0_payBack S X.2.1 M1 (k0 := 0) (by decide) x1 x2 (M1 0) (r77, s2) h77) kl_RX3_217 (lc_at_b S _ (by decide)) rfl rfl rfl rfl (Nat.le_of_ble_eq_true rfl) ⟨Nat.le_of_ble_eq_true rfl, Nat.le_of_ble_eq_true rfl⟩ ⟨rfl, rfl⟩ ⟨Nat.le_of_ble_eq_true rfl, Nat.le_of_ble_eq_true rfl⟩ dX3_repay_77 rfl ?_
        obtain ⟨M3, eM3, h⟩ := lc_let2 h
        refine lc_meq eM3 ?_
        obtain rfl := Option.some.inj h
        exact lc_xret C rfl (by decide) (by decide) dX3_repay_80
      · have h := (lc_if2 h).1 c47
        obtain rfl := Option.some.inj h
        exact lc_thr2 C hE hl lc_s215 dX3_repay_50 dX3_repay_53 dX3_repay_54 dX3_repay_56 dX3_repay_59 ⟨by decide, Nat.le_of_ble_eq_true rfl, by decide, by decide⟩
    · have h := (lc_if2 h).1 c25
      obtain rfl := Option.some.inj h
      exact lc_thr1 C hE hl lc_s209 dX3_repay_28 dX3_repay_31 dX3_repay_32 dX3_repay_34 dX3_repay_37 ⟨by decide, Nat.le_of_ble_eq_true rfl, by decide, by decide⟩
  · have h := (lc_if2 h).1 c8
    obtain rfl := Option.some.inj h
    exact lc_thr3 C hE hl lc_s157 dX3_repay_11 dX3_repay_14 dX3_repay_15 dX3_repay_17 dX3_repay_20 ⟨by decide, Nat.le_of_ble_eq_true rfl, by decide, by decide⟩
abbrev rm_X3_setLeak : Room := { frames := 6, cells := 1, slots := 6, locals := 95 }
def P_X3_setLeak  (x1 : Int32) (x2 : Int32) (M : lc_MM) : Option (Nat × Int32 × lc_MM) :=
  lc_bd (P_X0_hasCell x1 (M 0)) (fun r5 => if r5 = 0 then some (3, 0, M) else lc_bd (P_X3_isWithin x2 (0 : Int32) (3 : Int32)) (fun r24 => if r24 = 0 then some (1, 0, M) else lc_bd (P_X1_remember 0 M) (fun M1 => lc_if (lc_ok x1 8) (lc_let ((M1 0) 3 x1.toNatClampNeg) (fun x3_60 => lc_if (lc_ok x1 8) (lc_let (lc_ss (M1 0) 3 (x1.toNatClampNeg) x2) (fun s2 => lc_let (va_up M1 0 s2) (fun M3 => some (0, x3_60, M3)))))))))
set_option maxRecDepth 100000 in
set_option maxHeartbeats 4000000 in
theorem c_X3_setLeak (S : lc_Se) (l : Launch) (hl : l.stackTraces = false)   (x1 : Int32) (x2 : Int32) (M : lc_MM) (out : Nat × Int32 × lc_MM) (h : P_X3_setLeak x1 x2 M = some out) : lc_MX S l yX3_setLeak cX3_setLeak 4 (some .int) rm_X3_setLeak [.ref (lc_ad S 194), .int x1, .int x2] M out.1 out.2.1 out.2.2 := by
  refine lc_mkX (own := RX3) pn_RX3 rfl (Nat.le_of_ble_eq_true rfl) (lo := [(0, .ref (lc_ad S 194)), (1, .int x1), (2, .int x2)]) rfl (fun X hX C hE => ?_)
  rw [P_X3_setLeak] at h
  subst hX
  refine lc_aload_n C (pc' := 1) 0 dX3_setLeak_0 rfl rfl ?_
  refine lc_g194_now C (pc' := 4) (s := (M 21)) rfl dX3_setLeak_1 kf_RX3_19 rfl ?_
  refine lc_iload_n C (pc' := 5) 1 dX3_setLeak_4 rfl rfl ?_
  refine lc_meq (lc_up_self M 0).symm ?_
  obtain ⟨r5, h5, h⟩ := lc_bde h
  refine lc_cvi C (pc' := 8) (r := r5) (M' := (va_up M 0 (M 0))) (As := [.int x1]) (rest := []) (c_X0_hasCell S X.2.1 M (k0 := 0) (by decide) x1 (M 0) r5 h5) kl_RX3_117 (lc_at_b S _ (by decide)) rfl rfl rfl rfl (Nat.le_of_ble_eq_true rfl) ⟨Nat.le_of_ble_eq_true rfl, Nat.le_of_ble_eq_true rfl⟩ ⟨rfl, rfl⟩ ⟨Nat.le_of_ble_eq_true rfl, Nat.le_of_ble_eq_true rfl⟩ dX3_setLeak_5 rfl ?_
  refine lc_meq (lc_up_self M 0) ?_
  refine lc_if_ne C (pc' := 11) (tgt := 21) dX3_setLeak_8 (by decide) rfl (fun c8 => ?_) (fun c8 => ?_)
  · have h := (lc_if2 h).2 c8
    refine lc_iload_n C (pc' := 22) 2 dX3_setLeak_21 rfl rfl ?_
    refine lc_iconst C (pc' := 23) (v := (0 : Int32)) dX3_setLeak_22 (by decide) rfl ?_
    refine lc_iconst C (pc' := 24) (v := (3 : Int32)) dX3_setLeak_23 (by decide) rfl ?_
    obtain ⟨r24, h24, h⟩ := lc_bde h
    refine lc_csi C (pc' := 27) (r := r24) (M' := M) (As := [.int x2, .int (0 : Int32), .int (3 : Int32)]) (rest := []) (c_X3_isWithin S X.2.1 M   x2 (0 : Int32) (3 : Int32)  r24 h24) kl_RX3_44 rfl rfl (Nat.le_of_ble_eq_true rfl) ⟨Nat.le_of_ble_eq_true rfl, Nat.le_of_ble_eq_true rfl⟩ ⟨rfl, rfl⟩ ⟨Nat.le_of_ble_eq_true rfl, Nat.le_of_ble_eq_true rfl⟩ dX3_setLeak_24 rfl ?_
    refine lc_if_ne C (pc' := 30) (tgt := 40) dX3_setLeak_27 (by decide) rfl (fun c27 => ?_) (fun c27 => ?_)
    · have h := (lc_if2 h).2 c27
      refine lc_aload_n C (pc' := 41) 0 dX3_setLeak_40 rfl rfl ?_
      refine lc_g194_history C (pc' := 44) (s := (M 21)) rfl dX3_setLeak_41 kf_RX3_26 rfl ?_
      refine lc_aload_n C (pc' := 45) 0 dX3_setLeak_44 rfl rfl ?_
      refine lc_g194_now C (pc' := 48) (s := (M 21)) rfl dX3_setLeak_45 kf_RX3_19 rfl ?_
      obtain ⟨M1, h48, h⟩ := lc_bde h
      refine lc_cvv C (pc' := 51) (M' := M1) (As := [.ref (lc_ad S (10 * 0))]) (rest := []) (c_X1_remember (k0 := 0) S X.2.1 (by decide)  M M1 h48) kl_RX3_188 (lc_at192 S _) rfl rfl rfl rfl (Nat.le_of_ble_eq_true rfl) ⟨Nat.le_of_ble_eq_true rfl, Nat.le_of_ble_eq_true rfl⟩ ⟨rfl, rfl⟩ ⟨Nat.le_of_ble_eq_true rfl, Nat.le_of_ble_eq_true rfl⟩ dX3_setLeak_48 rfl ?_
      refine lc_aload_n C (pc' := 52) 0 dX3_setLeak_51 rfl rfl ?_
      refine lc_g194_now C (pc' := 55) (s := (M1 21)) rfl dX3_setLeak_52 kf_RX3_19 rfl ?_
      refine lc_br2 C (pc' := 58) (k0 := 0) (by decide) dX3_setLeak_55 kf_RX3_133 rfl ?_
      refine lc_iload_n C (pc' := 59) 1 dX3_setLeak_58 rfl rfl ?_
      obtain ⟨hi59, h⟩ := lc_ife h
      refine lc_bald C (pc' := 60) (k0 := 0) (r := 3) (len := 8) (jj := x1.toNatClampNeg) (by decide) (by decide) (by decide) rfl rfl hi59 rfl dX3_setLeak_59 rfl ?_
      obtain ⟨x3_60, e3_60, h⟩ := lc_let2 h
      rw [e3_60]
      refine lc_istore_n C (pc' := 61) (lo' := [(3, .int x3_60), (0, .ref (lc_ad S 194)), (1, .int x1), (2, .int x2)]) dX3_setLeak_60 (Nat.le_of_ble_eq_true rfl) rfl rfl ?_
      refine lc_aload_n C (pc' := 62) 1 dX3_setLeak_61 rfl rfl ?_
      refine lc_g194_now C (pc' := 65) (s := (M1 21)) rfl dX3_setLeak_62 kf_RX3_19 rfl ?_
      refine lc_br2 C (pc' := 68) (k0 := 0) (by decide) dX3_setLeak_65 kf_RX3_133 rfl ?_
      refine lc_iload_n C (pc' := 69) 2 dX3_setLeak_68 rfl rfl ?_
      refine lc_iload_n C (pc' := 70) 3 dX3_setLeak_69 rfl rfl ?_
      obtain ⟨hi70, h⟩ := lc_ife h
      obtain ⟨s2, es2, h⟩ := lc_let2 h
      obtain ⟨M3, eM3, h⟩ := lc_let2 h
      refine lc_bast C (pc' := 71) (k0 := 0) (r := 3) (len := 8) (jj := x1.toNatClampNeg) (M' := M3) (by decide) (by decide) (by decide) rfl rfl hi70 rfl es2 eM3 dX3_setLeak_70 rfl ?_
      refine lc_iload_n C (pc' := 72) 0 dX3_setLeak_71 rfl rfl ?_
      obtain rfl := Option.some.inj h
      exact lc_xret C rfl (by decide) (by decide) dX3_setLeak_72
    · have h := (lc_if2 h).1 c27
      obtain rfl := Option.some.inj h
      exact lc_thr1 C hE hl lc_s221 dX3_setLeak_30 dX3_setLeak_33 dX3_setLeak_34 dX3_setLeak_36 dX3_setLeak_39 ⟨by decide, Nat.le_of_ble_eq_true rfl, by decide, by decide⟩
  · have h := (lc_if2 h).1 c8
    obtain rfl := Option.some.inj h
    exact lc_thr3 C hE hl lc_s123 dX3_setLeak_11 dX3_setLeak_14 dX3_setLeak_15 dX3_setLeak_17 dX3_setLeak_20 ⟨by decide, Nat.le_of_ble_eq_true rfl, by decide, by decide⟩
abbrev rm_X3_charge : Room := { frames := 6, cells := 1, slots := 6, locals := 95 }
def P_X3_charge  (x1 : Int32) (M : lc_MM) : Option (Nat × Int32 × lc_MM) :=
  lc_bd (P_X3_isUnits x1) (fun r1 => if r1 = 0 then some (1, 0, M) else lc_bd (P_X1_remember 0 M) (fun M1 => lc_bd2 (P_X0_fillEach x1 (M1 0)) (fun r33 s2 => lc_let (va_up M1 0 s2) (fun M3 => some (0, r33, M3)))))
set_option maxRecDepth 100000 in
set_option maxHeartbeats 4000000 in
theorem c_X3_charge (S : lc_Se) (l : Launch) (hl : l.stackTraces = false)   (x1 : Int32) (M : lc_MM) (out : Nat × Int32 × lc_MM) (h : P_X3_charge x1 M = some out) : lc_MX S l yX3_charge cX3_charge 2 (some .int) rm_X3_charge [.ref (lc_ad S 194), .int x1] M out.1 out.2.1 out.2.2 := by
  refine lc_mkX (own := RX3) pn_RX3 rfl (Nat.le_of_ble_eq_true rfl) (lo := [(0, .ref (lc_ad S 194)), (1, .int x1)]) rfl (fun X hX C hE => ?_)
  rw [P_X3_charge] at h
  subst hX
  refine lc_iload_n C (pc' := 1) 1 dX3_charge_0 rfl rfl ?_
  obtain ⟨r1, h1, h⟩ := lc_bde h
  refine lc_csi C (pc' := 4) (r := r1) (M' := M) (As := [.int x1]) (rest := []) (c_X3_isUnits S X.2.1 M   x1  r1 h1) kl_RX3_195 rfl rfl (Nat.le_of_ble_eq_true rfl) ⟨Nat.le_of_ble_eq_true rfl, Nat.le_of_ble_eq_true rfl⟩ ⟨rfl, rfl⟩ ⟨Nat.le_of_ble_eq_true rfl, Nat.le_of_ble_eq_true rfl⟩ dX3_charge_1 rfl ?_
  refine lc_if_ne C (pc' := 7) (tgt := 17) dX3_charge_4 (by decide) rfl (fun c4 => ?_) (fun c4 => ?_)
  · have h := (lc_if2 h).2 c4
    refine lc_aload_n C (pc' := 18) 0 dX3_charge_17 rfl rfl ?_
    refine lc_g194_history C (pc' := 21) (s := (M 21)) rfl dX3_charge_18 kf_RX3_26 rfl ?_
    refine lc_aload_n C (pc' := 22) 0 dX3_charge_21 rfl rfl ?_
    refine lc_g194_now C (pc' := 25) (s := (M 21)) rfl dX3_charge_22 kf_RX3_19 rfl ?_
    obtain ⟨M1, h25, h⟩ := lc_bde h
    refine lc_cvv C (pc' := 28) (M' := M1) (As := [.ref (lc_ad S (10 * 0))]) (rest := []) (c_X1_remember (k0 := 0) S X.2.1 (by decide)  M M1 h25) kl_RX3_188 (lc_at192 S _) rfl rfl rfl rfl (Nat.le_of_ble_eq_true rfl) ⟨Nat.le_of_ble_eq_true rfl, Nat.le_of_ble_eq_true rfl⟩ ⟨rfl, rfl⟩ ⟨Nat.le_of_ble_eq_true rfl, Nat.le_of_ble_eq_true rfl⟩ dX3_charge_25 rfl ?_
    refine lc_aload_n C (pc' := 29) 0 dX3_charge_28 rfl rfl ?_
    refine lc_g194_now C (pc' := 32) (s := (M1 21)) rfl dX3_charge_29 kf_RX3_19 rfl ?_
    refine lc_iload_n C (pc' := 33) 1 dX3_charge_32 rfl rfl ?_
    refine lc_meq (lc_up_self M1 0).symm ?_
    obtain ⟨r33, s2, h33, h⟩ := lc_bd2e h
    refine lc_cvi C (pc' := 36) (r := r33) (M' := (va_up M1 0 s2)) (As := [.int x1]) (rest := []) (c_X0_fillEach S X.2.1 M1 (k0 := 0) (by decide) x1 (M1 0) (r33, s2) h33) kl_RX3_223 (lc_at_b S _ (by decide)) rfl rfl rfl rfl (Nat.le_of_ble_eq_true rfl) ⟨Nat.le_of_ble_eq_true rfl, Nat.le_of_ble_eq_true rfl⟩ ⟨rfl, rfl⟩ ⟨Nat.le_of_ble_eq_true rfl, Nat.le_of_ble_eq_true rfl⟩ dX3_charge_33 rfl ?_
    obtain ⟨M3, eM3, h⟩ := lc_let2 h
    refine lc_meq eM3 ?_
    obtain rfl := Option.some.inj h
    exact lc_xret C rfl (by decide) (by decide) dX3_charge_36
  · have h := (lc_if2 h).1 c4
    obtain rfl := Option.some.inj h
    exact lc_thr1 C hE hl lc_s209 dX3_charge_7 dX3_charge_10 dX3_charge_11 dX3_charge_13 dX3_charge_16 ⟨by decide, Nat.le_of_ble_eq_true rfl, by decide, by decide⟩
abbrev rm_X3_draw : Room := { frames := 6, cells := 1, slots := 6, locals := 137 }
def P_X3_draw  (x1 : Int32) (M : lc_MM) : Option (Nat × Int32 × lc_MM) :=
  lc_bd (P_X3_isUnits x1) (fun r1 => if r1 = 0 then some (1, 0, M) else lc_bd (P_X0_copyFrom  (M 0) (M 1)) (fun s1 => lc_let (va_up M 1 s1) (fun M2 => lc_bd2 (P_X0_giveEach x1 (M2 1)) (fun r33 s3 => lc_let (va_up M2 1 s3) (fun M4 => if r33 = 0 then some (2, 0, M4) else lc_bd (P_X1_remember 0 M4) (fun M5 => lc_bd (P_X0_copyFrom  (M5 1) (M5 0)) (fun s6 => lc_let (va_up M5 0 s6) (fun M7 => some (0, r33, M7)))))))))
set_option maxRecDepth 100000 in
set_option maxHeartbeats 4000000 in
theorem c_X3_draw (S : lc_Se) (l : Launch) (hl : l.stackTraces = false)   (x1 : Int32) (M : lc_MM) (out : Nat × Int32 × lc_MM) (h : P_X3_draw x1 M = some out) : lc_MX S l yX3_draw cX3_draw 3 (some .int) rm_X3_draw [.ref (lc_ad S 194), .int x1] M out.1 out.2.1 out.2.2 := by
  refine lc_mkX (own := RX3) pn_RX3 rfl (Nat.le_of_ble_eq_true rfl) (lo := [(0, .ref (lc_ad S 194)), (1, .int x1)]) rfl (fun X hX C hE => ?_)
  rw [P_X3_draw] at h
  subst hX
  refine lc_iload_n C (pc' := 1) 1 dX3_draw_0 rfl rfl ?_
  obtain ⟨r1, h1, h⟩ := lc_bde h
  refine lc_csi C (pc' := 4) (r := r1) (M' := M) (As := [.int x1]) (rest := []) (c_X3_isUnits S X.2.1 M   x1  r1 h1) kl_RX3_195 rfl rfl (Nat.le_of_ble_eq_true rfl) ⟨Nat.le_of_ble_eq_true rfl, Nat.le_of_ble_eq_true rfl⟩ ⟨rfl, rfl⟩ ⟨Nat.le_of_ble_eq_true rfl, Nat.le_of_ble_eq_true rfl⟩ dX3_draw_1 rfl ?_
  refine lc_if_ne C (pc' := 7) (tgt := 17) dX3_draw_4 (by decide) rfl (fun c4 => ?_) (fun c4 => ?_)
  · have h := (lc_if2 h).2 c4
    refine lc_aload_n C (pc' := 18) 0 dX3_draw_17 rfl rfl ?_
    refine lc_g194_trial C (pc' := 21) (s := (M 21)) rfl dX3_draw_18 kf_RX3_38 rfl ?_
    refine lc_aload_n C (pc' := 22) 0 dX3_draw_21 rfl rfl ?_
    refine lc_g194_now C (pc' := 25) (s := (M 21)) rfl dX3_draw_22 kf_RX3_19 rfl ?_
    refine lc_meq (lc_two M 0 1).symm ?_
    obtain ⟨s1, h25, h⟩ := lc_bde h
    refine lc_cvv C (pc' := 28) (M' := (va_up (va_up M 0 (M 0)) 1 s1)) (As := [.ref (lc_ad S (10 * 0))]) (rest := []) (c_X0_copyFrom S X.2.1 M (k0 := 1) (k1 := 0) (by decide) (by decide) (by decide)  (M 0) (M 1) s1 h25) kl_RX3_77 (lc_at_b S _ (by decide)) rfl rfl rfl rfl (Nat.le_of_ble_eq_true rfl) ⟨Nat.le_of_ble_eq_true rfl, Nat.le_of_ble_eq_true rfl⟩ ⟨rfl, rfl⟩ ⟨Nat.le_of_ble_eq_true rfl, Nat.le_of_ble_eq_true rfl⟩ dX3_draw_25 rfl ?_
    rw [lc_up_self M 0]
    obtain ⟨M2, eM2, h⟩ := lc_let2 h
    refine lc_meq eM2 ?_
    refine lc_aload_n C (pc' := 29) 0 dX3_draw_28 rfl rfl ?_
    refine lc_g194_trial C (pc' := 32) (s := (M2 21)) rfl dX3_draw_29 kf_RX3_38 rfl ?_
    refine lc_iload_n C (pc' := 33) 1 dX3_draw_32 rfl rfl ?_
    refine lc_meq (lc_up_self M2 1).symm ?_
    obtain ⟨r33, s3, h33, h⟩ := lc_bd2e h
    refine lc_cvi C (pc' := 36) (r := r33) (M' := (va_up M2 1 s3)) (As := [.int x1]) (rest := []) (c_X0_giveEach S X.2.1 M2 (k0 := 1) (by decide) x1 (M2 1) (r33, s3) h33) kl_RX3_226 (lc_at_b S _ (by decide)) rfl rfl rfl rfl (Nat.le_of_ble_eq_true rfl) ⟨Nat.le_of_ble_eq_true rfl, Nat.le_of_ble_eq_true rfl⟩ ⟨rfl, rfl⟩ ⟨Nat.le_of_ble_eq_true rfl, Nat.le_of_ble_eq_true rfl⟩ dX3_draw_33 rfl ?_
    obtain ⟨M4, eM4, h⟩ := lc_let2 h
    refine lc_meq eM4 ?_
    refine lc_istore_n C (pc' := 37) (lo' := [(2, .int r33), (0, .ref (lc_ad S 194)), (1, .int x1)]) dX3_draw_36 (Nat.le_of_ble_eq_true rfl) rfl rfl ?_
    refine lc_iload_n C (pc' := 38) 0 dX3_draw_37 rfl rfl ?_
    refine lc_if_ne C (pc' := 41) (tgt := 51) dX3_draw_38 (by decide) rfl (fun c38 => ?_) (fun c38 => ?_)
    · have h := (lc_if2 h).2 c38
      refine lc_aload_n C (pc' := 52) 1 dX3_draw_51 rfl rfl ?_
      refine lc_g194_history C (pc' := 55) (s := (M4 21)) rfl dX3_draw_52 kf_RX3_26 rfl ?_
      refine lc_aload_n C (pc' := 56) 1 dX3_draw_55 rfl rfl ?_
      refine lc_g194_now C (pc' := 59) (s := (M4 21)) rfl dX3_draw_56 kf_RX3_19 rfl ?_
      obtain ⟨M5, h59, h⟩ := lc_bde h
      refine lc_cvv C (pc' := 62) (M' := M5) (As := [.ref (lc_ad S (10 * 0))]) (rest := []) (c_X1_remember (k0 := 0) S X.2.1 (by decide)  M4 M5 h59) kl_RX3_188 (lc_at192 S _) rfl rfl rfl rfl (Nat.le_of_ble_eq_true rfl) ⟨Nat.le_of_ble_eq_true rfl, Nat.le_of_ble_eq_true rfl⟩ ⟨rfl, rfl⟩ ⟨Nat.le_of_ble_eq_true rfl, Nat.le_of_ble_eq_true rfl⟩ dX3_draw_59 rfl ?_
      refine lc_aload_n C (pc' := 63) 1 dX3_draw_62 rfl rfl ?_
      refine lc_g194_now C (pc' := 66) (s := (M5 21)) rfl dX3_draw_63 kf_RX3_19 rfl ?_
      refine lc_aload_n C (pc' := 67) 1 dX3_draw_66 rfl rfl ?_
      refine lc_g194_trial C (pc' := 70) (s := (M5 21)) rfl dX3_draw_67 kf_RX3_38 rfl ?_
      refine lc_meq (lc_two M5 1 0).symm ?_
      obtain ⟨s6, h70, h⟩ := lc_bde h
      refine lc_cvv C (pc' := 73) (M' := (va_up (va_up M5 1 (M5 1)) 0 s6)) (As := [.ref (lc_ad S (10 * 1))]) (rest := []) (c_X0_copyFrom S X.2.1 M5 (k0 := 0) (k1 := 1) (by decide) (by decide) (by decide)  (M5 1) (M5 0) s6 h70) kl_RX3_77 (lc_at_b S _ (by decide)) rfl rfl rfl rfl (Nat.le_of_ble_eq_true rfl) ⟨Nat.le_of_ble_eq_true rfl, Nat.le_of_ble_eq_true rfl⟩ ⟨rfl, rfl⟩ ⟨Nat.le_of_ble_eq_true rfl, Nat.le_of_ble_eq_true rfl⟩ dX3_draw_70 rfl ?_
      rw [lc_up_self M5 1]
      obtain ⟨M7, eM7, h⟩ := lc_let2 h
      refine lc_meq eM7 ?_
      refine lc_iload_n C (pc' := 74) 0 dX3_draw_73 rfl rfl ?_
      obtain rfl := Option.some.inj h
      exact lc_xret C rfl (by decide) (by decide) dX3_draw_74
    · have h := (lc_if2 h).1 c38
      obtain rfl := Option.some.inj h
      exact lc_thr2 C hE hl lc_s229 dX3_draw_41 dX3_draw_44 dX3_draw_45 dX3_draw_47 dX3_draw_50 ⟨by decide, Nat.le_of_ble_eq_true rfl, by decide, by decide⟩
  · have h := (lc_if2 h).1 c4
    obtain rfl := Option.some.inj h
    exact lc_thr1 C hE hl lc_s209 dX3_draw_7 dX3_draw_10 dX3_draw_11 dX3_draw_13 dX3_draw_16 ⟨by decide, Nat.le_of_ble_eq_true rfl, by decide, by decide⟩
abbrev rm_X3_pass : Room := { frames := 6, cells := 1, slots := 6, locals := 139 }
def P_X3_pass  (x1 : Int32) (M : lc_MM) : Option (Nat × Int32 × lc_MM) :=
  lc_bd (P_X3_isWithin x1 (1 : Int32) (50 : Int32)) (fun r4 => if r4 = 0 then some (1, 0, M) else lc_bd (P_X1_remember 0 M) (fun M1 => lc_bd2 (P_X0_letRoundsGoBy x1 (M1 0)) (fun r36 s2 => lc_let (va_up M1 0 s2) (fun M3 => some (0, r36, M3)))))
set_option maxRecDepth 100000 in
set_option maxHeartbeats 4000000 in
theorem c_X3_pass (S : lc_Se) (l : Launch) (hl : l.stackTraces = false)   (x1 : Int32) (M : lc_MM) (out : Nat × Int32 × lc_MM) (h : P_X3_pass x1 M = some out) : lc_MX S l yX3_pass cX3_pass 2 (some .int) rm_X3_pass [.ref (lc_ad S 194), .int x1] M out.1 out.2.1 out.2.2 := by
  refine lc_mkX (own := RX3) pn_RX3 rfl (Nat.le_of_ble_eq_true rfl) (lo := [(0, .ref (lc_ad S 194)), (1, .int x1)]) rfl (fun X hX C hE => ?_)
  rw [P_X3_pass] at h
  subst hX
  refine lc_iload_n C (pc' := 1) 1 dX3_pass_0 rfl rfl ?_
  refine lc_iconst C (pc' := 2) (v := (1 : Int32)) dX3_pass_1 (by decide) rfl ?_
  refine lc_bipush C (pc' := 4) (v := (50 : Int32)) dX3_pass_2 (by decide) rfl ?_
  obtain ⟨r4, h4, h⟩ := lc_bde h
  refine lc_csi C (pc' := 7) (r := r4) (M' := M) (As := [.int x1, .int (1 : Int32), .int (50 : Int32)]) (rest := []) (c_X3_isWithin S X.2.1 M   x1 (1 : Int32) (50 : Int32)  r4 h4) kl_RX3_44 rfl rfl (Nat.le_of_ble_eq_true rfl) ⟨Nat.le_of_ble_eq_true rfl, Nat.le_of_ble_eq_true rfl⟩ ⟨rfl, rfl⟩ ⟨Nat.le_of_ble_eq_true rfl, Nat.le_of_ble_eq_true rfl⟩ dX3_pass_4 rfl ?_
  refine lc_if_ne C (pc' := 10) (tgt := 20) dX3_pass_7 (by decide) rfl (fun c7 => ?_) (fun c7 => ?_)
  · have h := (lc_if2 h).2 c7
    refine lc_aload_n C (pc' := 21) 0 dX3_pass_20 rfl rfl ?_
    refine lc_g194_history C (pc' := 24) (s := (M 21)) rfl dX3_pass_21 kf_RX3_26 rfl ?_
    refine lc_aload_n C (pc' := 25) 0 dX3_pass_24 rfl rfl ?_
    refine lc_g194_now C (pc' := 28) (s := (M 21)) rfl dX3_pass_25 kf_RX3_19 rfl ?_
    obtain ⟨M1, h28, h⟩ := lc_bde h
    refine lc_cvv C (pc' := 31) (M' := M1) (As := [.ref (lc_ad S (10 * 0))]) (rest := []) (c_X1_remember (k0 := 0) S X.2.1 (by decide)  M M1 h28) kl_RX3_188 (lc_at192 S _) rfl rfl rfl rfl (Nat.le_of_ble_eq_true rfl) ⟨Nat.le_of_ble_eq_true rfl, Nat.le_of_ble_eq_true rfl⟩ ⟨rfl, rfl⟩ ⟨Nat.le_of_ble_eq_true rfl, Nat.le_of_ble_eq_true rfl⟩ dX3_pass_28 rfl ?_
    refine lc_aload_n C (pc' := 32) 0 dX3_pass_31 rfl rfl ?_
    refine lc_g194_now C (pc' := 35) (s := (M1 21)) rfl dX3_pass_32 kf_RX3_19 rfl ?_
    refine lc_iload_n C (pc' := 36) 1 dX3_pass_35 rfl rfl ?_
    refine lc_meq (lc_up_self M1 0).symm ?_
    obtain ⟨r36, s2, h36, h⟩ := lc_bd2e h
    refine lc_cvi C (pc' := 39) (r := r36) (M' := (va_up M1 0 s2)) (As := [.int x1]) (rest := []) (c_X0_letRoundsGoBy S X.2.1 M1 (k0 := 0) (by decide) x1 (M1 0) (r36, s2) h36) kl_RX3_233 (lc_at_b S _ (by decide)) rfl rfl rfl rfl (Nat.le_of_ble_eq_true rfl) ⟨Nat.le_of_ble_eq_true rfl, Nat.le_of_ble_eq_true rfl⟩ ⟨rfl, rfl⟩ ⟨Nat.le_of_ble_eq_true rfl, Nat.le_of_ble_eq_true rfl⟩ dX3_pass_36 rfl ?_
    obtain ⟨M3, eM3, h⟩ := lc_let2 h
    refine lc_meq eM3 ?_
    obtain rfl := Option.some.inj h
    exact lc_xret C rfl (by decide) (by decide) dX3_pass_39
  · have h := (lc_if2 h).1 c7
    obtain rfl := Option.some.inj h
    exact lc_thr1 C hE hl lc_s231 dX3_pass_10 dX3_pass_13 dX3_pass_14 dX3_pass_16 dX3_pass_19 ⟨by decide, Nat.le_of_ble_eq_true rfl, by decide, by decide⟩
