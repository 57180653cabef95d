abbrev rm_X0_hasCell : Room := { frames := 0, cells := 0, slots := 0, locals := 0 }
def P_X0_hasCell (x1 : Int32) (s : lc_St) : Option (Int32) :=
  if x1 < 0 then some (0 : Int32) else if (s 0 0) ≤ x1 then some (0 : Int32) else some (1 : Int32)
set_option maxRecDepth 100000 in
set_option maxHeartbeats 4000000 in
theorem c_X0_hasCell (S : lc_Se) (l : Launch) (M : lc_MM) {k0 : Nat} (hk : k0 < 19) (x1 : Int32) (s : lc_St) (out : Int32) (h : P_X0_hasCell x1 s = some out) : lc_MI S l yX0_hasCell cX0_hasCell 2 (some .boolean) rm_X0_hasCell [.ref (lc_ad S (10 * k0)), .int x1] (va_up M k0 s) out (va_up M k0 s) := by
  refine lc_mkI (own := RX0) pn_RX0 rfl (Nat.le_of_ble_eq_true rfl) (lo := [(0, .ref (lc_ad S (10 * k0))), (1, .int x1)]) rfl (fun X hX C => ?_)
  rw [P_X0_hasCell] at h
  refine lc_iload_n C (pc' := 1) 1 dX0_hasCell_0 rfl rfl ?_
  refine lc_if_lt C (pc' := 4) (tgt := 16) dX0_hasCell_1 (by decide) rfl (fun c1 => ?_) (fun c1 => ?_)
  · have h := (lc_if2 h).1 c1
    refine lc_iconst C (pc' := 17) (v := (0 : Int32)) dX0_hasCell_16 (by decide) rfl ?_
    obtain rfl := Option.some.inj h
    exact lc_zret C rfl (Or.inl rfl) dX0_hasCell_17
  · have h := (lc_if2 h).2 c1
    refine lc_iload_n C (pc' := 5) 1 dX0_hasCell_4 rfl rfl ?_
    refine lc_aload_n C (pc' := 6) 0 dX0_hasCell_5 rfl rfl ?_
    refine lc_bg0 C (pc' := 9) (k0 := k0) hk (va_up_self _ _ _) dX0_hasCell_6 kf_RX0_43 rfl ?_
    refine lc_icmp_ge C (pc' := 12) (tgt := 16) dX0_hasCell_9 (by decide) rfl (fun c9 => ?_) (fun c9 => ?_)
    · have h := (lc_if2 h).1 c9
      refine lc_iconst C (pc' := 17) (v := (0 : Int32)) dX0_hasCell_16 (by decide) rfl ?_
      obtain rfl := Option.some.inj h
      exact lc_zret C rfl (Or.inl rfl) dX0_hasCell_17
    · have h := (lc_if2 h).2 c9
      refine lc_iconst C (pc' := 13) (v := (1 : Int32)) dX0_hasCell_12 (by decide) rfl ?_
      refine lc_goto C (tgt := 17) dX0_hasCell_13 (by decide) ?_
      obtain rfl := Option.some.inj h
      exact lc_zret C rfl (Or.inr rfl) dX0_hasCell_17
abbrev rm_X0_owedBy : Room := { frames := 0, cells := 0, slots := 0, locals := 0 }
def P_X0_owedBy_31 (K4 : Int32 → Int32 → Int32 → lc_St → Option (Int32)) (x1 : Int32) (x2 : Int32) (x3 : Int32) (s : lc_St) : Option (Int32) :=
  lc_let (x3 + (1 : Int32)) (fun x3_31 => K4 x1 x2 x3_31 s)
set_option maxRecDepth 100000 in
set_option maxHeartbeats 4000000 in
theorem w_X0_owedBy_31 {S : lc_Se} {X : lc_X} (C : lc_C X cX0_owedBy RX0 4 (some .int) rm_X0_owedBy) {M : lc_MM} {k0 : Nat} (hk : k0 < 19) (out : Int32) (K4 : Int32 → Int32 → Int32 → lc_St → Option (Int32)) (hK4 : ∀ (x1 : Int32) (x2 : Int32) (x3 : Int32) (s : lc_St), K4 x1 x2 x3 s = some out → lc_J S X 4 0 0 (lc_QI S X 0 0 out (va_up M k0 s)) 4 [(0, .ref (lc_ad S (10 * k0))), (1, .int x1), (2, .int x2), (3, .int x3)] [] (va_up M k0 s)) : ∀ (x1 : Int32) (x2 : Int32) (x3 : Int32) (s : lc_St), P_X0_owedBy_31 K4 x1 x2 x3 s = some out → lc_J S X 4 0 0 (lc_QI S X 0 0 out (va_up M k0 s)) 31 [(0, .ref (lc_ad S (10 * k0))), (1, .int x1), (2, .int x2), (3, .int x3)] [] (va_up M k0 s) := by
  intro x1 x2 x3 s h
  rw [P_X0_owedBy_31] at h
  obtain ⟨x3_31, e3_31, h⟩ := lc_let2 h
  refine lc_iinc C (pc' := 34) (lo' := [(3, .int x3_31), (0, .ref (lc_ad S (10 * k0))), (1, .int x1), (2, .int x2)]) (q := 3) dX0_owedBy_31 rfl (by rw [← e3_31]; rfl) (Nat.le_of_ble_eq_true rfl) rfl rfl ?_
  refine lc_goto C (tgt := 4) dX0_owedBy_34 (by decide) ?_
  refine lc_sub (lo' := [(0, .ref (lc_ad S (10 * k0))), (1, .int x1), (2, .int x2), (3, .int x3_31)]) [1, 2, 3, 0] rfl ?_
  exact hK4 x1 x2 x3_31 s h
def P_X0_owedBy_4  : Nat → Int32 → Int32 → Int32 → lc_St → Option (Int32)
  | 0, _, _, _, _ => none
  | n + 1, x1, x2, x3, s =>
    if (s 0 1) ≤ x3 then some x2 else lc_if (lc_ok x3 12) (if (s 6 x3.toNatClampNeg) = x1 then lc_if (lc_ok x3 12) (lc_let (x2 + (s 7 x3.toNatClampNeg)) (fun x2_30 => P_X0_owedBy_31 (fun x1 x2 x3 s => P_X0_owedBy_4  n x1 x2 x3 s)  x1 x2_30 x3 s)) else P_X0_owedBy_31 (fun x1 x2 x3 s => P_X0_owedBy_4  n x1 x2 x3 s)  x1 x2 x3 s)
set_option maxRecDepth 100000 in
set_option maxHeartbeats 4000000 in
theorem w_X0_owedBy_4 {S : lc_Se} {X : lc_X} (C : lc_C X cX0_owedBy RX0 4 (some .int) rm_X0_owedBy) {M : lc_MM} {k0 : Nat} (hk : k0 < 19) (out : Int32)  : ∀ (n : Nat) (x1 : Int32) (x2 : Int32) (x3 : Int32) (s : lc_St), P_X0_owedBy_4  n x1 x2 x3 s = some out → lc_J S X 4 0 0 (lc_QI S X 0 0 out (va_up M k0 s)) 4 [(0, .ref (lc_ad S (10 * k0))), (1, .int x1), (2, .int x2), (3, .int x3)] [] (va_up M k0 s) := by
  intro n
  induction n with
  | zero =>
    intro x1 x2 x3 s h
    rw [P_X0_owedBy_4] at h
    cases h
  | succ n ih =>
    intro x1 x2 x3 s h
    rw [P_X0_owedBy_4] at h
    refine lc_iload_n C (pc' := 5) 3 dX0_owedBy_4 rfl rfl ?_
    refine lc_aload_n C (pc' := 6) 0 dX0_owedBy_5 rfl rfl ?_
    refine lc_bg1 C (pc' := 9) (k0 := k0) hk (va_up_self _ _ _) dX0_owedBy_6 kf_RX0_46 rfl ?_
    refine lc_icmp_ge C (pc' := 12) (tgt := 37) dX0_owedBy_9 (by decide) rfl (fun c9 => ?_) (fun c9 => ?_)
    · have h := (lc_if2 h).1 c9
      refine lc_iload_n C (pc' := 38) 2 dX0_owedBy_37 rfl rfl ?_
      obtain rfl := Option.some.inj h
      exact lc_iret C rfl dX0_owedBy_38
    · have h := (lc_if2 h).2 c9
      refine lc_aload_n C (pc' := 13) 0 dX0_owedBy_12 rfl rfl ?_
      refine lc_br5 C (pc' := 16) (k0 := k0) hk dX0_owedBy_13 kf_RX0_27 rfl ?_
      refine lc_iload_n C (pc' := 17) 3 dX0_owedBy_16 rfl rfl ?_
      obtain ⟨hi17, h⟩ := lc_ife h
      refine lc_bald C (pc' := 18) (k0 := k0) (r := 6) (len := 12) (jj := x3.toNatClampNeg) hk (by decide) (by decide) (va_up_self _ _ _) rfl hi17 rfl dX0_owedBy_17 rfl ?_
      refine lc_iload_n C (pc' := 19) 1 dX0_owedBy_18 rfl rfl ?_
      refine lc_icmp_ne C (pc' := 22) (tgt := 31) dX0_owedBy_19 (by decide) rfl (fun c19 => ?_) (fun c19 => ?_)
      · have h := (lc_if2 h).2 c19
        exact w_X0_owedBy_31 C hk out (fun x1 x2 x3 s => P_X0_owedBy_4  n x1 x2 x3 s) ih  x1 x2 x3 s h
      · have h := (lc_if2 h).1 c19
        refine lc_iload_n C (pc' := 23) 2 dX0_owedBy_22 rfl rfl ?_
        refine lc_aload_n C (pc' := 24) 0 dX0_owedBy_23 rfl rfl ?_
        refine lc_br6 C (pc' := 27) (k0 := k0) hk dX0_owedBy_24 kf_RX0_30 rfl ?_
        refine lc_iload_n C (pc' := 28) 3 dX0_owedBy_27 rfl rfl ?_
        obtain ⟨hi28, h⟩ := lc_ife h
        refine lc_bald C (pc' := 29) (k0 := k0) (r := 7) (len := 12) (jj := x3.toNatClampNeg) hk (by decide) (by decide) (va_up_self _ _ _) rfl hi28 rfl dX0_owedBy_28 rfl ?_
        refine lc_iadd C (pc' := 30) dX0_owedBy_29 rfl ?_
        obtain ⟨x2_30, e2_30, h⟩ := lc_let2 h
        rw [e2_30]
        refine lc_istore_n C (pc' := 31) (lo' := [(2, .int x2_30), (0, .ref (lc_ad S (10 * k0))), (1, .int x1), (3, .int x3)]) dX0_owedBy_30 (Nat.le_of_ble_eq_true rfl) rfl rfl ?_
        refine lc_sub (lo' := [(0, .ref (lc_ad S (10 * k0))), (1, .int x1), (2, .int x2_30), (3, .int x3)]) [1, 2, 0, 3] rfl ?_
        exact w_X0_owedBy_31 C hk out (fun x1 x2 x3 s => P_X0_owedBy_4  n x1 x2 x3 s) ih  x1 x2_30 x3 s h
def P_X0_owedBy (x1 : Int32) (s : lc_St) : Option (Int32) :=
  P_X0_owedBy_4  lc_FU x1 (0 : Int32) (0 : Int32) s
set_option maxRecDepth 100000 in
set_option maxHeartbeats 4000000 in
theorem c_X0_owedBy (S : lc_Se) (l : Launch) (M : lc_MM) {k0 : Nat} (hk : k0 < 19) (x1 : Int32) (s : lc_St) (out : Int32) (h : P_X0_owedBy x1 s = some out) : lc_MI S l yX0_owedBy cX0_owedBy 4 (some .int) rm_X0_owedBy [.ref (lc_ad S (10 * k0)), .int x1] (va_up M k0 s) out (va_up M k0 s) := by
  refine lc_mkI (own := RX0) pn_RX0 rfl (Nat.le_of_ble_eq_true rfl) (lo := [(0, .ref (lc_ad S (10 * k0))), (1, .int x1)]) rfl (fun X hX C => ?_)
  rw [P_X0_owedBy] at h
  refine lc_iconst C (pc' := 1) (v := (0 : Int32)) dX0_owedBy_0 (by decide) rfl ?_
  refine lc_istore_n C (pc' := 2) (lo' := [(2, .int (0 : Int32)), (0, .ref (lc_ad S (10 * k0))), (1, .int x1)]) dX0_owedBy_1 (Nat.le_of_ble_eq_true rfl) rfl rfl ?_
  refine lc_iconst C (pc' := 3) (v := (0 : Int32)) dX0_owedBy_2 (by decide) rfl ?_
  refine lc_istore_n C (pc' := 4) (lo' := [(3, .int (0 : Int32)), (2, .int (0 : Int32)), (0, .ref (lc_ad S (10 * k0))), (1, .int x1)]) dX0_owedBy_3 (Nat.le_of_ble_eq_true rfl) rfl rfl ?_
  refine lc_sub (lo' := [(0, .ref (lc_ad S (10 * k0))), (1, .int x1), (2, .int (0 : Int32)), (3, .int (0 : Int32))]) [2, 3, 1, 0] rfl ?_
  exact w_X0_owedBy_4 C hk out  lc_FU x1 (0 : Int32) (0 : Int32) s h
abbrev rm_X0_isBankrupt : Room := { frames := 0, cells := 0, slots := 0, locals := 0 }
def P_X0_isBankrupt (x1 : Int32) (s : lc_St) : Option (Int32) :=
  if x1 < 0 then some (0 : Int32) else if (s 0 0) ≤ x1 then some (0 : Int32) else lc_if (lc_ok x1 8) (if (s 4 x1.toNatClampNeg) < (3 : Int32) then some (0 : Int32) else some (1 : Int32))
set_option maxRecDepth 100000 in
set_option maxHeartbeats 4000000 in
theorem c_X0_isBankrupt (S : lc_Se) (l : Launch) (M : lc_MM) {k0 : Nat} (hk : k0 < 19) (x1 : Int32) (s : lc_St) (out : Int32) (h : P_X0_isBankrupt x1 s = some out) : lc_MI S l yX0_isBankrupt cX0_isBankrupt 2 (some .boolean) rm_X0_isBankrupt [.ref (lc_ad S (10 * k0)), .int x1] (va_up M k0 s) out (va_up M k0 s) := by
  refine lc_mkI (own := RX0) pn_RX0 rfl (Nat.le_of_ble_eq_true rfl) (lo := [(0, .ref (lc_ad S (10 * k0))), (1, .int x1)]) rfl (fun X hX C => ?_)
  rw [P_X0_isBankrupt] at h
  refine lc_iload_n C (pc' := 1) 1 dX0_isBankrupt_0 rfl rfl ?_
  refine lc_if_lt C (pc' := 4) (tgt := 26) dX0_isBankrupt_1 (by decide) rfl (fun c1 => ?_) (fun c1 => ?_)
  · have h := (lc_if2 h).1 c1
    refine lc_iconst C (pc' := 27) (v := (0 : Int32)) dX0_isBankrupt_26 (by decide) rfl ?_
    obtain rfl := Option.some.inj h
    exact lc_zret C rfl (Or.inl rfl) dX0_isBankrupt_27
  · have h := (lc_if2 h).2 c1
    refine lc_iload_n C (pc' := 5) 1 dX0_isBankrupt_4 rfl rfl ?_
    refine lc_aload_n C (pc' := 6) 0 dX0_isBankrupt_5 rfl rfl ?_
    refine lc_bg0 C (pc' := 9) (k0 := k0) hk (va_up_self _ _ _) dX0_isBankrupt_6 kf_RX0_43 rfl ?_
    refine lc_icmp_ge C (pc' := 12) (tgt := 26) dX0_isBankrupt_9 (by decide) rfl (fun c9 => ?_) (fun c9 => ?_)
    · have h := (lc_if2 h).1 c9
      refine lc_iconst C (pc' := 27) (v := (0 : Int32)) dX0_isBankrupt_26 (by decide) rfl ?_
      obtain rfl := Option.some.inj h
      exact lc_zret C rfl (Or.inl rfl) dX0_isBankrupt_27
    · have h := (lc_if2 h).2 c9
      refine lc_aload_n C (pc' := 13) 0 dX0_isBankrupt_12 rfl rfl ?_
      refine lc_br3 C (pc' := 16) (k0 := k0) hk dX0_isBankrupt_13 kf_RX0_21 rfl ?_
      refine lc_iload_n C (pc' := 17) 1 dX0_isBankrupt_16 rfl rfl ?_
      obtain ⟨hi17, h⟩ := lc_ife h
      refine lc_bald C (pc' := 18) (k0 := k0) (r := 4) (len := 8) (jj := x1.toNatClampNeg) hk (by decide) (by decide) (va_up_self _ _ _) rfl hi17 rfl dX0_isBankrupt_17 rfl ?_
      refine lc_iconst C (pc' := 19) (v := (3 : Int32)) dX0_isBankrupt_18 (by decide) rfl ?_
      refine lc_icmp_lt C (pc' := 22) (tgt := 26) dX0_isBankrupt_19 (by decide) rfl (fun c19 => ?_) (fun c19 => ?_)
      · have h := (lc_if2 h).1 c19
        refine lc_iconst C (pc' := 27) (v := (0 : Int32)) dX0_isBankrupt_26 (by decide) rfl ?_
        obtain rfl := Option.some.inj h
        exact lc_zret C rfl (Or.inl rfl) dX0_isBankrupt_27
      · have h := (lc_if2 h).2 c19
        refine lc_iconst C (pc' := 23) (v := (1 : Int32)) dX0_isBankrupt_22 (by decide) rfl ?_
        refine lc_goto C (tgt := 27) dX0_isBankrupt_23 (by decide) ?_
        obtain rfl := Option.some.inj h
        exact lc_zret C rfl (Or.inr rfl) dX0_isBankrupt_27
abbrev rm_X0_loseAsHeat : Room := { frames := 1, cells := 0, slots := 0, locals := 21 }
def P_X0_loseAsHeat (x1 : Int32) (x2 : Int32) (s : lc_St) : Option (lc_St) :=
  lc_bd (P_X0_hasCell x1 s) (fun r2 => if r2 = 0 then some s else lc_if (lc_ok x1 8) (lc_if (lc_ok x1 8) (lc_let (lc_ss s 2 (x1.toNatClampNeg) ((s 2 x1.toNatClampNeg) - x2)) (fun s1 => lc_let (lc_ss s1 0 5 ((s1 0 5) + x2)) (fun s2 => some s2)))))
set_option maxRecDepth 100000 in
set_option maxHeartbeats 4000000 in
theorem c_X0_loseAsHeat (S : lc_Se) (l : Launch) (M : lc_MM) {k0 : Nat} (hk : k0 < 19) (x1 : Int32) (x2 : Int32) (s : lc_St) (out : lc_St) (h : P_X0_loseAsHeat x1 x2 s = some out) : lc_MV S l yX0_loseAsHeat cX0_loseAsHeat 3 none rm_X0_loseAsHeat [.ref (lc_ad S (10 * k0)), .int x1, .int x2] (va_up M k0 s)  (va_up M k0 out) := by
  refine lc_mkV (own := RX0) pn_RX0 rfl (Nat.le_of_ble_eq_true rfl) (lo := [(0, .ref (lc_ad S (10 * k0))), (1, .int x1), (2, .int x2)]) rfl (fun X hX C => ?_)
  rw [P_X0_loseAsHeat] at h
  refine lc_aload_n C (pc' := 1) 0 dX0_loseAsHeat_0 rfl rfl ?_
  refine lc_iload_n C (pc' := 2) 1 dX0_loseAsHeat_1 rfl rfl ?_
  obtain ⟨r2, h2, h⟩ := lc_bde h
  refine lc_cvi C (pc' := 5) (r := r2) (M' := (va_up M k0 s)) (As := [.int x1]) (rest := []) (c_X0_hasCell S X.2.1 M hk x1 s r2 h2) kl_RX0_73 (lc_at_b S _ hk) rfl rfl rfl rfl (Nat.le_of_ble_eq_true rfl) ⟨Nat.le_of_ble_eq_true rfl, Nat.le_of_ble_eq_true rfl⟩ ⟨rfl, rfl⟩ (lc_z2 _ _) dX0_loseAsHeat_2 rfl ?_
  refine lc_if_eq C (pc' := 8) (tgt := 28) dX0_loseAsHeat_5 (by decide) rfl (fun c5 => ?_) (fun c5 => ?_)
  · have h := (lc_if2 h).1 c5
    obtain rfl := Option.some.inj h
    exact lc_vret C rfl dX0_loseAsHeat_28
  · have h := (lc_if2 h).2 c5
    refine lc_aload_n C (pc' := 9) 0 dX0_loseAsHeat_8 rfl rfl ?_
    refine lc_br1 C (pc' := 12) (k0 := k0) hk dX0_loseAsHeat_9 kf_RX0_15 rfl ?_
    refine lc_iload_n C (pc' := 13) 1 dX0_loseAsHeat_12 rfl rfl ?_
    refine lc_dup2 C (pc' := 14) dX0_loseAsHeat_13 rfl rfl rfl ?_
    obtain ⟨hi14, h⟩ := lc_ife h
    refine lc_bald C (pc' := 15) (k0 := k0) (r := 2) (len := 8) (jj := x1.toNatClampNeg) hk (by decide) (by decide) (va_up_self _ _ _) rfl hi14 rfl dX0_loseAsHeat_14 rfl ?_
    refine lc_iload_n C (pc' := 16) 2 dX0_loseAsHeat_15 rfl rfl ?_
    refine lc_isub C (pc' := 17) dX0_loseAsHeat_16 rfl ?_
    obtain ⟨hi17, h⟩ := lc_ife h
    obtain ⟨s1, es1, h⟩ := lc_let2 h
    refine lc_bast C (pc' := 18) (k0 := k0) (r := 2) (len := 8) (jj := x1.toNatClampNeg) (M' := (va_up M k0 s1)) hk (by decide) (by decide) (va_up_self _ _ _) rfl hi17 rfl es1 (lc_up_up _ _ _ _) dX0_loseAsHeat_17 rfl ?_
    refine lc_aload_n C (pc' := 19) 0 dX0_loseAsHeat_18 rfl rfl ?_
    refine lc_dup C (pc' := 20) dX0_loseAsHeat_19 rfl rfl ?_
    refine lc_bg5 C (pc' := 23) (k0 := k0) hk (va_up_self _ _ _) dX0_loseAsHeat_20 kf_RX0_58 rfl ?_
    refine lc_iload_n C (pc' := 24) 2 dX0_loseAsHeat_23 rfl rfl ?_
    refine lc_iadd C (pc' := 25) dX0_loseAsHeat_24 rfl ?_
    obtain ⟨s2, es2, h⟩ := lc_let2 h
    refine lc_bp5 C (pc' := 28) (k0 := k0) (M' := (va_up M k0 s2)) hk (va_up_self _ _ _) es2 (lc_up_up _ _ _ _) dX0_loseAsHeat_25 kf_RX0_58 rfl ?_
    obtain rfl := Option.some.inj h
    exact lc_vret C rfl dX0_loseAsHeat_28
abbrev rm_X0_chargeOf : Room := { frames := 1, cells := 0, slots := 0, locals := 21 }
def P_X0_chargeOf (x1 : Int32) (s : lc_St) : Option (Int32) :=
  lc_bd (P_X0_hasCell x1 s) (fun r2 => if r2 = 0 then some (0 : Int32) else lc_if (lc_ok x1 8) (some (s 2 x1.toNatClampNeg)))
set_option maxRecDepth 100000 in
set_option maxHeartbeats 4000000 in
theorem c_X0_chargeOf (S : lc_Se) (l : Launch) (M : lc_MM) {k0 : Nat} (hk : k0 < 19) (x1 : Int32) (s : lc_St) (out : Int32) (h : P_X0_chargeOf x1 s = some out) : lc_MI S l yX0_chargeOf cX0_chargeOf 2 (some .int) rm_X0_chargeOf [.ref (lc_ad S (10 * k0)), .int x1] (va_up M k0 s) out (va_up M k0 s) := by
  refine lc_mkI (own := RX0) pn_RX0 rfl (Nat.le_of_ble_eq_true rfl) (lo := [(0, .ref (lc_ad S (10 * k0))), (1, .int x1)]) rfl (fun X hX C => ?_)
  rw [P_X0_chargeOf] at h
  refine lc_aload_n C (pc' := 1) 0 dX0_chargeOf_0 rfl rfl ?_
  refine lc_iload_n C (pc' := 2) 1 dX0_chargeOf_1 rfl rfl ?_
  obtain ⟨r2, h2, h⟩ := lc_bde h
  refine lc_cvi C (pc' := 5) (r := r2) (M' := (va_up M k0 s)) (As := [.int x1]) (rest := []) (c_X0_hasCell S X.2.1 M hk x1 s r2 h2) kl_RX0_73 (lc_at_b S _ hk) rfl rfl rfl rfl (Nat.le_of_ble_eq_true rfl) ⟨Nat.le_of_ble_eq_true rfl, Nat.le_of_ble_eq_true rfl⟩ ⟨rfl, rfl⟩ (lc_z2 _ _) dX0_chargeOf_2 rfl ?_
  refine lc_if_eq C (pc' := 8) (tgt := 17) dX0_chargeOf_5 (by decide) rfl (fun c5 => ?_) (fun c5 => ?_)
  · have h := (lc_if2 h).1 c5
    refine lc_iconst C (pc' := 18) (v := (0 : Int32)) dX0_chargeOf_17 (by decide) rfl ?_
    obtain rfl := Option.some.inj h
    exact lc_iret C rfl dX0_chargeOf_18
  · have h := (lc_if2 h).2 c5
    refine lc_aload_n C (pc' := 9) 0 dX0_chargeOf_8 rfl rfl ?_
    refine lc_br1 C (pc' := 12) (k0 := k0) hk dX0_chargeOf_9 kf_RX0_15 rfl ?_
    refine lc_iload_n C (pc' := 13) 1 dX0_chargeOf_12 rfl rfl ?_
    obtain ⟨hi13, h⟩ := lc_ife h
    refine lc_bald C (pc' := 14) (k0 := k0) (r := 2) (len := 8) (jj := x1.toNatClampNeg) hk (by decide) (by decide) (va_up_self _ _ _) rfl hi13 rfl dX0_chargeOf_13 rfl ?_
    refine lc_goto C (tgt := 18) dX0_chargeOf_14 (by decide) ?_
    obtain rfl := Option.some.inj h
    exact lc_iret C rfl dX0_chargeOf_18
