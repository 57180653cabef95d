def lw_bat (S : lc_Se) (h : Nat) (q : Nat → Nat) : va_W := [(h, .inr (0, [.ref (q 0), .ref (q 1), .ref (q 2), .ref (q 3), .ref (q 4), .ref (q 5), .ref (q 6), .ref (q 7), .ref (q 8), .int 0, .int 0, .int 0, .int 0, .int 0, .int 0, .int 0, .int (-9), .int 0])), (q 0, .inl (lc_cl S 1, 8, .inl (fun _ => 0))), (q 1, .inl (lc_cl S 1, 8, .inl (fun _ => 0))), (q 2, .inl (lc_cl S 1, 8, .inl (fun _ => 0))), (q 3, .inl (lc_cl S 1, 8, .inl (fun _ => 0))), (q 4, .inl (lc_cl S 1, 12, .inl (fun _ => 0))), (q 5, .inl (lc_cl S 1, 12, .inl (fun _ => 0))), (q 6, .inl (lc_cl S 1, 12, .inl (fun _ => 0))), (q 7, .inl (lc_cl S 1, 12, .inl (fun _ => 0))), (q 8, .inl (lc_cl S 1, 12, .inl (fun _ => 0)))]
def lw_flat (S : lc_Se) (hb : Nat → Nat) (qb : Nat → Nat → Nat) (n : Nat) : va_W := (List.range n).flatMap (fun j => lw_bat S (hb j) (qb j))
def lw_rf (hb : Nat → Nat) (i : Nat) : Nat → Option Nat := fun j => if j < i then some (hb j) else none
theorem lw_rf_s (hb : Nat → Nat) (i q : Nat) : va_up (lw_rf hb i) i (some q) = lw_rf (va_up hb i q) (i + 1) := by
  funext j
  unfold va_up lw_rf
  by_cases h : j = i
  · subst h; simp
  · by_cases h2 : j < i
    · simp [h, h2, Nat.lt_succ_of_lt h2]
    · simp [h, h2]; omega
theorem lw_flat_s (S : lc_Se) (hb : Nat → Nat) (qb : Nat → Nat → Nat) (i q : Nat) (u : Nat → Nat) : lw_flat S hb qb i ++ lw_bat S q u = lw_flat S (va_up hb i q) (va_up qb i u) (i + 1) := by
  unfold lw_flat
  rw [List.range_succ, List.flatMap_append]
  congr 1
  · apply congrArg List.flatten
    apply List.map_congr_left
    intro j hj
    have hj' : j ≠ i := Nat.ne_of_lt (List.mem_range.mp hj)
    simp only [va_up, if_neg hj']
  · simp [va_up]
abbrev lw_d0 : List Value := [.null, .null, .null, .null, .null, .null, .null, .null, .null, .int 0, .int 0, .int 0, .int 0, .int 0, .int 0, .int 0, .int 0, .int 0]
abbrev lw_d1 : List Value := [.null, .int 0, .int 0]
abbrev lw_d2 : List Value := [.null, .int 0, .int 0]
abbrev lw_d3 : List Value := [.null, .null, .null, .null, .null, .null, .null]
theorem lw_df0 : ∀ j, j < 18 → defaultValue (tyX0 j) = vp_V lw_d0 j := by
  intro j hj
  rcases (show j = 0 ∨ j = 1 ∨ j = 2 ∨ j = 3 ∨ j = 4 ∨ j = 5 ∨ j = 6 ∨ j = 7 ∨ j = 8 ∨ j = 9 ∨ j = 10 ∨ j = 11 ∨ j = 12 ∨ j = 13 ∨ j = 14 ∨ j = 15 ∨ j = 16 ∨ j = 17 by omega) with rfl | rfl | rfl | rfl | rfl | rfl | rfl | rfl | rfl | rfl | rfl | rfl | rfl | rfl | rfl | rfl | rfl | rfl <;> rfl
theorem lw_df1 : ∀ j, j < 3 → defaultValue (tyX1 j) = vp_V lw_d1 j := by
  intro j hj
  rcases (show j = 0 ∨ j = 1 ∨ j = 2 by omega) with rfl | rfl | rfl <;> rfl
theorem lw_df2 : ∀ j, j < 3 → defaultValue (tyX2 j) = vp_V lw_d2 j := by
  intro j hj
  rcases (show j = 0 ∨ j = 1 ∨ j = 2 by omega) with rfl | rfl | rfl <;> rfl
theorem lw_df3 : ∀ j, j < 7 → defaultValue (tyX3 j) = vp_V lw_d3 j := by
  intro j hj
  rcases (show j = 0 ∨ j = 1 ∨ j = 2 ∨ j = 3 ∨ j = 4 ∨ j = 5 ∨ j = 6 by omega) with rfl | rfl | rfl | rfl | rfl | rfl | rfl <;> rfl
abbrev rm_X0_init : Room := { frames := 1, cells := 9, slots := 92, locals := 20 }
set_option maxRecDepth 100000 in
set_option maxHeartbeats 4000000 in
theorem c_X0_init (S : lc_Se) (l : Launch) (V : va_W) (h0 : Nat) : lw_MV S l yX0_init cX0_init 1 none rm_X0_init [.ref h0] (V ++ [(h0, .inr (0, lw_d0))]) (fun (u : Nat → Nat) => V ++ lw_bat S h0 u) := by
  refine lw_mkV (own := RX0) pn_RX0 rfl (Nat.le_of_ble_eq_true rfl) (lo := [(0, .ref h0)]) rfl (fun X C hnm => ?_)
  refine lw_aload_n C (pc' := 1) 0 dX0_init_0 rfl rfl ?_
  refine lw_objInit C (pc' := 4) lw_oi_RX0 lw_ow (Nat.le_of_ble_eq_true rfl) (Nat.le_of_ble_eq_true rfl) dX0_init_1 rfl ?_
  refine lw_aload_n C (pc' := 5) 0 dX0_init_4 rfl rfl ?_
  refine lw_bipush C (pc' := 7) (v := (8 : Int32)) dX0_init_5 (by decide) rfl ?_
  refine lw_newi C (pc' := 9) 8 lw_a_int (by decide) (by decide) (Nat.le_of_ble_eq_true rfl) ⟨Nat.le_of_ble_eq_true rfl, Nat.le_of_ble_eq_true rfl⟩ dX0_init_7 rfl (fun q0 => ?_)
  refine lw_meq (V' := V ++ [(h0, .inr (0, [.null, .null, .null, .null, .null, .null, .null, .null, .null, .int 0, .int 0, .int 0, .int 0, .int 0, .int 0, .int 0, .int 0, .int 0])), (q0, .inl (lc_cl S 1, 8, .inl (fun _ => 0)))]) (List.append_assoc V _ _) ?_
  refine lw_putF C (pc' := 12) (p := V.length + 0) (f := 0) (V' := V ++ [(h0, .inr (0, [.ref q0, .null, .null, .null, .null, .null, .null, .null, .null, .int 0, .int 0, .int 0, .int 0, .int 0, .int 0, .int 0, .int 0, .int 0])), (q0, .inl (lc_cl S 1, 8, .inl (fun _ => 0)))]) hnm lc_iX0 tyX0_ok nmX0 ((lw_pos V _ 0).trans rfl) rfl (by decide) kf_RX0_9 rfl rfl rfl rfl rfl (Nat.le_of_ble_eq_true rfl) (lw_set V _ 0 _) dX0_init_9 rfl ?_
  refine lw_aload_n C (pc' := 13) 0 dX0_init_12 rfl rfl ?_
  refine lw_bipush C (pc' := 15) (v := (8 : Int32)) dX0_init_13 (by decide) rfl ?_
  refine lw_newi C (pc' := 17) 8 lw_a_int (by decide) (by decide) (Nat.le_of_ble_eq_true rfl) ⟨Nat.le_of_ble_eq_true rfl, Nat.le_of_ble_eq_true rfl⟩ dX0_init_15 rfl (fun q1 => ?_)
  refine lw_meq (V' := V ++ [(h0, .inr (0, [.ref q0, .null, .null, .null, .null, .null, .null, .null, .null, .int 0, .int 0, .int 0, .int 0, .int 0, .int 0, .int 0, .int 0, .int 0])), (q0, .inl (lc_cl S 1, 8, .inl (fun _ => 0))), (q1, .inl (lc_cl S 1, 8, .inl (fun _ => 0)))]) (List.append_assoc V _ _) ?_
  refine lw_putF C (pc' := 20) (p := V.length + 0) (f := 1) (V' := V ++ [(h0, .inr (0, [.ref q0, .ref q1, .null, .null, .null, .null, .null, .null, .null, .int 0, .int 0, .int 0, .int 0, .int 0, .int 0, .int 0, .int 0, .int 0])), (q0, .inl (lc_cl S 1, 8, .inl (fun _ => 0))), (q1, .inl (lc_cl S 1, 8, .inl (fun _ => 0)))]) hnm lc_iX0 tyX0_ok nmX0 ((lw_pos V _ 0).trans rfl) rfl (by decide) kf_RX0_15 rfl rfl rfl rfl rfl (Nat.le_of_ble_eq_true rfl) (lw_set V _ 0 _) dX0_init_17 rfl ?_
  refine lw_aload_n C (pc' := 21) 0 dX0_init_20 rfl rfl ?_
  refine lw_bipush C (pc' := 23) (v := (8 : Int32)) dX0_init_21 (by decide) rfl ?_
  refine lw_newi C (pc' := 25) 8 lw_a_int (by decide) (by decide) (Nat.le_of_ble_eq_true rfl) ⟨Nat.le_of_ble_eq_true rfl, Nat.le_of_ble_eq_true rfl⟩ dX0_init_23 rfl (fun q2 => ?_)
  refine lw_meq (V' := V ++ [(h0, .inr (0, [.ref q0, .ref q1, .null, .null, .null, .null, .null, .null, .null, .int 0, .int 0, .int 0, .int 0, .int 0, .int 0, .int 0, .int 0, .int 0])), (q0, .inl (lc_cl S 1, 8, .inl (fun _ => 0))), (q1, .inl (lc_cl S 1, 8, .inl (fun _ => 0))), (q2, .inl (lc_cl S 1, 8, .inl (fun _ => 0)))]) (List.append_assoc V _ _) ?_
  refine lw_putF C (pc' := 28) (p := V.length + 0) (f := 2) (V' := V ++ [(h0, .inr (0, [.ref q0, .ref q1, .ref q2, .null, .null, .null, .null, .null, .null, .int 0, .int 0, .int 0, .int 0, .int 0, .int 0, .int 0, .int 0, .int 0])), (q0, .inl (lc_cl S 1, 8, .inl (fun _ => 0))), (q1, .inl (lc_cl S 1, 8, .inl (fun _ => 0))), (q2, .inl (lc_cl S 1, 8, .inl (fun _ => 0)))]) hnm lc_iX0 tyX0_ok nmX0 ((lw_pos V _ 0).trans rfl) rfl (by decide) kf_RX0_18 rfl rfl rfl rfl rfl (Nat.le_of_ble_eq_true rfl) (lw_set V _ 0 _) dX0_init_25 rfl ?_
  refine lw_aload_n C (pc' := 29) 0 dX0_init_28 rfl rfl ?_
  refine lw_bipush C (pc' := 31) (v := (8 : Int32)) dX0_init_29 (by decide) rfl ?_
  refine lw_newi C (pc' := 33) 8 lw_a_int (by decide) (by decide) (Nat.le_of_ble_eq_true rfl) ⟨Nat.le_of_ble_eq_true rfl, Nat.le_of_ble_eq_true rfl⟩ dX0_init_31 rfl (fun q3 => ?_)
  refine lw_meq (V' := V ++ [(h0, .inr (0, [.ref q0, .ref q1, .ref q2, .null, .null, .null, .null, .null, .null, .int 0, .int 0, .int 0, .int 0, .int 0, .int 0, .int 0, .int 0, .int 0])), (q0, .inl (lc_cl S 1, 8, .inl (fun _ => 0))), (q1, .inl (lc_cl S 1, 8, .inl (fun _ => 0))), (q2, .inl (lc_cl S 1, 8, .inl (fun _ => 0))), (q3, .inl (lc_cl S 1, 8, .inl (fun _ => 0)))]) (List.append_assoc V _ _) ?_
  refine lw_putF C (pc' := 36) (p := V.length + 0) (f := 3) (V' := V ++ [(h0, .inr (0, [.ref q0, .ref q1, .ref q2, .ref q3, .null, .null, .null, .null, .null, .int 0, .int 0, .int 0, .int 0, .int 0, .int 0, .int 0, .int 0, .int 0])), (q0, .inl (lc_cl S 1, 8, .inl (fun _ => 0))), (q1, .inl (lc_cl S 1, 8, .inl (fun _ => 0))), (q2, .inl (lc_cl S 1, 8, .inl (fun _ => 0))), (q3, .inl (lc_cl S 1, 8, .inl (fun _ => 0)))]) hnm lc_iX0 tyX0_ok nmX0 ((lw_pos V _ 0).trans rfl) rfl (by decide) kf_RX0_21 rfl rfl rfl rfl rfl (Nat.le_of_ble_eq_true rfl) (lw_set V _ 0 _) dX0_init_33 rfl ?_
  refine lw_aload_n C (pc' := 37) 0 dX0_init_36 rfl rfl ?_
  refine lw_bipush C (pc' := 39) (v := (12 : Int32)) dX0_init_37 (by decide) rfl ?_
  refine lw_newi C (pc' := 41) 12 lw_a_int (by decide) (by decide) (Nat.le_of_ble_eq_true rfl) ⟨Nat.le_of_ble_eq_true rfl, Nat.le_of_ble_eq_true rfl⟩ dX0_init_39 rfl (fun q4 => ?_)
  refine lw_meq (V' := V ++ [(h0, .inr (0, [.ref q0, .ref q1, .ref q2, .ref q3, .null, .null, .null, .null, .null, .int 0, .int 0, .int 0, .int 0, .int 0, .int 0, .int 0, .int 0, .int 0])), (q0, .inl (lc_cl S 1, 8, .inl (fun _ => 0))), (q1, .inl (lc_cl S 1, 8, .inl (fun _ => 0))), (q2, .inl (lc_cl S 1, 8, .inl (fun _ => 0))), (q3, .inl (lc_cl S 1, 8, .inl (fun _ => 0))), (q4, .inl (lc_cl S 1, 12, .inl (fun _ => 0)))]) (List.append_assoc V _ _) ?_
  refine lw_putF C (pc' := 44) (p := V.length + 0) (f := 4) (V' := V ++ [(h0, .inr (0, [.ref q0, .ref q1, .ref q2, .ref q3, .ref q4, .null, .null, .null, .null, .int 0, .int 0, .int 0, .int 0, .int 0, .int 0, .int 0, .int 0, .int 0])), (q0, .inl (lc_cl S 1, 8, .inl (fun _ => 0))), (q1, .inl (lc_cl S 1, 8, .inl (fun _ => 0))), (q2, .inl (lc_cl S 1, 8, .inl (fun _ => 0))), (q3, .inl (lc_cl S 1, 8, .inl (fun _ => 0))), (q4, .inl (lc_cl S 1, 12, .inl (fun _ => 0)))]) hnm lc_iX0 tyX0_ok nmX0 ((lw_pos V _ 0).trans rfl) rfl (by decide) kf_RX0_24 rfl rfl rfl rfl rfl (Nat.le_of_ble_eq_true rfl) (lw_set V _ 0 _) dX0_init_41 rfl ?_
  refine lw_aload_n C (pc' := 45) 0 dX0_init_44 rfl rfl ?_
  refine lw_bipush C (pc' := 47) (v := (12 : Int32)) dX0_init_45 (by decide) rfl ?_
  refine lw_newi C (pc' := 49) 12 lw_a_int (by decide) (by decide) (Nat.le_of_ble_eq_true rfl) ⟨Nat.le_of_ble_eq_true rfl, Nat.le_of_ble_eq_true rfl⟩ dX0_init_47 rfl (fun q5 => ?_)
  refine lw_meq (V' := V ++ [(h0, .inr (0, [.ref q0, .ref q1, .ref q2, .ref q3, .ref q4, .null, .null, .null, .null, .int 0, .int 0, .int 0, .int 0, .int 0, .int 0, .int 0, .int 0, .int 0])), (q0, .inl (lc_cl S 1, 8, .inl (fun _ => 0))), (q1, .inl (lc_cl S 1, 8, .inl (fun _ => 0))), (q2, .inl (lc_cl S 1, 8, .inl (fun _ => 0))), (q3, .inl (lc_cl S 1, 8, .inl (fun _ => 0))), (q4, .inl (lc_cl S 1, 12, .inl (fun _ => 0))), (q5, .inl (lc_cl S 1, 12, .inl (fun _ => 0)))]) (List.append_assoc V _ _) ?_
  refine lw_putF C (pc' := 52) (p := V.length + 0) (f := 5) (V' := V ++ [(h0, .inr (0, [.ref q0, .ref q1, .ref q2, .ref q3, .ref q4, .ref q5, .null, .null, .null, .int 0, .int 0, .int 0, .int 0, .int 0, .int 0, .int 0, .int 0, .int 0])), (q0, .inl (lc_cl S 1, 8, .inl (fun _ => 0))), (q1, .inl (lc_cl S 1, 8, .inl (fun _ => 0))), (q2, .inl (lc_cl S 1, 8, .inl (fun _ => 0))), (q3, .inl (lc_cl S 1, 8, .inl (fun _ => 0))), (q4, .inl (lc_cl S 1, 12, .inl (fun _ => 0))), (q5, .inl (lc_cl S 1, 12, .inl (fun _ => 0)))]) hnm lc_iX0 tyX0_ok nmX0 ((lw_pos V _ 0).trans rfl) rfl (by decide) kf_RX0_27 rfl rfl rfl rfl rfl (Nat.le_of_ble_eq_true rfl) (lw_set V _ 0 _) dX0_init_49 rfl ?_
  refine lw_aload_n C (pc' := 53) 0 dX0_init_52 rfl rfl ?_
  refine lw_bipush C (pc' := 55) (v := (12 : Int32)) dX0_init_53 (by decide) rfl ?_
  refine lw_newi C (pc' := 57) 12 lw_a_int (by decide) (by decide) (Nat.le_of_ble_eq_true rfl) ⟨Nat.le_of_ble_eq_true rfl, Nat.le_of_ble_eq_true rfl⟩ dX0_init_55 rfl (fun q6 => ?_)
  refine lw_meq (V' := V ++ [(h0, .inr (0, [.ref q0, .ref q1, .ref q2, .ref q3, .ref q4, .ref q5, .null, .null, .null, .int 0, .int 0, .int 0, .int 0, .int 0, .int 0, .int 0, .int 0, .int 0])), (q0, .inl (lc_cl S 1, 8, .inl (fun _ => 0))), (q1, .inl (lc_cl S 1, 8, .inl (fun _ => 0))), (q2, .inl (lc_cl S 1, 8, .inl (fun _ => 0))), (q3, .inl (lc_cl S 1, 8, .inl (fun _ => 0))), (q4, .inl (lc_cl S 1, 12, .inl (fun _ => 0))), (q5, .inl (lc_cl S 1, 12, .inl (fun _ => 0))), (q6, .inl (lc_cl S 1, 12, .inl (fun _ => 0)))]) (List.append_assoc V _ _) ?_
  refine lw_putF C (pc' := 60) (p := V.length + 0) (f := 6) (V' := V ++ [(h0, .inr (0, [.ref q0, .ref q1, .ref q2, .ref q3, .ref q4, .ref q5, .ref q6, .null, .null, .int 0, .int 0, .int 0, .int 0, .int 0, .int 0, .int 0, .int 0, .int 0])), (q0, .inl (lc_cl S 1, 8, .inl (fun _ => 0))), (q1, .inl (lc_cl S 1, 8, .inl (fun _ => 0))), (q2, .inl (lc_cl S 1, 8, .inl (fun _ => 0))), (q3, .inl (lc_cl S 1, 8, .inl (fun _ => 0))), (q4, .inl (lc_cl S 1, 12, .inl (fun _ => 0))), (q5, .inl (lc_cl S 1, 12, .inl (fun _ => 0))), (q6, .inl (lc_cl S 1, 12, .inl (fun _ => 0)))]) hnm lc_iX0 tyX0_ok nmX0 ((lw_pos V _ 0).trans rfl) rfl (by decide) kf_RX0_30 rfl rfl rfl rfl rfl (Nat.le_of_ble_eq_true rfl) (lw_set V _ 0 _) dX0_init_57 rfl ?_
  refine lw_aload_n C (pc' := 61) 0 dX0_init_60 rfl rfl ?_
  refine lw_bipush C (pc' := 63) (v := (12 : Int32)) dX0_init_61 (by decide) rfl ?_
  refine lw_newi C (pc' := 65) 12 lw_a_int (by decide) (by decide) (Nat.le_of_ble_eq_true rfl) ⟨Nat.le_of_ble_eq_true rfl, Nat.le_of_ble_eq_true rfl⟩ dX0_init_63 rfl (fun q7 => ?_)
  refine lw_meq (V' := V ++ [(h0, .inr (0, [.ref q0, .ref q1, .ref q2, .ref q3, .ref q4, .ref q5, .ref q6, .null, .null, .int 0, .int 0, .int 0, .int 0, .int 0, .int 0, .int 0, .int 0, .int 0])), (q0, .inl (lc_cl S 1, 8, .inl (fun _ => 0))), (q1, .inl (lc_cl S 1, 8, .inl (fun _ => 0))), (q2, .inl (lc_cl S 1, 8, .inl (fun _ => 0))), (q3, .inl (lc_cl S 1, 8, .inl (fun _ => 0))), (q4, .inl (lc_cl S 1, 12, .inl (fun _ => 0))), (q5, .inl (lc_cl S 1, 12, .inl (fun _ => 0))), (q6, .inl (lc_cl S 1, 12, .inl (fun _ => 0))), (q7, .inl (lc_cl S 1, 12, .inl (fun _ => 0)))]) (List.append_assoc V _ _) ?_
  refine lw_putF C (pc' := 68) (p := V.length + 0) (f := 7) (V' := V ++ [(h0, .inr (0, [.ref q0, .ref q1, .ref q2, .ref q3, .ref q4, .ref q5, .ref q6, .ref q7, .null, .int 0, .int 0, .int 0, .int 0, .int 0, .int 0, .int 0, .int 0, .int 0])), (q0, .inl (lc_cl S 1, 8, .inl (fun _ => 0))), (q1, .inl (lc_cl S 1, 8, .inl (fun _ => 0))), (q2, .inl (lc_cl S 1, 8, .inl (fun _ => 0))), (q3, .inl (lc_cl S 1, 8, .inl (fun _ => 0))), (q4, .inl (lc_cl S 1, 12, .inl (fun _ => 0))), (q5, .inl (lc_cl S 1, 12, .inl (fun _ => 0))), (q6, .inl (lc_cl S 1, 12, .inl (fun _ => 0))), (q7, .inl (lc_cl S 1, 12, .inl (fun _ => 0)))]) hnm lc_iX0 tyX0_ok nmX0 ((lw_pos V _ 0).trans rfl) rfl (by decide) kf_RX0_33 rfl rfl rfl rfl rfl (Nat.le_of_ble_eq_true rfl) (lw_set V _ 0 _) dX0_init_65 rfl ?_
  refine lw_aload_n C (pc' := 69) 0 dX0_init_68 rfl rfl ?_
  refine lw_bipush C (pc' := 71) (v := (12 : Int32)) dX0_init_69 (by decide) rfl ?_
  refine lw_newi C (pc' := 73) 12 lw_a_int (by decide) (by decide) (Nat.le_of_ble_eq_true rfl) ⟨Nat.le_of_ble_eq_true rfl, Nat.le_of_ble_eq_true rfl⟩ dX0_init_71 rfl (fun q8 => ?_)
  refine lw_meq (V' := V ++ [(h0, .inr (0, [.ref q0, .ref q1, .ref q2, .ref q3, .ref q4, .ref q5, .ref q6, .ref q7, .null, .int 0, .int 0, .int 0, .int 0, .int 0, .int 0, .int 0, .int 0, .int 0])), (q0, .inl (lc_cl S 1, 8, .inl (fun _ => 0))), (q1, .inl (lc_cl S 1, 8, .inl (fun _ => 0))), (q2, .inl (lc_cl S 1, 8, .inl (fun _ => 0))), (q3, .inl (lc_cl S 1, 8, .inl (fun _ => 0))), (q4, .inl (lc_cl S 1, 12, .inl (fun _ => 0))), (q5, .inl (lc_cl S 1, 12, .inl (fun _ => 0))), (q6, .inl (lc_cl S 1, 12, .inl (fun _ => 0))), (q7, .inl (lc_cl S 1, 12, .inl (fun _ => 0))), (q8, .inl (lc_cl S 1, 12, .inl (fun _ => 0)))]) (List.append_assoc V _ _) ?_
  refine lw_putF C (pc' := 76) (p := V.length + 0) (f := 8) (V' := V ++ [(h0, .inr (0, [.ref q0, .ref q1, .ref q2, .ref q3, .ref q4, .ref q5, .ref q6, .ref q7, .ref q8, .int 0, .int 0, .int 0, .int 0, .int 0, .int 0, .int 0, .int 0, .int 0])), (q0, .inl (lc_cl S 1, 8, .inl (fun _ => 0))), (q1, .inl (lc_cl S 1, 8, .inl (fun _ => 0))), (q2, .inl (lc_cl S 1, 8, .inl (fun _ => 0))), (q3, .inl (lc_cl S 1, 8, .inl (fun _ => 0))), (q4, .inl (lc_cl S 1, 12, .inl (fun _ => 0))), (q5, .inl (lc_cl S 1, 12, .inl (fun _ => 0))), (q6, .inl (lc_cl S 1, 12, .inl (fun _ => 0))), (q7, .inl (lc_cl S 1, 12, .inl (fun _ => 0))), (q8, .inl (lc_cl S 1, 12, .inl (fun _ => 0)))]) hnm lc_iX0 tyX0_ok nmX0 ((lw_pos V _ 0).trans rfl) rfl (by decide) kf_RX0_36 rfl rfl rfl rfl rfl (Nat.le_of_ble_eq_true rfl) (lw_set V _ 0 _) dX0_init_73 rfl ?_
  refine lw_aload_n C (pc' := 77) 0 dX0_init_76 rfl rfl ?_
  refine lw_bipush C (pc' := 79) (v := (-9 : Int32)) dX0_init_77 (by decide) rfl ?_
  refine lw_put C (pc' := 82) (p := V.length + 0) (f := 16) (V' := V ++ [(h0, .inr (0, [.ref q0, .ref q1, .ref q2, .ref q3, .ref q4, .ref q5, .ref q6, .ref q7, .ref q8, .int 0, .int 0, .int 0, .int 0, .int 0, .int 0, .int 0, .int (-9 : Int32), .int 0])), (q0, .inl (lc_cl S 1, 8, .inl (fun _ => 0))), (q1, .inl (lc_cl S 1, 8, .inl (fun _ => 0))), (q2, .inl (lc_cl S 1, 8, .inl (fun _ => 0))), (q3, .inl (lc_cl S 1, 8, .inl (fun _ => 0))), (q4, .inl (lc_cl S 1, 12, .inl (fun _ => 0))), (q5, .inl (lc_cl S 1, 12, .inl (fun _ => 0))), (q6, .inl (lc_cl S 1, 12, .inl (fun _ => 0))), (q7, .inl (lc_cl S 1, 12, .inl (fun _ => 0))), (q8, .inl (lc_cl S 1, 12, .inl (fun _ => 0)))]) lc_iX0 tyX0_ok nmX0 ((lw_pos V _ 0).trans rfl) rfl (by decide) kf_RX0_39 rfl rfl rfl rfl (Nat.le_of_ble_eq_true rfl) (lw_set V _ 0 _) dX0_init_79 rfl ?_
  exact lw_vret C (fun i => [q0, q1, q2, q3, q4, q5, q6, q7, q8].getD i 0) rfl rfl dX0_init_82
abbrev rm_X2_init : Room := { frames := 1, cells := 1, slots := 120, locals := 20 }
set_option maxRecDepth 100000 in
set_option maxHeartbeats 4000000 in
theorem c_X2_init (S : lc_Se) (l : Launch) (V : va_W) (h0 : Nat) : lw_MV S l yX2_init cX2_init 1 none rm_X2_init [.ref h0] (V ++ [(h0, .inr (2, lw_d2))]) (fun (u : Nat) => V ++ [(h0, .inr (2, [.ref u, .int 0, .int 0])), (u, .inl (lc_cl S 0, 120, .inl (fun _ => 0)))]) := by
  refine lw_mkV (own := RX2) pn_RX2 rfl (Nat.le_of_ble_eq_true rfl) (lo := [(0, .ref h0)]) rfl (fun X C hnm => ?_)
  refine lw_aload_n C (pc' := 1) 0 dX2_init_0 rfl rfl ?_
  refine lw_objInit C (pc' := 4) lw_oi_RX2 lw_ow (Nat.le_of_ble_eq_true rfl) (Nat.le_of_ble_eq_true rfl) dX2_init_1 rfl ?_
  refine lw_aload_n C (pc' := 5) 0 dX2_init_4 rfl rfl ?_
  refine lw_bipush C (pc' := 7) (v := (120 : Int32)) dX2_init_5 (by decide) rfl ?_
  refine lw_newc C (pc' := 9) 120 lw_a_char (by decide) (by decide) (Nat.le_of_ble_eq_true rfl) ⟨Nat.le_of_ble_eq_true rfl, Nat.le_of_ble_eq_true rfl⟩ dX2_init_7 rfl (fun q0 => ?_)
  refine lw_meq (V' := V ++ [(h0, .inr (2, [.null, .int 0, .int 0])), (q0, .inl (lc_cl S 0, 120, .inl (fun _ => 0)))]) (List.append_assoc V _ _) ?_
  refine lw_putF C (pc' := 12) (p := V.length + 0) (f := 0) (V' := V ++ [(h0, .inr (2, [.ref q0, .int 0, .int 0])), (q0, .inl (lc_cl S 0, 120, .inl (fun _ => 0)))]) hnm lc_iX2 tyX2_ok nmX2 ((lw_pos V _ 0).trans rfl) rfl (by decide) kf_RX2_9 rfl rfl rfl rfl rfl (Nat.le_of_ble_eq_true rfl) (lw_set V _ 0 _) dX2_init_9 rfl ?_
  exact lw_vret C q0 rfl rfl dX2_init_12
abbrev rm_X1_init : Room := { frames := 2, cells := 141, slots := 1554, locals := 60 }
set_option maxRecDepth 100000 in
set_option maxHeartbeats 4000000 in
theorem w_X1_init_15 {S : lc_Se} {X : lc_X} (C : lc_C X cX1_init RX1 2 none rm_X1_init) (V : va_W) (h0 a : Nat) : ∀ (n i : Nat) (hb : Nat → Nat) (qb : Nat → Nat → Nat), i + n = 14 → lw_J S X 2 (1 + 10 * i) (14 + 110 * i) (lw_QV S X rm_X1_init.cells rm_X1_init.slots (fun (u : Nat × (Nat → Nat) × (Nat → Nat → Nat)) => V ++ ((h0, .inr (1, [.ref u.1, .int 0, .int 0])) :: (u.1, .inl (lc_cl S 3, 14, .inr (.inr (.inr (.inr (lw_rf u.2.1 14)))))) :: lw_flat S u.2.1 u.2.2 14))) 15 [(0, .ref h0), (1, .int (nI i))] [] (V ++ ((h0, .inr (1, [.ref a, .int 0, .int 0])) :: (a, .inl (lc_cl S 3, 14, .inr (.inr (.inr (.inr (lw_rf hb i)))))) :: lw_flat S hb qb i)) := by
  intro n
  induction n with
  | zero =>
    intro i hb qb hi
    have hi : i = 14 := by omega
    subst hi
    refine lw_iload_n C (pc' := 16) 1 dX1_init_15 rfl rfl ?_
    refine lw_bipush C (pc' := 18) (v := (14 : Int32)) dX1_init_16 (by decide) rfl ?_
    refine lw_icmp_ge C (pc' := 21) (tgt := 40) dX1_init_18 (by decide) rfl (fun c => ?_) (fun c => absurd (by decide) c)
    exact lw_vret C (a, hb, qb) rfl rfl dX1_init_40
  | succ n ih =>
    intro i hb qb hi
    have hlt : i < 14 := by omega
    refine lw_iload_n C (pc' := 16) 1 dX1_init_15 rfl rfl ?_
    refine lw_bipush C (pc' := 18) (v := (14 : Int32)) dX1_init_16 (by decide) rfl ?_
    refine lw_icmp_ge C (pc' := 21) (tgt := 40) dX1_init_18 (by decide) rfl (fun c => absurd c (show ¬ nI 14 ≤ nI i from nI_ge hlt (by decide))) (fun c => ?_)
    refine lw_aload_n C (pc' := 22) 0 dX1_init_21 rfl rfl ?_
    refine lw_get C (pc' := 25) (p := V.length + 0) (f := 0) lc_iX1 ((lw_pos V _ 0).trans rfl) rfl (by decide) kf_RX1_11 rfl rfl dX1_init_22 rfl ?_
    refine lw_iload_n C (pc' := 26) 1 dX1_init_25 rfl rfl ?_
    refine lw_new C (pc' := 29) (ci := 0) (fs := lw_d0) lc_iX0 tyX0_ok lw_nw_RX1_9 rfl lw_df0 ⟨by show _ ≤ 141; omega, by show _ ≤ 1554; omega⟩ dX1_init_26 rfl (fun q => ?_)
    refine lw_dup C (pc' := 30) dX1_init_29 rfl rfl ?_
    refine lw_cn C (pc' := 33) (As := []) (c_X0_init S X.2.1 (V ++ ((h0, .inr (1, [.ref a, .int 0, .int 0])) :: (a, .inl (lc_cl S 3, 14, .inr (.inr (.inr (.inr (lw_rf hb i)))))) :: lw_flat S hb qb i)) q) (fun U h => h.2.2) lw_mf_X0_init rfl rfl (Nat.le_of_ble_eq_true rfl) ⟨Nat.le_of_ble_eq_true rfl, Nat.le_of_ble_eq_true rfl⟩ ⟨by show _ ≤ 141; show 1 + 10 * i + 1 + 9 ≤ 141; omega, by show 14 + 110 * i + 18 + 92 ≤ 1554; omega⟩ dX1_init_30 rfl (fun u => ?_)
    refine lw_ast C (pc' := 34) (p := V.length + 1) (pv := (V ++ ((h0, .inr (1, [.ref a, .int 0, .int 0])) :: (a, .inl (lc_cl S 3, 14, .inr (.inr (.inr (.inr (lw_rf hb i)))))) :: lw_flat S hb qb i)).length + 0) (N := 14) (jj := i) (V' := (V ++ ((h0, .inr (1, [.ref a, .int 0, .int 0])) :: (a, .inl (lc_cl S 3, 14, .inr (.inr (.inr (.inr (va_up (lw_rf hb i) i (some q))))))) :: (lw_flat S hb qb i ++ lw_bat S q u)))) (by rw [List.append_assoc]; exact (lw_pos V _ 1).trans rfl) ((lw_pos _ _ 0).trans rfl) (show lc_ok (nI i) 14 from vp_in_nI hlt (by decide)) (nI_clamp (by omega)) (by rw [List.append_assoc]; exact lw_set V _ 1 _) dX1_init_33 rfl ?_
    rw [lw_rf_s, lw_flat_s]
    refine lw_iinc C (pc' := 37) (lo' := [(1, .int (nI (i + 1))), (0, .ref h0)]) (q := 1) dX1_init_34 rfl (nI_1 i) (Nat.le_of_ble_eq_true rfl) rfl rfl ?_
    refine lw_goto C (tgt := 15) dX1_init_37 (by decide) ?_
    refine lw_sub (lo' := [(0, .ref h0), (1, .int (nI (i + 1)))]) [1, 0] rfl ?_
    refine lw_wid (k' := 1 + 10 * (i + 1)) (j' := 14 + 110 * (i + 1)) (by show 1 + 10 * i + 1 + 9 ≤ _; omega) (by show 14 + 110 * i + 18 + 92 ≤ _; omega) ?_
    exact ih (i + 1) (va_up hb i q) (va_up qb i u) (by omega)
theorem c_X1_init (S : lc_Se) (l : Launch) (V : va_W) (h0 : Nat) : lw_MV S l yX1_init cX1_init 2 none rm_X1_init [.ref h0] (V ++ [(h0, .inr (1, lw_d1))]) (fun (u : Nat × (Nat → Nat) × (Nat → Nat → Nat)) => V ++ ((h0, .inr (1, [.ref u.1, .int 0, .int 0])) :: (u.1, .inl (lc_cl S 3, 14, .inr (.inr (.inr (.inr (lw_rf u.2.1 14)))))) :: lw_flat S u.2.1 u.2.2 14)) := by
  refine lw_mkV (own := RX1) pn_RX1 rfl (Nat.le_of_ble_eq_true rfl) (lo := [(0, .ref h0)]) rfl (fun X C hnm => ?_)
  refine lw_aload_n C (pc' := 1) 0 dX1_init_0 rfl rfl ?_
  refine lw_objInit C (pc' := 4) lw_oi_RX1 lw_ow (Nat.le_of_ble_eq_true rfl) (Nat.le_of_ble_eq_true rfl) dX1_init_1 rfl ?_
  refine lw_aload_n C (pc' := 5) 0 dX1_init_4 rfl rfl ?_
  refine lw_bipush C (pc' := 7) (v := (14 : Int32)) dX1_init_5 (by decide) rfl ?_
  refine lw_newq C (pc' := 10) 14 lw_nw_RX1_9.1 (by decide) (by decide) (Nat.le_of_ble_eq_true rfl) ⟨Nat.le_of_ble_eq_true rfl, Nat.le_of_ble_eq_true rfl⟩ dX1_init_7 rfl (fun a => ?_)
  refine lw_meq (V' := V ++ [(h0, .inr (1, lw_d1)), (a, .inl (lc_cl S 3, 14, .inr (.inr (.inr (.inr (fun _ => none))))))]) (List.append_assoc V _ _) ?_
  refine lw_putF C (pc' := 13) (p := V.length + 0) (f := 0) (V' := V ++ [(h0, .inr (1, [.ref a, .int 0, .int 0])), (a, .inl (lc_cl S 3, 14, .inr (.inr (.inr (.inr (fun _ => none))))))]) hnm lc_iX1 tyX1_ok nmX1 ((lw_pos V _ 0).trans rfl) rfl (by decide) kf_RX1_11 rfl rfl rfl rfl rfl (Nat.le_of_ble_eq_true rfl) (lw_set V _ 0 _) dX1_init_10 rfl ?_
  refine lw_iconst C (pc' := 14) (v := (0 : Int32)) dX1_init_13 (by decide) rfl ?_
  refine lw_istore_n C (pc' := 15) (lo' := [(1, .int (nI 0)), (0, .ref h0)]) dX1_init_14 (Nat.le_of_ble_eq_true rfl) rfl rfl ?_
  refine lw_sub (lo' := [(0, .ref h0), (1, .int (nI 0))]) [1, 0] rfl ?_
  exact w_X1_init_15 C V h0 a 14 0 (fun _ => 0) (fun _ _ => 0) rfl
