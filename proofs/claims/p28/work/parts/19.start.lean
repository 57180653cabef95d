theorem ls_iX0 : ∀ w ∈ u_ws RX0 TX0 18, w ∈ lw_tbl := fun w h => (List.mem_filter.mp (lc_iX0 w h)).1
theorem ls_iX1 : ∀ w ∈ u_ws RX1 TX1 3, w ∈ lw_tbl := fun w h => (List.mem_filter.mp (lc_iX1 w h)).1
theorem ls_iX2 : ∀ w ∈ u_ws RX2 TX2 3, w ∈ lw_tbl := fun w h => (List.mem_filter.mp (lc_iX2 w h)).1
theorem ls_iX3 : ∀ w ∈ u_ws RX3 TX3 7, w ∈ lw_tbl := fun w h => (List.mem_filter.mp (lc_iX3 w h)).1
theorem ls_str : ∀ q ∈ lc_str, Cond.stringRef RX3 q.1 q.2 ∈ lw_tbl ∧ Cond.exactly (.string RX3 q.1) "java/lang/String" ∈ flatC (Jvm.Cond.and given_1 narrow_1) := by decide +kernel
theorem ls_nc : ∀ q ∈ [(lc_E1, lc_E2), (lc_E1, lc_E3), (lc_E2, lc_E1), (lc_E2, lc_E3), (lc_E3, lc_E1), (lc_E3, lc_E2)], Cond.not (.castable q.1 q.2) ∈ flatC (Jvm.Cond.and given_1 narrow_1) := by decide +kernel
theorem ls_st : Cond.isRef (.static Bundle.tN "UNASSIGNED_STACK" Bundle.steD) ∈ flatC (Jvm.Cond.and given_1 narrow_1) ∧ Cond.isRef (.static Bundle.tN "SUPPRESSED_SENTINEL" Bundle.listD) ∈ flatC (Jvm.Cond.and given_1 narrow_1) := by decide +kernel
theorem ls_n0 : Cond.methodLinkNest RX3 9 yX2_init "LendingCells" ∈ lw_tbl := (List.mem_of_getElem? (i := 24) (by decide +kernel))
theorem ls_n1 : Cond.methodLinkNest RX3 18 yX0_init "LendingCells" ∈ lw_tbl := (List.mem_of_getElem? (i := 39) (by decide +kernel))
theorem ls_n2 : Cond.methodLinkNest RX1 17 yX0_init "LendingCells" ∈ lw_tbl := (List.mem_of_getElem? (i := 123) (by decide +kernel))
theorem ls_c1 : Cond.castable lc_E1 lc_E1 ∈ lw_tbl := (List.mem_of_getElem? (i := 255) (by decide +kernel))
theorem ls_c2 : Cond.castable lc_E2 lc_E2 ∈ lw_tbl := (List.mem_of_getElem? (i := 292) (by decide +kernel))
theorem ls_c3 : Cond.castable lc_E3 lc_E3 ∈ lw_tbl := (List.mem_of_getElem? (i := 181) (by decide +kernel))
theorem ls_d1 : Cond.declares lc_D1 ∈ lw_tbl := (List.mem_of_getElem? (i := 183) (by decide +kernel))
theorem ls_d2 : Cond.declares lc_D2 ∈ lw_tbl := (List.mem_of_getElem? (i := 185) (by decide +kernel))
theorem ls_d3 : Cond.declares lc_D3 ∈ lw_tbl := (List.mem_of_getElem? (i := 187) (by decide +kernel))
theorem ls_l0 : Cond.laysStatic Bundle.tN "UNASSIGNED_STACK" Bundle.steD ∈ lw_tbl := (List.mem_of_getElem? (i := 206) (by decide +kernel))
theorem ls_l1 : Cond.laysStatic Bundle.tN "SUPPRESSED_SENTINEL" Bundle.listD ∈ lw_tbl := (List.mem_of_getElem? (i := 208) (by decide +kernel))
theorem ls_it : Cond.initialized Bundle.tN ∈ lw_tbl := (List.mem_of_getElem? (i := 6) (by decide +kernel))
theorem ls_ao : Cond.arrayOver (.object RX0) ∈ lw_tbl := (List.mem_of_getElem? (i := 122) (by decide +kernel))
theorem ls_a_char : Cond.arrayClass .char ∈ lw_tbl := (List.mem_of_getElem? (i := 36) (by decide +kernel))
theorem ls_a_int : Cond.arrayClass .int ∈ lw_tbl := (List.mem_of_getElem? (i := 114) (by decide +kernel))
theorem ls_a_boolean : Cond.arrayClass .boolean ∈ lw_tbl := (List.mem_of_getElem? (i := 156) (by decide +kernel))
theorem ls_i0 : Cond.instantiable RX0 18 ∈ lw_tbl := (List.mem_of_getElem? (i := 38) (by decide +kernel))
theorem ls_i1 : Cond.instantiable RX1 3 ∈ lw_tbl := (List.mem_of_getElem? (i := 116) (by decide +kernel))
theorem ls_i2 : Cond.instantiable RX2 3 ∈ lw_tbl := (List.mem_of_getElem? (i := 23) (by decide +kernel))
theorem ls_i3 : Cond.instantiable RX3 7 ∈ lw_tbl := (List.mem_of_getElem? (i := 15) (by decide +kernel))
theorem ls_arr {args : Array Value} {s : State} {ty : FieldType} (hp : va_RA s = va_RA s) (h : (Cond.arrayClass ty).before args s = true) (hprim : ∀ C, ty ≠ .object C) : ∃ cA : ClassId, ArrOfT s cA ty ∧ va_RA s cA ty := by
  obtain ⟨cA, kA, comp, h1, h2, h3⟩ := Cond.arrayClass_spec h
  refine ⟨cA, fun n z => ⟨fun k h => (by cases h), kA, h2, comp, h3⟩, ?_⟩
  cases ty with
  | object C => exact absurd rfl (hprim C)
  | _ => exact h1
theorem ls_arrO {args : Array Value} {s : State} {C : String} (h : (Cond.arrayOver (.object C)).before args s = true) : ∃ cA : ClassId, ArrOfT s cA (.object C) ∧ va_RA s cA (.object C) := by
  obtain ⟨comp, c, k, h1, h2, h3, h4, h5⟩ := Cond.arrayOver_spec h
  exact ⟨c, fun n z => ⟨fun k h => (by cases h), k, h3, comp, h4⟩, k, comp, h3, h4, h1, h5⟩
/-- the start: what the tables and the premises say, as the world wants it -/
theorem ls_G {s : State} {args : Array Value} (hts : ∀ w ∈ lw_tbl, w.before args s = true) (hgv : (Jvm.Cond.and given_1 narrow_1).before args s = true) : ∃ S : lc_Se, lc_ba S = s.heap.size ∧ lw_G S [] s s.heap [] := by
  obtain ⟨c0, i0, k0⟩ := u_known (C := RX0) (T := TX0) (N := 18) (n := 18) hts ls_iX0 (hts _ ls_i0)
  obtain ⟨c1, i1, k1⟩ := u_known (C := RX1) (T := TX1) (N := 3) (n := 3) hts ls_iX1 (hts _ ls_i1)
  obtain ⟨c2, i2, k2⟩ := u_known (C := RX2) (T := TX2) (N := 3) (n := 3) hts ls_iX2 (hts _ ls_i2)
  obtain ⟨c3, i3, k3⟩ := u_known (C := RX3) (T := TX3) (N := 7) (n := 7) hts ls_iX3 (hts _ ls_i3)
  obtain ⟨aC, aC1, aC2⟩ := ls_arr rfl (hts _ ls_a_char) (fun C h => by cases h)
  obtain ⟨aI, aI1, aI2⟩ := ls_arr rfl (hts _ ls_a_int) (fun C h => by cases h)
  obtain ⟨aZ, aZ1, aZ2⟩ := ls_arr rfl (hts _ ls_a_boolean) (fun C h => by cases h)
  obtain ⟨aO, aO1, aO2⟩ := ls_arrO (hts _ ls_ao)
  have hfl := flat_of_before _ hgv
  refine ⟨((fun k => if k = 0 then c0 else if k = 1 then c1 else if k = 2 then c2 else c3, fun k => if k = 0 then i0 else if k = 1 then i1 else if k = 2 then i2 else i3), (fun k => if k = 0 then aC else if k = 1 then aI else if k = 2 then aZ else aO), (fun _ => 0), s.heap.size), rfl, ⟨?_, ?_⟩, fun k q h => by simp at h, ⟨fun i j p q h => by simp at h, fun k q h => by simp at h⟩, va_S.rf, Nat.le_refl _, ⟨?_, ?_, ?_, ?_⟩, va_AO.of (hts _ ls_ao)⟩
  · intro k q hq
    match k, hq with
    | 0, hq => cases hq; exact k0
    | 1, hq => cases hq; exact k1
    | 2, hq => cases hq; exact k2
    | 3, hq => cases hq; exact k3
    | k + 4, hq => simp [vwCl] at hq
  · intro k q hq
    match k, hq with
    | 0, hq => cases hq; exact ⟨aC1, aC2⟩
    | 1, hq => cases hq; exact ⟨aI1, aI2⟩
    | 2, hq => cases hq; exact ⟨aZ1, aZ2⟩
    | 3, hq => cases hq; exact ⟨aO1, aO2⟩
    | k + 4, hq => simp [lc_ty] at hq
  · exact ⟨va_Nw.of rfl (hts _ ls_n0), va_Nw.of rfl (hts _ ls_n1), va_Nw.of rfl (hts _ ls_n2)⟩
  · exact ⟨⟨va_Nw.of rfl (hts _ ls_d1), va_Nw.of rfl (hts _ ls_d2), va_Nw.of rfl (hts _ ls_d3)⟩, ⟨va_Nw.of rfl (hts _ ls_c1), va_Nw.of rfl (hts _ ls_c2), va_Nw.of rfl (hts _ ls_c3)⟩, va_Nc.of (hfl _ (ls_nc (lc_E1, lc_E2) (by simp))), va_Nc.of (hfl _ (ls_nc (lc_E1, lc_E3) (by simp))), va_Nc.of (hfl _ (ls_nc (lc_E2, lc_E1) (by simp))), va_Nc.of (hfl _ (ls_nc (lc_E2, lc_E3) (by simp))), va_Nc.of (hfl _ (ls_nc (lc_E3, lc_E1) (by simp))), va_Nc.of (hfl _ (ls_nc (lc_E3, lc_E2) (by simp)))⟩
  · intro q hq
    obtain ⟨g1, g2⟩ := ls_str q hq
    obtain ⟨a, c, cell, k, q1, -⟩ := Cond.exactly_spec (hfl _ g2)
    exact ⟨a, vk_R.of (hts _ g1) q1⟩
  · exact ⟨vx_Zqof (hts _ ls_l0) (hts _ ls_it) (hfl _ ls_st.1) (fun a h z => absurd h (Nat.not_lt.mpr z)), vx_Zqof (hts _ ls_l1) (hts _ ls_it) (hfl _ ls_st.2) (fun a h z => absurd h (Nat.not_lt.mpr z))⟩
set_option maxRecDepth 100000 in
set_option maxHeartbeats 4000000 in
theorem whole_start_open (hpure : ∀ (L : Nat) (xs : Nat → Int32), L ≤ 260 → P_L_law_47 L xs lw_M0 = some 1) {p : Program} {e : Env} {s : State} {m : MethodId} {below : List Frame} {meth : Method} {c : Code} (l : Launch) (hflags : l.flags = flags0) {b L : Nat} {xs : Nat → Int32} (hL : L ≤ 260) (C0 : lw_At p s m meth c b L xs) : W p l e room_1 s m #[Value.ref b] below meth c s.heap [] 0 0 (lw_Z below #[Value.ref b] s) (entryFrame m ([Value.ref b] : List Value).toArray 14) := by
  obtain ⟨hx, hb, hr, hml, hown, hts, hX, hbl, hlocks, hgv⟩ := C0
  have hst : l.stackTraces = false := by unfold Launch.stackTraces; rw [hflags]; decide
  obtain ⟨S, hS, hG⟩ := ls_G hts hgv
  have hl := lv_entry [Value.ref b] (n := 14) (Nat.le_of_ble_eq_true rfl)
  rw [lg_entry_eq]
  have C : lc_C (p, l, e, room_1, s, m, #[Value.ref b], below, meth, c) cL_law RL 14 ret room_1 := ⟨hx, hb, hml, hown, fun w hw => hts w (List.mem_filter.mp hw).1, hlocks, hr, rfl⟩
  obtain ⟨X, hXe⟩ : ∃ X : lc_X, X = (p, l, e, room_1, s, m, #[Value.ref b], below, meth, c) := ⟨_, rfl⟩
  rw [← hXe] at C
  have key : ∀ Q : State → Prop, (∀ (S' : lc_Se), lc_ba S' = s.heap.size → ∀ (k j pc : Nat) (lo : List (Nat × Value)) (M : lc_MM), k ≤ 627686 → j ≤ 7218565 → decode cL_law pc = .ok (.ireturn, 1) → lc_J S' X 14 k j Q pc lo [.int 1] M) → lw_J S X 14 0 0 Q 0 [(0, .ref b)] [] [] := by
    intro Q hend
    refine lw_new C (pc' := 3) (ci := 3) (fs := lw_d3) lc_iX3 tyX3_ok lw_nw_RL_10 rfl lw_df3 ⟨Nat.le_of_ble_eq_true rfl, Nat.le_of_ble_eq_true rfl⟩ dL_law_0 rfl (fun x => ?_)
    refine lw_dup C (pc' := 4) dL_law_3 rfl rfl ?_
    refine lw_ci C (pc' := 7) (As := []) (c_X3_init S X.2.1 [] x) lw_ml_RL_107 lw_mf_X3_init rfl rfl (Nat.le_of_ble_eq_true rfl) ⟨Nat.le_of_ble_eq_true rfl, Nat.le_of_ble_eq_true rfl⟩ ⟨Nat.le_of_ble_eq_true rfl, Nat.le_of_ble_eq_true rfl⟩ dL_law_4 rfl (fun u => ?_)
    refine lw_meq (V' := lw_x3 S x u) rfl ?_
    refine lw_astore_n C (pc' := 8) (lo' := [(1, .ref x), (0, .ref b)]) dL_law_7 (Nat.le_of_ble_eq_true rfl) rfl rfl ?_
    refine lw_bipush C (pc' := 10) (v := (7 : Int32)) dL_law_8 (by decide) rfl ?_
    refine lw_newi C (pc' := 12) 7 lw_a_int (by decide) (by decide) (Nat.le_of_ble_eq_true rfl) ⟨Nat.le_of_ble_eq_true rfl, Nat.le_of_ble_eq_true rfl⟩ dL_law_10 rfl (fun a0 => ?_)
    refine lw_astore_n C (pc' := 13) (lo' := [(2, .ref a0), (1, .ref x), (0, .ref b)]) dL_law_12 (Nat.le_of_ble_eq_true rfl) rfl rfl ?_
    refine lw_bipush C (pc' := 15) (v := (30 : Int32)) dL_law_13 (by decide) rfl ?_
    refine lw_newi C (pc' := 17) 30 lw_a_int (by decide) (by decide) (Nat.le_of_ble_eq_true rfl) ⟨Nat.le_of_ble_eq_true rfl, Nat.le_of_ble_eq_true rfl⟩ dL_law_15 rfl (fun a1 => ?_)
    refine lw_astore_n C (pc' := 18) (lo' := [(3, .ref a1), (2, .ref a0), (1, .ref x), (0, .ref b)]) dL_law_17 (Nat.le_of_ble_eq_true rfl) rfl rfl ?_
    refine lw_bipush C (pc' := 20) (v := (60 : Int32)) dL_law_18 (by decide) rfl ?_
    refine lw_newi C (pc' := 22) 60 lw_a_int (by decide) (by decide) (Nat.le_of_ble_eq_true rfl) ⟨Nat.le_of_ble_eq_true rfl, Nat.le_of_ble_eq_true rfl⟩ dL_law_20 rfl (fun a2 => ?_)
    refine lw_astore C (pc' := 24) (lo' := [(4, .ref a2), (3, .ref a1), (2, .ref a0), (1, .ref x), (0, .ref b)]) dL_law_22 (Nat.le_of_ble_eq_true rfl) rfl rfl ?_
    refine lw_bipush C (pc' := 26) (v := (7 : Int32)) dL_law_24 (by decide) rfl ?_
    refine lw_newi C (pc' := 28) 7 lw_a_int (by decide) (by decide) (Nat.le_of_ble_eq_true rfl) ⟨Nat.le_of_ble_eq_true rfl, Nat.le_of_ble_eq_true rfl⟩ dL_law_26 rfl (fun a3 => ?_)
    refine lw_astore C (pc' := 30) (lo' := [(5, .ref a3), (4, .ref a2), (3, .ref a1), (2, .ref a0), (1, .ref x), (0, .ref b)]) dL_law_28 (Nat.le_of_ble_eq_true rfl) rfl rfl ?_
    refine lw_bipush C (pc' := 32) (v := (30 : Int32)) dL_law_30 (by decide) rfl ?_
    refine lw_newi C (pc' := 34) 30 lw_a_int (by decide) (by decide) (Nat.le_of_ble_eq_true rfl) ⟨Nat.le_of_ble_eq_true rfl, Nat.le_of_ble_eq_true rfl⟩ dL_law_32 rfl (fun a4 => ?_)
    refine lw_astore C (pc' := 36) (lo' := [(6, .ref a4), (5, .ref a3), (4, .ref a2), (3, .ref a1), (2, .ref a0), (1, .ref x), (0, .ref b)]) dL_law_34 (Nat.le_of_ble_eq_true rfl) rfl rfl ?_
    refine lw_bipush C (pc' := 38) (v := (60 : Int32)) dL_law_36 (by decide) rfl ?_
    refine lw_newi C (pc' := 40) 60 lw_a_int (by decide) (by decide) (Nat.le_of_ble_eq_true rfl) ⟨Nat.le_of_ble_eq_true rfl, Nat.le_of_ble_eq_true rfl⟩ dL_law_38 rfl (fun a5 => ?_)
    refine lw_astore C (pc' := 42) (lo' := [(7, .ref a5), (6, .ref a4), (5, .ref a3), (4, .ref a2), (3, .ref a1), (2, .ref a0), (1, .ref x), (0, .ref b)]) dL_law_40 (Nat.le_of_ble_eq_true rfl) rfl rfl ?_
    refine lw_iconst C (pc' := 43) (v := (1 : Int32)) dL_law_42 (by decide) rfl ?_
    refine lw_newi C (pc' := 45) 1 lw_a_int (by decide) (by decide) (Nat.le_of_ble_eq_true rfl) ⟨Nat.le_of_ble_eq_true rfl, Nat.le_of_ble_eq_true rfl⟩ dL_law_43 rfl (fun a6 => ?_)
    refine lw_astore C (pc' := 47) (lo' := [(8, .ref a6), (7, .ref a5), (6, .ref a4), (5, .ref a3), (4, .ref a2), (3, .ref a1), (2, .ref a0), (1, .ref x), (0, .ref b)]) dL_law_45 (Nat.le_of_ble_eq_true rfl) rfl rfl ?_
    refine lw_sub (lo' := [(0, .ref b), (1, .ref x), (2, .ref a0), (3, .ref a1), (4, .ref a2), (5, .ref a3), (6, .ref a4), (7, .ref a5), (8, .ref a6)]) [8, 7, 6, 5, 4, 3, 2, 1, 0] rfl ?_
    refine lw_meq (V' := lw_V S x u (fun k => [a0, a1, a2, a3, a4, a5, a6].getD k 0)) (by unfold lw_V lw_m7; simp [List.append_assoc]) ?_
    have hba : lc_ba (lw_S S x u (fun k => [a0, a1, a2, a3, a4, a5, a6].getD k 0)) = s.heap.size := hS
    have hl47 : lc_J (lw_S S x u (fun k => [a0, a1, a2, a3, a4, a5, a6].getD k 0)) X 14 204 2436 Q 47 [(0, .ref b), (1, .ref x), (2, .ref a0), (3, .ref a1), (4, .ref a2), (5, .ref a3), (6, .ref a4), (7, .ref a5), (8, .ref a6)] [] lw_M0 :=
      w_L_law_47 (S := lw_S S x u (fun k => [a0, a1, a2, a3, a4, a5, a6].getD k 0)) C (by rw [hXe]; exact hst) (by rw [hXe]; exact hX) (by rw [hXe]; exact hbl) (by unfold lc_A; rw [hba]; exact Nat.not_le.mpr hbl) (by decide) (by decide) (hend _ hba) lw_M0 (hpure L xs hL)
    exact fun H locs ls hG' h => hl47 H locs ls (lw_conv S hG') h
  have hXs : lc_Xs X = s := by rw [hXe]
  subst hXe
  refine key (lw_Z below #[Value.ref b] s) (fun S' hS' k j pc lo M hk hj d H locs ls hG' h => ?_) s.heap [] _ hG hl
  refine va_forget (fun q hq => by have := hG'.2.2.2.1.2.2 q hq; unfold lc_A at this; rw [hS'] at this; exact this) ?_
  refine W.widen hk hj ?_
  exact lw_ret hx hb hr hlocks d
