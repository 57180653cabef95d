section LAW
variable {S : lc_Se} {X : lc_X} {cc : ByteArray} {own : String} {rt : Option FieldType} {rm : Room} {n k j : Nat} {Q : State → Prop} {pc pc' : Nat} {lo lo' : List (Nat × Value)} {st : List Value} {M M' : lc_MM}
theorem lc_slen (C : lc_C X cc own n rt rm) {bS L : Nat} {xs : Nat → Int32} (hX : va_X bS L xs (lc_Xs X) (lc_Xs X).heap) (hbl : bS < (lc_Xs X).heap.size) (hbA : ¬ lc_A S bS) (d : decode cc pc = .ok (.arraylength, 1)) (hq : pc + 1 = pc') (kk : lc_J S X n k j Q pc' lo (.int (Int32.ofNat L) :: st) M) : lc_J S X n k j Q pc lo (.ref bS :: st) M := by
  subst hq
  exact fun H locs ls hG h => va_slen C.1 C.2.1 hX hbl hbA hG.2.2.2.1 d (kk H locs ls hG h)
theorem lc_sld (C : lc_C X cc own n rt rm) {bS L : Nat} {xs : Nat → Int32} {i : Int32} (hX : va_X bS L xs (lc_Xs X) (lc_Xs X).heap) (hbl : bS < (lc_Xs X).heap.size) (hbA : ¬ lc_A S bS) (hi : lc_ok i L) (d : decode cc pc = .ok (.iaload, 1)) (hq : pc + 1 = pc') (kk : lc_J S X n k j Q pc' lo (.int (xs i.toNatClampNeg) :: st) M) : lc_J S X n k j Q pc lo (.int i :: .ref bS :: st) M := by
  subst hq
  exact fun H locs ls hG h => va_sld C.1 C.2.1 hX hbl hbA hG.2.2.2.1 hi d (kk H locs ls hG h)
theorem lc_keq {k' j' : Nat} (h1 : k = k') (h2 : j = j') (kk : lc_J S X n k' j' Q pc lo st M) : lc_J S X n k j Q pc lo st M := by subst h1; subst h2; exact kk
end LAW
abbrev rm_L_cell : Room := { frames := 0, cells := 0, slots := 0, locals := 0 }
def P_L_cell (L : Nat) (xs : Nat → Int32) (x1 : Int32) : Option Int32 :=
  if (Int32.ofNat L) ≤ x1 then some ((1013904223 : Int32) * (x1 + (1 : Int32))) else lc_if (lc_ok x1 L) (some (xs x1.toNatClampNeg))
/-- the world and the script -/
def lc_BX (S : lc_Se) (M : lc_MM) (bS L : Nat) (xs : Nat → Int32) (U : State) : Prop := lc_B S M U ∧ va_X bS L xs U U.heap ∧ bS < U.heap.size ∧ ¬ lc_A S bS
set_option maxRecDepth 100000 in
set_option maxHeartbeats 4000000 in
theorem c_L_cell (S : lc_Se) (l : Launch) (M : lc_MM) (bS L : Nat) (xs : Nat → Int32) (x1 r : Int32) (h : P_L_cell L xs x1 = some r) : Met l yL_cell (lc_ws yL_cell cL_cell 2 (some .int)) rm_L_cell (va_Pc [.ref bS, .int x1] (lc_BX S M bS L xs)) (va_Qi (fun (x : Int32) (_ : Unit) => x = r) (fun _ t => lc_B S M t) (lc_A S)) rm_L_cell.cells rm_L_cell.slots (lc_A S) := by
  refine Met.ofW (cc := cL_cell) (maxL := 2) (ret := (some .int)) pn_RL rfl ?_
  intro p e s m args below meth c s₁ B hml hv
  obtain ⟨rfl, hB, hX, hbl, hbA⟩ := hv
  have hts := atoms_spec (ws := lc_ws yL_cell cL_cell 2 (some .int)) B.pre
  have hlo := lv_entry [Value.ref bS, .int x1] (n := 2) (Nat.le_of_ble_eq_true rfl)
  rw [lg_entry_eq]
  obtain ⟨X, hXe⟩ : ∃ X : lc_X, X = (p, l, e, (headSpec (lc_ws yL_cell cL_cell 2 (some .int)) rm_L_cell).room, s, m, [Value.ref bS, .int x1].toArray, below, meth, c) := ⟨_, rfl⟩
  have C : lc_C X cL_cell RL 2 (some .int) rm_L_cell := by
    rw [hXe]
    exact ⟨B.exec, B.bytes, hml, findClass_of_methodNamed B.named, fun w hw => hts w (List.mem_cons_of_mem _ hw), B.notSynchronized, B.returns, rfl⟩
  have hX' : va_X bS L xs (lc_Xs X) (lc_Xs X).heap := by rw [hXe]; exact hX
  have hbl' : bS < (lc_Xs X).heap.size := by rw [hXe]; exact hbl
  have key : lc_J S X 2 0 0 (lc_QI S X 0 0 r M) 0 [(0, .ref bS), (1, .int x1)] [] M := by
    rw [P_L_cell] at h
    refine lc_iload_n C (pc' := 1) 1 dL_cell_0 rfl rfl ?_
    refine lc_aload_n C (pc' := 2) 0 dL_cell_1 rfl rfl ?_
    refine lc_slen C (pc' := 3) hX' hbl' hbA dL_cell_2 rfl ?_
    refine lc_icmp_ge C (pc' := 6) (tgt := 12) dL_cell_3 (by decide) rfl (fun c3 => ?_) (fun c3 => ?_)
    · have h := (lc_if2 h).1 c3
      refine lc_ldc C (pc' := 14) (v := (1013904223 : Int32)) dL_cell_12 kc_RL_7 rfl ?_
      refine lc_iload_n C (pc' := 15) 1 dL_cell_14 rfl rfl ?_
      refine lc_iconst C (pc' := 16) (v := (1 : Int32)) dL_cell_15 (by decide) rfl ?_
      refine lc_iadd C (pc' := 17) dL_cell_16 rfl ?_
      refine lc_imul C (pc' := 18) dL_cell_17 rfl ?_
      obtain rfl := Option.some.inj h
      exact lc_iret C rfl dL_cell_18
    · have h := (lc_if2 h).2 c3
      obtain ⟨hi, h⟩ := lc_ife h
      refine lc_aload_n C (pc' := 7) 0 dL_cell_6 rfl rfl ?_
      refine lc_iload_n C (pc' := 8) 1 dL_cell_7 rfl rfl ?_
      refine lc_sld C (pc' := 9) hX' hbl' hbA hi dL_cell_8 rfl ?_
      refine lc_goto C (tgt := 18) dL_cell_9 (by decide) ?_
      obtain rfl := Option.some.inj h
      exact lc_iret C rfl dL_cell_18
  subst hXe
  exact key s.heap [] _ (lc_BG hB) hlo
theorem lc_cell {S : lc_Se} {X : lc_X} {cc : ByteArray} {own : String} {rt : Option FieldType} {rm : Room} {n k j : Nat} {Q : State → Prop} {pc pc' : Nat} {lo : List (Nat × Value)} {rest : List Value} {M : lc_MM} (C : lc_C X cc own n rt rm) {ix bS L : Nat} {xs : Nat → Int32} {x1 r : Int32} (hX : va_X bS L xs (lc_Xs X) (lc_Xs X).heap) (hbl : bS < (lc_Xs X).heap.size) (hbA : ¬ lc_A S bS) (hM : P_L_cell L xs x1 = some r) (hf : lc_kS own ix yL_cell cL_cell 2 (some .int) 2) (hn : ([Value.ref bS, .int x1] : List Value).length = 2) (hcat : (rest.map fun v => v.category).sum ≤ 8) (hR : rm_L_cell.frames + 1 ≤ rm.frames ∧ 8 + (2 + 11) + rm_L_cell.locals ≤ rm.locals) (hcs : k ≤ rm.cells ∧ j ≤ rm.slots) (d : decode cc pc = .ok (.invokestatic ix, 3)) (hq : pc + 3 = pc') (kk : lc_J S X n k j Q pc' lo (.int r :: rest) M) : lc_J S X n k j Q pc lo (.int x1 :: .ref bS :: rest) M := by
  subst hq
  have hr := C.2.2.2.2.2.2.2
  intro H locs ls hG h
  have hA1 : ∀ q : Nat, lc_A S q → lc_A S q := fun _ z => z
  have hbd : FrameBlind (va_Pc [Value.ref bS, .int x1] (lc_BX S M bS L xs)) := fun a U g mk q => ⟨q.1, ((lc_blind S M [Value.ref bS, .int x1]) a U g mk ⟨q.1, q.2.1⟩).2, va_X.moved (u := U) (U := U.calling g mk a) (Vm.Alike.refl U.vm) q.2.2.1, q.2.2.2.1, q.2.2.2.2⟩
  have hHb : H[bS]? = (lc_Xs X).heap[bS]? := hG.2.2.2.1.2.1 bS hbl hbA
  exact va_calli (va_runS (lc_fix C) (c_L_cell S X.2.1 M bS L xs x1 r hM) ⟨lc_cB C hf.1.1 hf.1.2.2.1 hf.1.2.2.2 hf.2 hR, C.2.2.2.2.1 _ hf.1.2.1⟩ ⟨hbd, fun U hU hW => ⟨rfl, lc_GB hG hU hW, va_X.moved hW.alike (va_X.kept hX (by rw [hU]; exact hHb)), by rw [hU]; exact Nat.lt_of_lt_of_le hbl hG.2.2.2.1.1, hbA⟩⟩ rfl hn h.1 rfl (lv_room hcat) d (by rw [hr]; exact hcs)) hG.2.2.2.1 (fun q _ z => z) hA1 (fun x u t H1 l1 ht hvm hp hB hz hk hS => by subst hp; exact kk H1 l1 ls (lc_back (base := 0) hG.2.2.2.2 ht hvm hB hS) h)

def P_L_law_413 (K : Int32 → lc_MM → Option Int32) (x9 x11 : Int32) (M : lc_MM) : Option Int32 :=
  if x11 = 0 then some (0 : Int32) else lc_bd2 (P_L_areCells  M) (fun r423 M1 => if r423 = 0 then some (0 : Int32) else lc_let (x9 + (1 : Int32)) (fun x9_431 => K x9_431 M1))
set_option maxRecDepth 100000 in
set_option maxHeartbeats 4000000 in
theorem w_L_law_413 {S : lc_Se} {X : lc_X} {Q : State → Prop} {bS L : Nat} {xs : Nat → Int32} {c0 s0 t : Nat} (C : lc_C X cL_law RL 14 ret room_1) (hl : X.2.1.stackTraces = false) (hX : va_X bS L xs (lc_Xs X) (lc_Xs X).heap) (hbl : bS < (lc_Xs X).heap.size) (hbA : ¬ lc_A S bS) (hr1 : c0 + 3 * t + 3 ≤ 627686) (hr2 : s0 + 18 * t + 18 ≤ 7218565) (hend : ∀ (k j pc : Nat) (lo : List (Nat × Value)) (M : lc_MM), k ≤ 627686 → j ≤ 7218565 → decode cL_law pc = .ok (.ireturn, 1) → lc_J S X 14 k j Q pc lo [.int 1] M) (K : Int32 → lc_MM → Option Int32) (hK : ∀ (x9 : Int32) (M : lc_MM), K x9 M = some 1 → lc_J S X 14 (c0 + 3 * t + 3) (s0 + 18 * t + 18) Q 88 [(0, .ref bS), (1, .ref (lc_ad S 194)), (2, .ref (lc_ad S 197)), (3, .ref (lc_ad S 198)), (4, .ref (lc_ad S 199)), (5, .ref (lc_ad S 200)), (6, .ref (lc_ad S 201)), (7, .ref (lc_ad S 202)), (8, .ref (lc_ad S 203)), (9, .int x9)] [] M) (x9 x11 : Int32) (M : lc_MM) (h : P_L_law_413 K x9 x11 M = some 1) : lc_J S X 14 (c0 + 3 * t + 3) (s0 + 18 * t + 18) Q 413 [(0, .ref bS), (1, .ref (lc_ad S 194)), (2, .ref (lc_ad S 197)), (3, .ref (lc_ad S 198)), (4, .ref (lc_ad S 199)), (5, .ref (lc_ad S 200)), (6, .ref (lc_ad S 201)), (7, .ref (lc_ad S 202)), (8, .ref (lc_ad S 203)), (9, .int x9), (11, .int x11)] [] M := by
  rw [P_L_law_413] at h
  refine lc_iload C (pc' := 415) 10 dL_law_413 rfl rfl ?_
  refine lc_if_eq C (pc' := 418) (tgt := 429) dL_law_415 (by decide) rfl (fun c415 => ?_) (fun c415 => ?_)
  · have h := (lc_if2 h).1 c415
    refine lc_iconst C (pc' := 430) (v := (0 : Int32)) dL_law_429 (by decide) rfl ?_
    exact absurd (Option.some.inj h) (by decide)
  · have h := (lc_if2 h).2 c415
    refine lc_aload_n C (pc' := 419) 1 dL_law_418 rfl rfl ?_
    refine lc_aload_n C (pc' := 420) 2 dL_law_419 rfl rfl ?_
    refine lc_aload_n C (pc' := 421) 3 dL_law_420 rfl rfl ?_
    refine lc_aload C (pc' := 423) 4 dL_law_421 rfl rfl ?_
    obtain ⟨r423, M1, h423, h⟩ := lc_bd2e h
    refine lc_csi C (pc' := 426) (r := r423) (M' := M1) (As := [.ref (lc_ad S 194), .ref (lc_ad S 197), .ref (lc_ad S 198), .ref (lc_ad S 199)]) (rest := []) (c_L_areCells S X.2.1  M (r423, M1) h423) kl_RL_133 rfl rfl (Nat.le_of_ble_eq_true rfl) ⟨Nat.le_of_ble_eq_true rfl, Nat.le_of_ble_eq_true rfl⟩ ⟨rfl, rfl⟩ ⟨by show c0 + 3 * t + 3 ≤ 627686; omega, by show s0 + 18 * t + 18 ≤ 7218565; omega⟩ dL_law_423 rfl ?_
    refine lc_if_ne C (pc' := 429) (tgt := 431) dL_law_426 (by decide) rfl (fun c426 => ?_) (fun c426 => ?_)
    · have h := (lc_if2 h).2 c426
      obtain ⟨x9_431, e9_431, h⟩ := lc_let2 h
      refine lc_iinc C (pc' := 434) (lo' := [(9, .int x9_431), (0, .ref bS), (1, .ref (lc_ad S 194)), (2, .ref (lc_ad S 197)), (3, .ref (lc_ad S 198)), (4, .ref (lc_ad S 199)), (5, .ref (lc_ad S 200)), (6, .ref (lc_ad S 201)), (7, .ref (lc_ad S 202)), (8, .ref (lc_ad S 203)), (11, .int x11)]) (q := 9) dL_law_431 rfl (by rw [← e9_431]; rfl) (Nat.le_of_ble_eq_true rfl) rfl rfl ?_
      refine lc_goto C (tgt := 88) dL_law_434 (by decide) ?_
      refine lc_sub (lo' := [(0, .ref bS), (1, .ref (lc_ad S 194)), (2, .ref (lc_ad S 197)), (3, .ref (lc_ad S 198)), (4, .ref (lc_ad S 199)), (5, .ref (lc_ad S 200)), (6, .ref (lc_ad S 201)), (7, .ref (lc_ad S 202)), (8, .ref (lc_ad S 203)), (9, .int x9_431)]) [1, 2, 3, 4, 5, 6, 7, 8, 9, 0] rfl ?_
      exact hK x9_431 M1 h
    · have h := (lc_if2 h).1 c426
      refine lc_iconst C (pc' := 430) (v := (0 : Int32)) dL_law_429 (by decide) rfl ?_
      exact absurd (Option.some.inj h) (by decide)
def P_L_law_188 (K : Int32 → lc_MM → Option Int32) (x9 x10 : Int32) (M : lc_MM) : Option Int32 :=
  lc_bd2 (P_L_isLent x10 M) (fun r197 M2 => P_L_law_413 K x9 r197 M2)
set_option maxRecDepth 100000 in
set_option maxHeartbeats 4000000 in
theorem w_L_law_188 {S : lc_Se} {X : lc_X} {Q : State → Prop} {bS L : Nat} {xs : Nat → Int32} {c0 s0 t : Nat} (C : lc_C X cL_law RL 14 ret room_1) (hl : X.2.1.stackTraces = false) (hX : va_X bS L xs (lc_Xs X) (lc_Xs X).heap) (hbl : bS < (lc_Xs X).heap.size) (hbA : ¬ lc_A S bS) (hr1 : c0 + 3 * t + 3 ≤ 627686) (hr2 : s0 + 18 * t + 18 ≤ 7218565) (hend : ∀ (k j pc : Nat) (lo : List (Nat × Value)) (M : lc_MM), k ≤ 627686 → j ≤ 7218565 → decode cL_law pc = .ok (.ireturn, 1) → lc_J S X 14 k j Q pc lo [.int 1] M) (K : Int32 → lc_MM → Option Int32) (hK : ∀ (x9 : Int32) (M : lc_MM), K x9 M = some 1 → lc_J S X 14 (c0 + 3 * t + 3) (s0 + 18 * t + 18) Q 88 [(0, .ref bS), (1, .ref (lc_ad S 194)), (2, .ref (lc_ad S 197)), (3, .ref (lc_ad S 198)), (4, .ref (lc_ad S 199)), (5, .ref (lc_ad S 200)), (6, .ref (lc_ad S 201)), (7, .ref (lc_ad S 202)), (8, .ref (lc_ad S 203)), (9, .int x9)] [] M) (x9 x10 : Int32) (M : lc_MM) (h : P_L_law_188 K x9 x10 M = some 1) : lc_J S X 14 (c0 + 3 * t) (s0 + 18 * t) Q 188 [(0, .ref bS), (1, .ref (lc_ad S 194)), (2, .ref (lc_ad S 197)), (3, .ref (lc_ad S 198)), (4, .ref (lc_ad S 199)), (5, .ref (lc_ad S 200)), (6, .ref (lc_ad S 201)), (7, .ref (lc_ad S 202)), (8, .ref (lc_ad S 203)), (9, .int x9), (10, .int x10)] [] M := by
  rw [P_L_law_188] at h
  refine lc_aload_n C (pc' := 189) 1 dL_law_188 rfl rfl ?_
  refine lc_aload_n C (pc' := 190) 2 dL_law_189 rfl rfl ?_
  refine lc_aload_n C (pc' := 191) 3 dL_law_190 rfl rfl ?_
  refine lc_aload C (pc' := 193) 4 dL_law_191 rfl rfl ?_
  refine lc_aload C (pc' := 195) 8 dL_law_193 rfl rfl ?_
  refine lc_iload C (pc' := 197) 10 dL_law_195 rfl rfl ?_
  obtain ⟨r197, M2, h197, h⟩ := lc_bd2e h
  refine lc_csiA C (pc' := 200) (r := r197) (M' := M2) (As := [.ref (lc_ad S 194), .ref (lc_ad S 197), .ref (lc_ad S 198), .ref (lc_ad S 199), .ref (lc_ad S 203), .int x10]) (rest := []) (c_L_isLent S X.2.1 hl x10 M (r197, M2) h197) kl_RL_110 rfl rfl (Nat.le_of_ble_eq_true rfl) ⟨Nat.le_of_ble_eq_true rfl, Nat.le_of_ble_eq_true rfl⟩ ⟨by show c0 + 3 * t + 3 ≤ 627686; omega, by show s0 + 18 * t + 18 ≤ 7218565; omega⟩ dL_law_197 rfl ?_
  refine lc_istore C (pc' := 202) (lo' := [(11, .int r197), (0, .ref bS), (1, .ref (lc_ad S 194)), (2, .ref (lc_ad S 197)), (3, .ref (lc_ad S 198)), (4, .ref (lc_ad S 199)), (5, .ref (lc_ad S 200)), (6, .ref (lc_ad S 201)), (7, .ref (lc_ad S 202)), (8, .ref (lc_ad S 203)), (9, .int x9), (10, .int x10)]) dL_law_200 (Nat.le_of_ble_eq_true rfl) rfl rfl ?_
  refine lc_goto C (tgt := 413) dL_law_202 (by decide) ?_
  refine lc_wid (k' := c0 + 3 * t + 3) (j' := s0 + 18 * t + 18) (by show c0 + 3 * t + 3 ≤ _; omega) (by show s0 + 18 * t + 18 ≤ _; omega) ?_
  refine lc_sub (lo' := [(0, .ref bS), (1, .ref (lc_ad S 194)), (2, .ref (lc_ad S 197)), (3, .ref (lc_ad S 198)), (4, .ref (lc_ad S 199)), (5, .ref (lc_ad S 200)), (6, .ref (lc_ad S 201)), (7, .ref (lc_ad S 202)), (8, .ref (lc_ad S 203)), (9, .int x9), (11, .int r197)]) [1, 2, 3, 4, 5, 6, 7, 8, 9, 10, 0] rfl ?_
  exact w_L_law_413 C hl hX hbl hbA hr1 hr2 hend K hK x9 r197 M2 h
def P_L_law_205 (K : Int32 → lc_MM → Option Int32) (x9 x10 : Int32) (M : lc_MM) : Option Int32 :=
  lc_bd2 (P_L_isRepaid x10 M) (fun r214 M3 => P_L_law_413 K x9 r214 M3)
set_option maxRecDepth 100000 in
set_option maxHeartbeats 4000000 in
theorem w_L_law_205 {S : lc_Se} {X : lc_X} {Q : State → Prop} {bS L : Nat} {xs : Nat → Int32} {c0 s0 t : Nat} (C : lc_C X cL_law RL 14 ret room_1) (hl : X.2.1.stackTraces = false) (hX : va_X bS L xs (lc_Xs X) (lc_Xs X).heap) (hbl : bS < (lc_Xs X).heap.size) (hbA : ¬ lc_A S bS) (hr1 : c0 + 3 * t + 3 ≤ 627686) (hr2 : s0 + 18 * t + 18 ≤ 7218565) (hend : ∀ (k j pc : Nat) (lo : List (Nat × Value)) (M : lc_MM), k ≤ 627686 → j ≤ 7218565 → decode cL_law pc = .ok (.ireturn, 1) → lc_J S X 14 k j Q pc lo [.int 1] M) (K : Int32 → lc_MM → Option Int32) (hK : ∀ (x9 : Int32) (M : lc_MM), K x9 M = some 1 → lc_J S X 14 (c0 + 3 * t + 3) (s0 + 18 * t + 18) Q 88 [(0, .ref bS), (1, .ref (lc_ad S 194)), (2, .ref (lc_ad S 197)), (3, .ref (lc_ad S 198)), (4, .ref (lc_ad S 199)), (5, .ref (lc_ad S 200)), (6, .ref (lc_ad S 201)), (7, .ref (lc_ad S 202)), (8, .ref (lc_ad S 203)), (9, .int x9)] [] M) (x9 x10 : Int32) (M : lc_MM) (h : P_L_law_205 K x9 x10 M = some 1) : lc_J S X 14 (c0 + 3 * t) (s0 + 18 * t) Q 205 [(0, .ref bS), (1, .ref (lc_ad S 194)), (2, .ref (lc_ad S 197)), (3, .ref (lc_ad S 198)), (4, .ref (lc_ad S 199)), (5, .ref (lc_ad S 200)), (6, .ref (lc_ad S 201)), (7, .ref (lc_ad S 202)), (8, .ref (lc_ad S 203)), (9, .int x9), (10, .int x10)] [] M := by
  rw [P_L_law_205] at h
  refine lc_aload_n C (pc' := 206) 1 dL_law_205 rfl rfl ?_
  refine lc_aload_n C (pc' := 207) 2 dL_law_206 rfl rfl ?_
  refine lc_aload_n C (pc' := 208) 3 dL_law_207 rfl rfl ?_
  refine lc_aload C (pc' := 210) 4 dL_law_208 rfl rfl ?_
  refine lc_aload C (pc' := 212) 8 dL_law_210 rfl rfl ?_
  refine lc_iload C (pc' := 214) 10 dL_law_212 rfl rfl ?_
  obtain ⟨r214, M3, h214, h⟩ := lc_bd2e h
  refine lc_csiA C (pc' := 217) (r := r214) (M' := M3) (As := [.ref (lc_ad S 194), .ref (lc_ad S 197), .ref (lc_ad S 198), .ref (lc_ad S 199), .ref (lc_ad S 203), .int x10]) (rest := []) (c_L_isRepaid S X.2.1 hl x10 M (r214, M3) h214) kl_RL_114 rfl rfl (Nat.le_of_ble_eq_true rfl) ⟨Nat.le_of_ble_eq_true rfl, Nat.le_of_ble_eq_true rfl⟩ ⟨by show c0 + 3 * t + 3 ≤ 627686; omega, by show s0 + 18 * t + 18 ≤ 7218565; omega⟩ dL_law_214 rfl ?_
  refine lc_istore C (pc' := 219) (lo' := [(11, .int r214), (0, .ref bS), (1, .ref (lc_ad S 194)), (2, .ref (lc_ad S 197)), (3, .ref (lc_ad S 198)), (4, .ref (lc_ad S 199)), (5, .ref (lc_ad S 200)), (6, .ref (lc_ad S 201)), (7, .ref (lc_ad S 202)), (8, .ref (lc_ad S 203)), (9, .int x9), (10, .int x10)]) dL_law_217 (Nat.le_of_ble_eq_true rfl) rfl rfl ?_
  refine lc_goto C (tgt := 413) dL_law_219 (by decide) ?_
  refine lc_wid (k' := c0 + 3 * t + 3) (j' := s0 + 18 * t + 18) (by show c0 + 3 * t + 3 ≤ _; omega) (by show s0 + 18 * t + 18 ≤ _; omega) ?_
  refine lc_sub (lo' := [(0, .ref bS), (1, .ref (lc_ad S 194)), (2, .ref (lc_ad S 197)), (3, .ref (lc_ad S 198)), (4, .ref (lc_ad S 199)), (5, .ref (lc_ad S 200)), (6, .ref (lc_ad S 201)), (7, .ref (lc_ad S 202)), (8, .ref (lc_ad S 203)), (9, .int x9), (11, .int r214)]) [1, 2, 3, 4, 5, 6, 7, 8, 9, 10, 0] rfl ?_
  exact w_L_law_413 C hl hX hbl hbA hr1 hr2 hend K hK x9 r214 M3 h
def P_L_law_222 (K : Int32 → lc_MM → Option Int32) (x9 x10 : Int32) (M : lc_MM) : Option Int32 :=
  lc_bd2 (P_L_isCharged x10 M) (fun r229 M4 => P_L_law_413 K x9 r229 M4)
set_option maxRecDepth 100000 in
set_option maxHeartbeats 4000000 in
theorem w_L_law_222 {S : lc_Se} {X : lc_X} {Q : State → Prop} {bS L : Nat} {xs : Nat → Int32} {c0 s0 t : Nat} (C : lc_C X cL_law RL 14 ret room_1) (hl : X.2.1.stackTraces = false) (hX : va_X bS L xs (lc_Xs X) (lc_Xs X).heap) (hbl : bS < (lc_Xs X).heap.size) (hbA : ¬ lc_A S bS) (hr1 : c0 + 3 * t + 3 ≤ 627686) (hr2 : s0 + 18 * t + 18 ≤ 7218565) (hend : ∀ (k j pc : Nat) (lo : List (Nat × Value)) (M : lc_MM), k ≤ 627686 → j ≤ 7218565 → decode cL_law pc = .ok (.ireturn, 1) → lc_J S X 14 k j Q pc lo [.int 1] M) (K : Int32 → lc_MM → Option Int32) (hK : ∀ (x9 : Int32) (M : lc_MM), K x9 M = some 1 → lc_J S X 14 (c0 + 3 * t + 3) (s0 + 18 * t + 18) Q 88 [(0, .ref bS), (1, .ref (lc_ad S 194)), (2, .ref (lc_ad S 197)), (3, .ref (lc_ad S 198)), (4, .ref (lc_ad S 199)), (5, .ref (lc_ad S 200)), (6, .ref (lc_ad S 201)), (7, .ref (lc_ad S 202)), (8, .ref (lc_ad S 203)), (9, .int x9)] [] M) (x9 x10 : Int32) (M : lc_MM) (h : P_L_law_222 K x9 x10 M = some 1) : lc_J S X 14 (c0 + 3 * t) (s0 + 18 * t) Q 222 [(0, .ref bS), (1, .ref (lc_ad S 194)), (2, .ref (lc_ad S 197)), (3, .ref (lc_ad S 198)), (4, .ref (lc_ad S 199)), (5, .ref (lc_ad S 200)), (6, .ref (lc_ad S 201)), (7, .ref (lc_ad S 202)), (8, .ref (lc_ad S 203)), (9, .int x9), (10, .int x10)] [] M := by
  rw [P_L_law_222] at h
  refine lc_aload_n C (pc' := 223) 1 dL_law_222 rfl rfl ?_
  refine lc_aload_n C (pc' := 224) 2 dL_law_223 rfl rfl ?_
  refine lc_aload_n C (pc' := 225) 3 dL_law_224 rfl rfl ?_
  refine lc_aload C (pc' := 227) 8 dL_law_225 rfl rfl ?_
  refine lc_iload C (pc' := 229) 10 dL_law_227 rfl rfl ?_
  obtain ⟨r229, M4, h229, h⟩ := lc_bd2e h
  refine lc_csiA C (pc' := 232) (r := r229) (M' := M4) (As := [.ref (lc_ad S 194), .ref (lc_ad S 197), .ref (lc_ad S 198), .ref (lc_ad S 203), .int x10]) (rest := []) (c_L_isCharged S X.2.1 hl x10 M (r229, M4) h229) kl_RL_117 rfl rfl (Nat.le_of_ble_eq_true rfl) ⟨Nat.le_of_ble_eq_true rfl, Nat.le_of_ble_eq_true rfl⟩ ⟨by show c0 + 3 * t + 3 ≤ 627686; omega, by show s0 + 18 * t + 18 ≤ 7218565; omega⟩ dL_law_229 rfl ?_
  refine lc_istore C (pc' := 234) (lo' := [(11, .int r229), (0, .ref bS), (1, .ref (lc_ad S 194)), (2, .ref (lc_ad S 197)), (3, .ref (lc_ad S 198)), (4, .ref (lc_ad S 199)), (5, .ref (lc_ad S 200)), (6, .ref (lc_ad S 201)), (7, .ref (lc_ad S 202)), (8, .ref (lc_ad S 203)), (9, .int x9), (10, .int x10)]) dL_law_232 (Nat.le_of_ble_eq_true rfl) rfl rfl ?_
  refine lc_goto C (tgt := 413) dL_law_234 (by decide) ?_
  refine lc_wid (k' := c0 + 3 * t + 3) (j' := s0 + 18 * t + 18) (by show c0 + 3 * t + 3 ≤ _; omega) (by show s0 + 18 * t + 18 ≤ _; omega) ?_
  refine lc_sub (lo' := [(0, .ref bS), (1, .ref (lc_ad S 194)), (2, .ref (lc_ad S 197)), (3, .ref (lc_ad S 198)), (4, .ref (lc_ad S 199)), (5, .ref (lc_ad S 200)), (6, .ref (lc_ad S 201)), (7, .ref (lc_ad S 202)), (8, .ref (lc_ad S 203)), (9, .int x9), (11, .int r229)]) [1, 2, 3, 4, 5, 6, 7, 8, 9, 10, 0] rfl ?_
  exact w_L_law_413 C hl hX hbl hbA hr1 hr2 hend K hK x9 r229 M4 h
def P_L_law_237 (K : Int32 → lc_MM → Option Int32) (x9 x10 : Int32) (M : lc_MM) : Option Int32 :=
  lc_bd2 (P_L_isDrawn x10 M) (fun r252 M5 => P_L_law_413 K x9 r252 M5)
set_option maxRecDepth 100000 in
set_option maxHeartbeats 4000000 in
theorem w_L_law_237 {S : lc_Se} {X : lc_X} {Q : State → Prop} {bS L : Nat} {xs : Nat → Int32} {c0 s0 t : Nat} (C : lc_C X cL_law RL 14 ret room_1) (hl : X.2.1.stackTraces = false) (hX : va_X bS L xs (lc_Xs X) (lc_Xs X).heap) (hbl : bS < (lc_Xs X).heap.size) (hbA : ¬ lc_A S bS) (hr1 : c0 + 3 * t + 3 ≤ 627686) (hr2 : s0 + 18 * t + 18 ≤ 7218565) (hend : ∀ (k j pc : Nat) (lo : List (Nat × Value)) (M : lc_MM), k ≤ 627686 → j ≤ 7218565 → decode cL_law pc = .ok (.ireturn, 1) → lc_J S X 14 k j Q pc lo [.int 1] M) (K : Int32 → lc_MM → Option Int32) (hK : ∀ (x9 : Int32) (M : lc_MM), K x9 M = some 1 → lc_J S X 14 (c0 + 3 * t + 3) (s0 + 18 * t + 18) Q 88 [(0, .ref bS), (1, .ref (lc_ad S 194)), (2, .ref (lc_ad S 197)), (3, .ref (lc_ad S 198)), (4, .ref (lc_ad S 199)), (5, .ref (lc_ad S 200)), (6, .ref (lc_ad S 201)), (7, .ref (lc_ad S 202)), (8, .ref (lc_ad S 203)), (9, .int x9)] [] M) (x9 x10 : Int32) (M : lc_MM) (h : P_L_law_237 K x9 x10 M = some 1) : lc_J S X 14 (c0 + 3 * t) (s0 + 18 * t) Q 237 [(0, .ref bS), (1, .ref (lc_ad S 194)), (2, .ref (lc_ad S 197)), (3, .ref (lc_ad S 198)), (4, .ref (lc_ad S 199)), (5, .ref (lc_ad S 200)), (6, .ref (lc_ad S 201)), (7, .ref (lc_ad S 202)), (8, .ref (lc_ad S 203)), (9, .int x9), (10, .int x10)] [] M := by
  rw [P_L_law_237] at h
  refine lc_aload_n C (pc' := 238) 1 dL_law_237 rfl rfl ?_
  refine lc_aload_n C (pc' := 239) 2 dL_law_238 rfl rfl ?_
  refine lc_aload_n C (pc' := 240) 3 dL_law_239 rfl rfl ?_
  refine lc_aload C (pc' := 242) 4 dL_law_240 rfl rfl ?_
  refine lc_aload C (pc' := 244) 5 dL_law_242 rfl rfl ?_
  refine lc_aload C (pc' := 246) 6 dL_law_244 rfl rfl ?_
  refine lc_aload C (pc' := 248) 7 dL_law_246 rfl rfl ?_
  refine lc_aload C (pc' := 250) 8 dL_law_248 rfl rfl ?_
  refine lc_iload C (pc' := 252) 10 dL_law_250 rfl rfl ?_
  obtain ⟨r252, M5, h252, h⟩ := lc_bd2e h
  refine lc_csiA C (pc' := 255) (r := r252) (M' := M5) (As := [.ref (lc_ad S 194), .ref (lc_ad S 197), .ref (lc_ad S 198), .ref (lc_ad S 199), .ref (lc_ad S 200), .ref (lc_ad S 201), .ref (lc_ad S 202), .ref (lc_ad S 203), .int x10]) (rest := []) (c_L_isDrawn S X.2.1 hl x10 M (r252, M5) h252) kl_RL_121 rfl rfl (Nat.le_of_ble_eq_true rfl) ⟨Nat.le_of_ble_eq_true rfl, Nat.le_of_ble_eq_true rfl⟩ ⟨by show c0 + 3 * t + 3 ≤ 627686; omega, by show s0 + 18 * t + 18 ≤ 7218565; omega⟩ dL_law_252 rfl ?_
  refine lc_istore C (pc' := 257) (lo' := [(11, .int r252), (0, .ref bS), (1, .ref (lc_ad S 194)), (2, .ref (lc_ad S 197)), (3, .ref (lc_ad S 198)), (4, .ref (lc_ad S 199)), (5, .ref (lc_ad S 200)), (6, .ref (lc_ad S 201)), (7, .ref (lc_ad S 202)), (8, .ref (lc_ad S 203)), (9, .int x9), (10, .int x10)]) dL_law_255 (Nat.le_of_ble_eq_true rfl) rfl rfl ?_
  refine lc_goto C (tgt := 413) dL_law_257 (by decide) ?_
  refine lc_wid (k' := c0 + 3 * t + 3) (j' := s0 + 18 * t + 18) (by show c0 + 3 * t + 3 ≤ _; omega) (by show s0 + 18 * t + 18 ≤ _; omega) ?_
  refine lc_sub (lo' := [(0, .ref bS), (1, .ref (lc_ad S 194)), (2, .ref (lc_ad S 197)), (3, .ref (lc_ad S 198)), (4, .ref (lc_ad S 199)), (5, .ref (lc_ad S 200)), (6, .ref (lc_ad S 201)), (7, .ref (lc_ad S 202)), (8, .ref (lc_ad S 203)), (9, .int x9), (11, .int r252)]) [1, 2, 3, 4, 5, 6, 7, 8, 9, 10, 0] rfl ?_
  exact w_L_law_413 C hl hX hbl hbA hr1 hr2 hend K hK x9 r252 M5 h
def P_L_law_260 (K : Int32 → lc_MM → Option Int32) (x9 x10 : Int32) (M : lc_MM) : Option Int32 :=
  lc_bd (P_L_low (x10 >>> ((8 : Int32) &&& 31)) (4 : Int32)) (fun r276 => if r276 = 0 then lc_bd (P_L_low x10 (50 : Int32)) (fun r288 => lc_bd2 (P_L_isPassed ((1 : Int32) + r288) M) (fun r292 M7 => P_L_law_413 K x9 r292 M7)) else lc_bd (P_L_low x10 (3 : Int32)) (fun r288 => lc_bd2 (P_L_isPassed ((1 : Int32) + r288) M) (fun r292 M6 => P_L_law_413 K x9 r292 M6)))
set_option maxRecDepth 100000 in
set_option maxHeartbeats 4000000 in
theorem w_L_law_260 {S : lc_Se} {X : lc_X} {Q : State → Prop} {bS L : Nat} {xs : Nat → Int32} {c0 s0 t : Nat} (C : lc_C X cL_law RL 14 ret room_1) (hl : X.2.1.stackTraces = false) (hX : va_X bS L xs (lc_Xs X) (lc_Xs X).heap) (hbl : bS < (lc_Xs X).heap.size) (hbA : ¬ lc_A S bS) (hr1 : c0 + 3 * t + 3 ≤ 627686) (hr2 : s0 + 18 * t + 18 ≤ 7218565) (hend : ∀ (k j pc : Nat) (lo : List (Nat × Value)) (M : lc_MM), k ≤ 627686 → j ≤ 7218565 → decode cL_law pc = .ok (.ireturn, 1) → lc_J S X 14 k j Q pc lo [.int 1] M) (K : Int32 → lc_MM → Option Int32) (hK : ∀ (x9 : Int32) (M : lc_MM), K x9 M = some 1 → lc_J S X 14 (c0 + 3 * t + 3) (s0 + 18 * t + 18) Q 88 [(0, .ref bS), (1, .ref (lc_ad S 194)), (2, .ref (lc_ad S 197)), (3, .ref (lc_ad S 198)), (4, .ref (lc_ad S 199)), (5, .ref (lc_ad S 200)), (6, .ref (lc_ad S 201)), (7, .ref (lc_ad S 202)), (8, .ref (lc_ad S 203)), (9, .int x9)] [] M) (x9 x10 : Int32) (M : lc_MM) (h : P_L_law_260 K x9 x10 M = some 1) : lc_J S X 14 (c0 + 3 * t) (s0 + 18 * t) Q 260 [(0, .ref bS), (1, .ref (lc_ad S 194)), (2, .ref (lc_ad S 197)), (3, .ref (lc_ad S 198)), (4, .ref (lc_ad S 199)), (5, .ref (lc_ad S 200)), (6, .ref (lc_ad S 201)), (7, .ref (lc_ad S 202)), (8, .ref (lc_ad S 203)), (9, .int x9), (10, .int x10)] [] M := by
  rw [P_L_law_260] at h
  refine lc_aload_n C (pc' := 261) 1 dL_law_260 rfl rfl ?_
  refine lc_aload_n C (pc' := 262) 2 dL_law_261 rfl rfl ?_
  refine lc_aload_n C (pc' := 263) 3 dL_law_262 rfl rfl ?_
  refine lc_aload C (pc' := 265) 4 dL_law_263 rfl rfl ?_
  refine lc_aload C (pc' := 267) 8 dL_law_265 rfl rfl ?_
  refine lc_iconst C (pc' := 268) (v := (1 : Int32)) dL_law_267 (by decide) rfl ?_
  refine lc_iload C (pc' := 270) 10 dL_law_268 rfl rfl ?_
  refine lc_iload C (pc' := 272) 10 dL_law_270 rfl rfl ?_
  refine lc_bipush C (pc' := 274) (v := (8 : Int32)) dL_law_272 (by decide) rfl ?_
  refine lc_ishr C (pc' := 275) dL_law_274 rfl ?_
  refine lc_iconst C (pc' := 276) (v := (4 : Int32)) dL_law_275 (by decide) rfl ?_
  obtain ⟨r276, h276, h⟩ := lc_bde h
  refine lc_csi C (pc' := 279) (r := r276) (M' := M) (As := [.int (x10 >>> ((8 : Int32) &&& 31)), .int (4 : Int32)]) (rest := [.int x10, .int (1 : Int32), .ref (lc_ad S 203), .ref (lc_ad S 199), .ref (lc_ad S 198), .ref (lc_ad S 197), .ref (lc_ad S 194)]) (c_L_low S X.2.1 M   (x10 >>> ((8 : Int32) &&& 31)) (4 : Int32)  r276 h276) kl_RL_83 rfl rfl (Nat.le_of_ble_eq_true rfl) ⟨Nat.le_of_ble_eq_true rfl, Nat.le_of_ble_eq_true rfl⟩ ⟨rfl, rfl⟩ ⟨by show c0 + 3 * t ≤ 627686; omega, by show s0 + 18 * t ≤ 7218565; omega⟩ dL_law_276 rfl ?_
  refine lc_if_ne C (pc' := 282) (tgt := 287) dL_law_279 (by decide) rfl (fun c279 => ?_) (fun c279 => ?_)
  · have h := (lc_if2 h).2 c279
    refine lc_iconst C (pc' := 288) (v := (3 : Int32)) dL_law_287 (by decide) rfl ?_
    obtain ⟨r288, h288, h⟩ := lc_bde h
    refine lc_csi C (pc' := 291) (r := r288) (M' := M) (As := [.int x10, .int (3 : Int32)]) (rest := [.int (1 : Int32), .ref (lc_ad S 203), .ref (lc_ad S 199), .ref (lc_ad S 198), .ref (lc_ad S 197), .ref (lc_ad S 194)]) (c_L_low S X.2.1 M   x10 (3 : Int32)  r288 h288) kl_RL_83 rfl rfl (Nat.le_of_ble_eq_true rfl) ⟨Nat.le_of_ble_eq_true rfl, Nat.le_of_ble_eq_true rfl⟩ ⟨rfl, rfl⟩ ⟨by show c0 + 3 * t ≤ 627686; omega, by show s0 + 18 * t ≤ 7218565; omega⟩ dL_law_288 rfl ?_
    refine lc_iadd C (pc' := 292) dL_law_291 rfl ?_
    obtain ⟨r292, M6, h292, h⟩ := lc_bd2e h
    refine lc_csiA C (pc' := 295) (r := r292) (M' := M6) (As := [.ref (lc_ad S 194), .ref (lc_ad S 197), .ref (lc_ad S 198), .ref (lc_ad S 199), .ref (lc_ad S 203), .int ((1 : Int32) + r288)]) (rest := []) (c_L_isPassed S X.2.1 hl ((1 : Int32) + r288) M (r292, M6) h292) kl_RL_125 rfl rfl (Nat.le_of_ble_eq_true rfl) ⟨Nat.le_of_ble_eq_true rfl, Nat.le_of_ble_eq_true rfl⟩ ⟨by show c0 + 3 * t + 3 ≤ 627686; omega, by show s0 + 18 * t + 18 ≤ 7218565; omega⟩ dL_law_292 rfl ?_
    refine lc_istore C (pc' := 297) (lo' := [(11, .int r292), (0, .ref bS), (1, .ref (lc_ad S 194)), (2, .ref (lc_ad S 197)), (3, .ref (lc_ad S 198)), (4, .ref (lc_ad S 199)), (5, .ref (lc_ad S 200)), (6, .ref (lc_ad S 201)), (7, .ref (lc_ad S 202)), (8, .ref (lc_ad S 203)), (9, .int x9), (10, .int x10)]) dL_law_295 (Nat.le_of_ble_eq_true rfl) rfl rfl ?_
    refine lc_goto C (tgt := 413) dL_law_297 (by decide) ?_
    refine lc_wid (k' := c0 + 3 * t + 3) (j' := s0 + 18 * t + 18) (by show c0 + 3 * t + 3 ≤ _; omega) (by show s0 + 18 * t + 18 ≤ _; omega) ?_
    refine lc_sub (lo' := [(0, .ref bS), (1, .ref (lc_ad S 194)), (2, .ref (lc_ad S 197)), (3, .ref (lc_ad S 198)), (4, .ref (lc_ad S 199)), (5, .ref (lc_ad S 200)), (6, .ref (lc_ad S 201)), (7, .ref (lc_ad S 202)), (8, .ref (lc_ad S 203)), (9, .int x9), (11, .int r292)]) [1, 2, 3, 4, 5, 6, 7, 8, 9, 10, 0] rfl ?_
    exact w_L_law_413 C hl hX hbl hbA hr1 hr2 hend K hK x9 r292 M6 h
  · have h := (lc_if2 h).1 c279
    refine lc_bipush C (pc' := 284) (v := (50 : Int32)) dL_law_282 (by decide) rfl ?_
    refine lc_goto C (tgt := 288) dL_law_284 (by decide) ?_
    obtain ⟨r288, h288, h⟩ := lc_bde h
    refine lc_csi C (pc' := 291) (r := r288) (M' := M) (As := [.int x10, .int (50 : Int32)]) (rest := [.int (1 : Int32), .ref (lc_ad S 203), .ref (lc_ad S 199), .ref (lc_ad S 198), .ref (lc_ad S 197), .ref (lc_ad S 194)]) (c_L_low S X.2.1 M   x10 (50 : Int32)  r288 h288) kl_RL_83 rfl rfl (Nat.le_of_ble_eq_true rfl) ⟨Nat.le_of_ble_eq_true rfl, Nat.le_of_ble_eq_true rfl⟩ ⟨rfl, rfl⟩ ⟨by show c0 + 3 * t ≤ 627686; omega, by show s0 + 18 * t ≤ 7218565; omega⟩ dL_law_288 rfl ?_
    refine lc_iadd C (pc' := 292) dL_law_291 rfl ?_
    obtain ⟨r292, M7, h292, h⟩ := lc_bd2e h
    refine lc_csiA C (pc' := 295) (r := r292) (M' := M7) (As := [.ref (lc_ad S 194), .ref (lc_ad S 197), .ref (lc_ad S 198), .ref (lc_ad S 199), .ref (lc_ad S 203), .int ((1 : Int32) + r288)]) (rest := []) (c_L_isPassed S X.2.1 hl ((1 : Int32) + r288) M (r292, M7) h292) kl_RL_125 rfl rfl (Nat.le_of_ble_eq_true rfl) ⟨Nat.le_of_ble_eq_true rfl, Nat.le_of_ble_eq_true rfl⟩ ⟨by show c0 + 3 * t + 3 ≤ 627686; omega, by show s0 + 18 * t + 18 ≤ 7218565; omega⟩ dL_law_292 rfl ?_
    refine lc_istore C (pc' := 297) (lo' := [(11, .int r292), (0, .ref bS), (1, .ref (lc_ad S 194)), (2, .ref (lc_ad S 197)), (3, .ref (lc_ad S 198)), (4, .ref (lc_ad S 199)), (5, .ref (lc_ad S 200)), (6, .ref (lc_ad S 201)), (7, .ref (lc_ad S 202)), (8, .ref (lc_ad S 203)), (9, .int x9), (10, .int x10)]) dL_law_295 (Nat.le_of_ble_eq_true rfl) rfl rfl ?_
    refine lc_goto C (tgt := 413) dL_law_297 (by decide) ?_
    refine lc_wid (k' := c0 + 3 * t + 3) (j' := s0 + 18 * t + 18) (by show c0 + 3 * t + 3 ≤ _; omega) (by show s0 + 18 * t + 18 ≤ _; omega) ?_
    refine lc_sub (lo' := [(0, .ref bS), (1, .ref (lc_ad S 194)), (2, .ref (lc_ad S 197)), (3, .ref (lc_ad S 198)), (4, .ref (lc_ad S 199)), (5, .ref (lc_ad S 200)), (6, .ref (lc_ad S 201)), (7, .ref (lc_ad S 202)), (8, .ref (lc_ad S 203)), (9, .int x9), (11, .int r292)]) [1, 2, 3, 4, 5, 6, 7, 8, 9, 10, 0] rfl ?_
    exact w_L_law_413 C hl hX hbl hbA hr1 hr2 hend K hK x9 r292 M7 h
def P_L_law_300 (K : Int32 → lc_MM → Option Int32) (x9 x10 : Int32) (M : lc_MM) : Option Int32 :=
  lc_bd (P_L_low x10 (M 22 0 1)) (fun r305 => lc_if (lc_ok (((5 : Int32) * r305) + (2 : Int32)) 30) (lc_let (M 22 1 (((5 : Int32) * r305) + (2 : Int32)).toNatClampNeg) (fun x13_318 => lc_bd (P_L_low (x10 >>> ((4 : Int32) &&& 31)) (4 : Int32)) (fun r332 => lc_if (lc_ok (((5 : Int32) * r305) + (2 : Int32)) 30) (lc_let (lc_ss (M 22) 1 ((((5 : Int32) * r305) + (2 : Int32)).toNatClampNeg) r332) (fun s8 => lc_let (va_up M 22 s8) (fun M9 => lc_if (lc_ok (((5 : Int32) * r305) + (2 : Int32)) 30) (lc_bd2 (P_L_setLeak r305 (M9 22 1 (((5 : Int32) * r305) + (2 : Int32)).toNatClampNeg) M9) (fun r349 M10 => if r349 = 0 then if (M10 24 0 0) = x13_318 then lc_bd2 (P_L_setLeak r305 (4 : Int32) M10) (fun r370 M11 => if r370 = (2 : Int32) then lc_bd2 (P_L_setLeak (M11 22 0 1) (4 : Int32) M11) (fun r384 M12 => if r384 = (1 : Int32) then P_L_law_413 K x9 (1 : Int32) M12 else P_L_law_413 K x9 (0 : Int32) M12) else P_L_law_413 K x9 (0 : Int32) M11) else P_L_law_413 K x9 (0 : Int32) M10 else P_L_law_413 K x9 (0 : Int32) M10)))))))))
set_option maxRecDepth 100000 in
set_option maxHeartbeats 4000000 in
theorem w_L_law_300 {S : lc_Se} {X : lc_X} {Q : State → Prop} {bS L : Nat} {xs : Nat → Int32} {c0 s0 t : Nat} (C : lc_C X cL_law RL 14 ret room_1) (hl : X.2.1.stackTraces = false) (hX : va_X bS L xs (lc_Xs X) (lc_Xs X).heap) (hbl : bS < (lc_Xs X).heap.size) (hbA : ¬ lc_A S bS) (hr1 : c0 + 3 * t + 3 ≤ 627686) (hr2 : s0 + 18 * t + 18 ≤ 7218565) (hend : ∀ (k j pc : Nat) (lo : List (Nat × Value)) (M : lc_MM), k ≤ 627686 → j ≤ 7218565 → decode cL_law pc = .ok (.ireturn, 1) → lc_J S X 14 k j Q pc lo [.int 1] M) (K : Int32 → lc_MM → Option Int32) (hK : ∀ (x9 : Int32) (M : lc_MM), K x9 M = some 1 → lc_J S X 14 (c0 + 3 * t + 3) (s0 + 18 * t + 18) Q 88 [(0, .ref bS), (1, .ref (lc_ad S 194)), (2, .ref (lc_ad S 197)), (3, .ref (lc_ad S 198)), (4, .ref (lc_ad S 199)), (5, .ref (lc_ad S 200)), (6, .ref (lc_ad S 201)), (7, .ref (lc_ad S 202)), (8, .ref (lc_ad S 203)), (9, .int x9)] [] M) (x9 x10 : Int32) (M : lc_MM) (h : P_L_law_300 K x9 x10 M = some 1) : lc_J S X 14 (c0 + 3 * t) (s0 + 18 * t) Q 300 [(0, .ref bS), (1, .ref (lc_ad S 194)), (2, .ref (lc_ad S 197)), (3, .ref (lc_ad S 198)), (4, .ref (lc_ad S 199)), (5, .ref (lc_ad S 200)), (6, .ref (lc_ad S 201)), (7, .ref (lc_ad S 202)), (8, .ref (lc_ad S 203)), (9, .int x9), (10, .int x10)] [] M := by
  rw [P_L_law_300] at h
  refine lc_iload C (pc' := 302) 10 dL_law_300 rfl rfl ?_
  refine lc_aload_n C (pc' := 303) 2 dL_law_302 rfl rfl ?_
  refine lc_iconst C (pc' := 304) (v := (1 : Int32)) dL_law_303 (by decide) rfl ?_
  refine lc_ld197 C (pc' := 305) (jj := 1) rfl (by decide) (by decide) dL_law_304 rfl ?_
  obtain ⟨r305, h305, h⟩ := lc_bde h
  refine lc_csi C (pc' := 308) (r := r305) (M' := M) (As := [.int x10, .int (M 22 0 1)]) (rest := []) (c_L_low S X.2.1 M   x10 (M 22 0 1)  r305 h305) kl_RL_83 rfl rfl (Nat.le_of_ble_eq_true rfl) ⟨Nat.le_of_ble_eq_true rfl, Nat.le_of_ble_eq_true rfl⟩ ⟨rfl, rfl⟩ ⟨by show c0 + 3 * t ≤ 627686; omega, by show s0 + 18 * t ≤ 7218565; omega⟩ dL_law_305 rfl ?_
  refine lc_istore C (pc' := 310) (lo' := [(12, .int r305), (0, .ref bS), (1, .ref (lc_ad S 194)), (2, .ref (lc_ad S 197)), (3, .ref (lc_ad S 198)), (4, .ref (lc_ad S 199)), (5, .ref (lc_ad S 200)), (6, .ref (lc_ad S 201)), (7, .ref (lc_ad S 202)), (8, .ref (lc_ad S 203)), (9, .int x9), (10, .int x10)]) dL_law_308 (Nat.le_of_ble_eq_true rfl) rfl rfl ?_
  refine lc_aload_n C (pc' := 311) 4 dL_law_310 rfl rfl ?_
  refine lc_iconst C (pc' := 312) (v := (5 : Int32)) dL_law_311 (by decide) rfl ?_
  refine lc_iload C (pc' := 314) 0 dL_law_312 rfl rfl ?_
  refine lc_imul C (pc' := 315) dL_law_314 rfl ?_
  refine lc_iconst C (pc' := 316) (v := (2 : Int32)) dL_law_315 (by decide) rfl ?_
  refine lc_iadd C (pc' := 317) dL_law_316 rfl ?_
  obtain ⟨hi317, h⟩ := lc_ife h
  refine lc_ld198 C (pc' := 318) (jj := (((5 : Int32) * r305) + (2 : Int32)).toNatClampNeg) rfl hi317 rfl dL_law_317 rfl ?_
  obtain ⟨x13_318, e13_318, h⟩ := lc_let2 h
  rw [e13_318]
  refine lc_istore C (pc' := 320) (lo' := [(13, .int x13_318), (12, .int r305), (0, .ref bS), (1, .ref (lc_ad S 194)), (2, .ref (lc_ad S 197)), (3, .ref (lc_ad S 198)), (4, .ref (lc_ad S 199)), (5, .ref (lc_ad S 200)), (6, .ref (lc_ad S 201)), (7, .ref (lc_ad S 202)), (8, .ref (lc_ad S 203)), (9, .int x9), (10, .int x10)]) dL_law_318 (Nat.le_of_ble_eq_true rfl) rfl rfl ?_
  refine lc_aload_n C (pc' := 321) 5 dL_law_320 rfl rfl ?_
  refine lc_iconst C (pc' := 322) (v := (5 : Int32)) dL_law_321 (by decide) rfl ?_
  refine lc_iload C (pc' := 324) 1 dL_law_322 rfl rfl ?_
  refine lc_imul C (pc' := 325) dL_law_324 rfl ?_
  refine lc_iconst C (pc' := 326) (v := (2 : Int32)) dL_law_325 (by decide) rfl ?_
  refine lc_iadd C (pc' := 327) dL_law_326 rfl ?_
  refine lc_iload C (pc' := 329) 12 dL_law_327 rfl rfl ?_
  refine lc_iconst C (pc' := 330) (v := (4 : Int32)) dL_law_329 (by decide) rfl ?_
  refine lc_ishr C (pc' := 331) dL_law_330 rfl ?_
  refine lc_iconst C (pc' := 332) (v := (4 : Int32)) dL_law_331 (by decide) rfl ?_
  obtain ⟨r332, h332, h⟩ := lc_bde h
  refine lc_csi C (pc' := 335) (r := r332) (M' := M) (As := [.int (x10 >>> ((4 : Int32) &&& 31)), .int (4 : Int32)]) (rest := [.int (((5 : Int32) * r305) + (2 : Int32)), .ref (lc_ad S 198)]) (c_L_low S X.2.1 M   (x10 >>> ((4 : Int32) &&& 31)) (4 : Int32)  r332 h332) kl_RL_83 rfl rfl (Nat.le_of_ble_eq_true rfl) ⟨Nat.le_of_ble_eq_true rfl, Nat.le_of_ble_eq_true rfl⟩ ⟨rfl, rfl⟩ ⟨by show c0 + 3 * t ≤ 627686; omega, by show s0 + 18 * t ≤ 7218565; omega⟩ dL_law_332 rfl ?_
  obtain ⟨hi335, h⟩ := lc_ife h
  obtain ⟨s8, es8, h⟩ := lc_let2 h
  obtain ⟨M9, eM9, h⟩ := lc_let2 h
  refine lc_sd198 C (pc' := 336) (jj := (((5 : Int32) * r305) + (2 : Int32)).toNatClampNeg) (M' := M9) rfl hi335 rfl es8 eM9 dL_law_335 rfl ?_
  refine lc_aload_n C (pc' := 337) 3 dL_law_336 rfl rfl ?_
  refine lc_iload C (pc' := 339) 1 dL_law_337 rfl rfl ?_
  refine lc_aload_n C (pc' := 340) 5 dL_law_339 rfl rfl ?_
  refine lc_iconst C (pc' := 341) (v := (5 : Int32)) dL_law_340 (by decide) rfl ?_
  refine lc_iload C (pc' := 343) 1 dL_law_341 rfl rfl ?_
  refine lc_imul C (pc' := 344) dL_law_343 rfl ?_
  refine lc_iconst C (pc' := 345) (v := (2 : Int32)) dL_law_344 (by decide) rfl ?_
  refine lc_iadd C (pc' := 346) dL_law_345 rfl ?_
  obtain ⟨hi346, h⟩ := lc_ife h
  refine lc_ld198 C (pc' := 347) (jj := (((5 : Int32) * r305) + (2 : Int32)).toNatClampNeg) rfl hi346 rfl dL_law_346 rfl ?_
  refine lc_aload C (pc' := 349) 10 dL_law_347 rfl rfl ?_
  obtain ⟨r349, M10, h349, h⟩ := lc_bd2e h
  refine lc_csW C (pc' := 352) (r := r349) (M' := M10) (As := [.ref (lc_ad S 194), .int r305, .int (M9 22 1 (((5 : Int32) * r305) + (2 : Int32)).toNatClampNeg), .ref (lc_ad S 203)]) (rest := []) (c_L_setLeak S X.2.1 hl r305 (M9 22 1 (((5 : Int32) * r305) + (2 : Int32)).toNatClampNeg) M9 (r349, M10) h349) kw_L_setLeak rfl rfl (Nat.le_of_ble_eq_true rfl) ⟨Nat.le_of_ble_eq_true rfl, Nat.le_of_ble_eq_true rfl⟩ ⟨by show c0 + 3 * t + 1 ≤ 627686; omega, by show s0 + 18 * t + 6 ≤ 7218565; omega⟩ dL_law_349 rfl ?_
  refine lc_if_ne C (pc' := 355) (tgt := 395) dL_law_352 (by decide) rfl (fun c352 => ?_) (fun c352 => ?_)
  · have h := (lc_if2 h).2 c352
    refine lc_iconst C (pc' := 396) (v := (0 : Int32)) dL_law_395 (by decide) rfl ?_
    refine lc_istore C (pc' := 398) (lo' := [(11, .int (0 : Int32)), (13, .int x13_318), (12, .int r305), (0, .ref bS), (1, .ref (lc_ad S 194)), (2, .ref (lc_ad S 197)), (3, .ref (lc_ad S 198)), (4, .ref (lc_ad S 199)), (5, .ref (lc_ad S 200)), (6, .ref (lc_ad S 201)), (7, .ref (lc_ad S 202)), (8, .ref (lc_ad S 203)), (9, .int x9), (10, .int x10)]) dL_law_396 (Nat.le_of_ble_eq_true rfl) rfl rfl ?_
    refine lc_goto C (tgt := 413) dL_law_398 (by decide) ?_
    refine lc_wid (k' := c0 + 3 * t + 3) (j' := s0 + 18 * t + 18) (by show c0 + 3 * t + 1 ≤ _; omega) (by show s0 + 18 * t + 6 ≤ _; omega) ?_
    refine lc_sub (lo' := [(0, .ref bS), (1, .ref (lc_ad S 194)), (2, .ref (lc_ad S 197)), (3, .ref (lc_ad S 198)), (4, .ref (lc_ad S 199)), (5, .ref (lc_ad S 200)), (6, .ref (lc_ad S 201)), (7, .ref (lc_ad S 202)), (8, .ref (lc_ad S 203)), (9, .int x9), (11, .int (0 : Int32))]) [3, 4, 5, 6, 7, 8, 9, 10, 11, 12, 0] rfl ?_
    exact w_L_law_413 C hl hX hbl hbA hr1 hr2 hend K hK x9 (0 : Int32) M10 h
  · have h := (lc_if2 h).1 c352
    refine lc_aload C (pc' := 357) 10 dL_law_355 rfl rfl ?_
    refine lc_iconst C (pc' := 358) (v := (0 : Int32)) dL_law_357 (by decide) rfl ?_
    refine lc_ld203 C (pc' := 359) (jj := 0) rfl (by decide) (by decide) dL_law_358 rfl ?_
    refine lc_iload C (pc' := 361) 0 dL_law_359 rfl rfl ?_
    refine lc_icmp_ne C (pc' := 364) (tgt := 395) dL_law_361 (by decide) rfl (fun c361 => ?_) (fun c361 => ?_)
    · have h := (lc_if2 h).2 c361
      refine lc_iconst C (pc' := 396) (v := (0 : Int32)) dL_law_395 (by decide) rfl ?_
      refine lc_istore C (pc' := 398) (lo' := [(11, .int (0 : Int32)), (13, .int x13_318), (12, .int r305), (0, .ref bS), (1, .ref (lc_ad S 194)), (2, .ref (lc_ad S 197)), (3, .ref (lc_ad S 198)), (4, .ref (lc_ad S 199)), (5, .ref (lc_ad S 200)), (6, .ref (lc_ad S 201)), (7, .ref (lc_ad S 202)), (8, .ref (lc_ad S 203)), (9, .int x9), (10, .int x10)]) dL_law_396 (Nat.le_of_ble_eq_true rfl) rfl rfl ?_
      refine lc_goto C (tgt := 413) dL_law_398 (by decide) ?_
      refine lc_wid (k' := c0 + 3 * t + 3) (j' := s0 + 18 * t + 18) (by show c0 + 3 * t + 1 ≤ _; omega) (by show s0 + 18 * t + 6 ≤ _; omega) ?_
      refine lc_sub (lo' := [(0, .ref bS), (1, .ref (lc_ad S 194)), (2, .ref (lc_ad S 197)), (3, .ref (lc_ad S 198)), (4, .ref (lc_ad S 199)), (5, .ref (lc_ad S 200)), (6, .ref (lc_ad S 201)), (7, .ref (lc_ad S 202)), (8, .ref (lc_ad S 203)), (9, .int x9), (11, .int (0 : Int32))]) [3, 4, 5, 6, 7, 8, 9, 10, 11, 12, 0] rfl ?_
      exact w_L_law_413 C hl hX hbl hbA hr1 hr2 hend K hK x9 (0 : Int32) M10 h
    · have h := (lc_if2 h).1 c361
      refine lc_aload_n C (pc' := 365) 3 dL_law_364 rfl rfl ?_
      refine lc_iload C (pc' := 367) 1 dL_law_365 rfl rfl ?_
      refine lc_iconst C (pc' := 368) (v := (4 : Int32)) dL_law_367 (by decide) rfl ?_
      refine lc_aload C (pc' := 370) 10 dL_law_368 rfl rfl ?_
      obtain ⟨r370, M11, h370, h⟩ := lc_bd2e h
      refine lc_csW C (pc' := 373) (r := r370) (M' := M11) (As := [.ref (lc_ad S 194), .int r305, .int (4 : Int32), .ref (lc_ad S 203)]) (rest := []) (c_L_setLeak S X.2.1 hl r305 (4 : Int32) M10 (r370, M11) h370) kw_L_setLeak rfl rfl (Nat.le_of_ble_eq_true rfl) ⟨Nat.le_of_ble_eq_true rfl, Nat.le_of_ble_eq_true rfl⟩ ⟨by show c0 + 3 * t + 1 + 1 ≤ 627686; omega, by show s0 + 18 * t + 6 + 6 ≤ 7218565; omega⟩ dL_law_370 rfl ?_
      refine lc_iconst C (pc' := 374) (v := (2 : Int32)) dL_law_373 (by decide) rfl ?_
      refine lc_icmp_ne C (pc' := 377) (tgt := 395) dL_law_374 (by decide) rfl (fun c374 => ?_) (fun c374 => ?_)
      · have h := (lc_if2 h).2 c374
        refine lc_iconst C (pc' := 396) (v := (0 : Int32)) dL_law_395 (by decide) rfl ?_
        refine lc_istore C (pc' := 398) (lo' := [(11, .int (0 : Int32)), (13, .int x13_318), (12, .int r305), (0, .ref bS), (1, .ref (lc_ad S 194)), (2, .ref (lc_ad S 197)), (3, .ref (lc_ad S 198)), (4, .ref (lc_ad S 199)), (5, .ref (lc_ad S 200)), (6, .ref (lc_ad S 201)), (7, .ref (lc_ad S 202)), (8, .ref (lc_ad S 203)), (9, .int x9), (10, .int x10)]) dL_law_396 (Nat.le_of_ble_eq_true rfl) rfl rfl ?_
        refine lc_goto C (tgt := 413) dL_law_398 (by decide) ?_
        refine lc_wid (k' := c0 + 3 * t + 3) (j' := s0 + 18 * t + 18) (by show c0 + 3 * t + 1 + 1 ≤ _; omega) (by show s0 + 18 * t + 6 + 6 ≤ _; omega) ?_
        refine lc_sub (lo' := [(0, .ref bS), (1, .ref (lc_ad S 194)), (2, .ref (lc_ad S 197)), (3, .ref (lc_ad S 198)), (4, .ref (lc_ad S 199)), (5, .ref (lc_ad S 200)), (6, .ref (lc_ad S 201)), (7, .ref (lc_ad S 202)), (8, .ref (lc_ad S 203)), (9, .int x9), (11, .int (0 : Int32))]) [3, 4, 5, 6, 7, 8, 9, 10, 11, 12, 0] rfl ?_
        exact w_L_law_413 C hl hX hbl hbA hr1 hr2 hend K hK x9 (0 : Int32) M11 h
      · have h := (lc_if2 h).1 c374
        refine lc_aload_n C (pc' := 378) 3 dL_law_377 rfl rfl ?_
        refine lc_aload_n C (pc' := 379) 4 dL_law_378 rfl rfl ?_
        refine lc_iconst C (pc' := 380) (v := (1 : Int32)) dL_law_379 (by decide) rfl ?_
        refine lc_ld197 C (pc' := 381) (jj := 1) rfl (by decide) (by decide) dL_law_380 rfl ?_
        refine lc_iconst C (pc' := 382) (v := (4 : Int32)) dL_law_381 (by decide) rfl ?_
        refine lc_aload C (pc' := 384) 10 dL_law_382 rfl rfl ?_
        obtain ⟨r384, M12, h384, h⟩ := lc_bd2e h
        refine lc_csW C (pc' := 387) (r := r384) (M' := M12) (As := [.ref (lc_ad S 194), .int (M11 22 0 1), .int (4 : Int32), .ref (lc_ad S 203)]) (rest := []) (c_L_setLeak S X.2.1 hl (M11 22 0 1) (4 : Int32) M11 (r384, M12) h384) kw_L_setLeak rfl rfl (Nat.le_of_ble_eq_true rfl) ⟨Nat.le_of_ble_eq_true rfl, Nat.le_of_ble_eq_true rfl⟩ ⟨by show c0 + 3 * t + 1 + 1 + 1 ≤ 627686; omega, by show s0 + 18 * t + 6 + 6 + 6 ≤ 7218565; omega⟩ dL_law_384 rfl ?_
        refine lc_iconst C (pc' := 388) (v := (1 : Int32)) dL_law_387 (by decide) rfl ?_
        refine lc_icmp_ne C (pc' := 391) (tgt := 395) dL_law_388 (by decide) rfl (fun c388 => ?_) (fun c388 => ?_)
        · have h := (lc_if2 h).2 c388
          refine lc_iconst C (pc' := 396) (v := (0 : Int32)) dL_law_395 (by decide) rfl ?_
          refine lc_istore C (pc' := 398) (lo' := [(11, .int (0 : Int32)), (13, .int x13_318), (12, .int r305), (0, .ref bS), (1, .ref (lc_ad S 194)), (2, .ref (lc_ad S 197)), (3, .ref (lc_ad S 198)), (4, .ref (lc_ad S 199)), (5, .ref (lc_ad S 200)), (6, .ref (lc_ad S 201)), (7, .ref (lc_ad S 202)), (8, .ref (lc_ad S 203)), (9, .int x9), (10, .int x10)]) dL_law_396 (Nat.le_of_ble_eq_true rfl) rfl rfl ?_
          refine lc_goto C (tgt := 413) dL_law_398 (by decide) ?_
          refine lc_wid (k' := c0 + 3 * t + 3) (j' := s0 + 18 * t + 18) (by show c0 + 3 * t + 1 + 1 + 1 ≤ _; omega) (by show s0 + 18 * t + 6 + 6 + 6 ≤ _; omega) ?_
          refine lc_sub (lo' := [(0, .ref bS), (1, .ref (lc_ad S 194)), (2, .ref (lc_ad S 197)), (3, .ref (lc_ad S 198)), (4, .ref (lc_ad S 199)), (5, .ref (lc_ad S 200)), (6, .ref (lc_ad S 201)), (7, .ref (lc_ad S 202)), (8, .ref (lc_ad S 203)), (9, .int x9), (11, .int (0 : Int32))]) [3, 4, 5, 6, 7, 8, 9, 10, 11, 12, 0] rfl ?_
          exact w_L_law_413 C hl hX hbl hbA hr1 hr2 hend K hK x9 (0 : Int32) M12 h
        · have h := (lc_if2 h).1 c388
          refine lc_iconst C (pc' := 392) (v := (1 : Int32)) dL_law_391 (by decide) rfl ?_
          refine lc_goto C (tgt := 396) dL_law_392 (by decide) ?_
          refine lc_istore C (pc' := 398) (lo' := [(11, .int (1 : Int32)), (13, .int x13_318), (12, .int r305), (0, .ref bS), (1, .ref (lc_ad S 194)), (2, .ref (lc_ad S 197)), (3, .ref (lc_ad S 198)), (4, .ref (lc_ad S 199)), (5, .ref (lc_ad S 200)), (6, .ref (lc_ad S 201)), (7, .ref (lc_ad S 202)), (8, .ref (lc_ad S 203)), (9, .int x9), (10, .int x10)]) dL_law_396 (Nat.le_of_ble_eq_true rfl) rfl rfl ?_
          refine lc_goto C (tgt := 413) dL_law_398 (by decide) ?_
          refine lc_wid (k' := c0 + 3 * t + 3) (j' := s0 + 18 * t + 18) (by show c0 + 3 * t + 1 + 1 + 1 ≤ _; omega) (by show s0 + 18 * t + 6 + 6 + 6 ≤ _; omega) ?_
          refine lc_sub (lo' := [(0, .ref bS), (1, .ref (lc_ad S 194)), (2, .ref (lc_ad S 197)), (3, .ref (lc_ad S 198)), (4, .ref (lc_ad S 199)), (5, .ref (lc_ad S 200)), (6, .ref (lc_ad S 201)), (7, .ref (lc_ad S 202)), (8, .ref (lc_ad S 203)), (9, .int x9), (11, .int (1 : Int32))]) [3, 4, 5, 6, 7, 8, 9, 10, 11, 12, 0] rfl ?_
          exact w_L_law_413 C hl hX hbl hbA hr1 hr2 hend K hK x9 (1 : Int32) M12 h
def P_L_law_401 (K : Int32 → lc_MM → Option Int32) (x9 x10 : Int32) (M : lc_MM) : Option Int32 :=
  lc_bd2 (P_L_isAdded x10 M) (fun r408 M13 => P_L_law_413 K x9 r408 M13)
set_option maxRecDepth 100000 in
set_option maxHeartbeats 4000000 in
theorem w_L_law_401 {S : lc_Se} {X : lc_X} {Q : State → Prop} {bS L : Nat} {xs : Nat → Int32} {c0 s0 t : Nat} (C : lc_C X cL_law RL 14 ret room_1) (hl : X.2.1.stackTraces = false) (hX : va_X bS L xs (lc_Xs X) (lc_Xs X).heap) (hbl : bS < (lc_Xs X).heap.size) (hbA : ¬ lc_A S bS) (hr1 : c0 + 3 * t + 3 ≤ 627686) (hr2 : s0 + 18 * t + 18 ≤ 7218565) (hend : ∀ (k j pc : Nat) (lo : List (Nat × Value)) (M : lc_MM), k ≤ 627686 → j ≤ 7218565 → decode cL_law pc = .ok (.ireturn, 1) → lc_J S X 14 k j Q pc lo [.int 1] M) (K : Int32 → lc_MM → Option Int32) (hK : ∀ (x9 : Int32) (M : lc_MM), K x9 M = some 1 → lc_J S X 14 (c0 + 3 * t + 3) (s0 + 18 * t + 18) Q 88 [(0, .ref bS), (1, .ref (lc_ad S 194)), (2, .ref (lc_ad S 197)), (3, .ref (lc_ad S 198)), (4, .ref (lc_ad S 199)), (5, .ref (lc_ad S 200)), (6, .ref (lc_ad S 201)), (7, .ref (lc_ad S 202)), (8, .ref (lc_ad S 203)), (9, .int x9)] [] M) (x9 x10 : Int32) (M : lc_MM) (h : P_L_law_401 K x9 x10 M = some 1) : lc_J S X 14 (c0 + 3 * t) (s0 + 18 * t) Q 401 [(0, .ref bS), (1, .ref (lc_ad S 194)), (2, .ref (lc_ad S 197)), (3, .ref (lc_ad S 198)), (4, .ref (lc_ad S 199)), (5, .ref (lc_ad S 200)), (6, .ref (lc_ad S 201)), (7, .ref (lc_ad S 202)), (8, .ref (lc_ad S 203)), (9, .int x9), (10, .int x10)] [] M := by
  rw [P_L_law_401] at h
  refine lc_aload_n C (pc' := 402) 1 dL_law_401 rfl rfl ?_
  refine lc_aload_n C (pc' := 403) 2 dL_law_402 rfl rfl ?_
  refine lc_aload_n C (pc' := 404) 3 dL_law_403 rfl rfl ?_
  refine lc_aload C (pc' := 406) 8 dL_law_404 rfl rfl ?_
  refine lc_iload C (pc' := 408) 10 dL_law_406 rfl rfl ?_
  obtain ⟨r408, M13, h408, h⟩ := lc_bd2e h
  refine lc_csiA C (pc' := 411) (r := r408) (M' := M13) (As := [.ref (lc_ad S 194), .ref (lc_ad S 197), .ref (lc_ad S 198), .ref (lc_ad S 203), .int x10]) (rest := []) (c_L_isAdded S X.2.1 hl x10 M (r408, M13) h408) kl_RL_130 rfl rfl (Nat.le_of_ble_eq_true rfl) ⟨Nat.le_of_ble_eq_true rfl, Nat.le_of_ble_eq_true rfl⟩ ⟨by show c0 + 3 * t + 3 ≤ 627686; omega, by show s0 + 18 * t + 18 ≤ 7218565; omega⟩ dL_law_408 rfl ?_
  refine lc_istore C (pc' := 413) (lo' := [(11, .int r408), (0, .ref bS), (1, .ref (lc_ad S 194)), (2, .ref (lc_ad S 197)), (3, .ref (lc_ad S 198)), (4, .ref (lc_ad S 199)), (5, .ref (lc_ad S 200)), (6, .ref (lc_ad S 201)), (7, .ref (lc_ad S 202)), (8, .ref (lc_ad S 203)), (9, .int x9), (10, .int x10)]) dL_law_411 (Nat.le_of_ble_eq_true rfl) rfl rfl ?_
  refine lc_wid (k' := c0 + 3 * t + 3) (j' := s0 + 18 * t + 18) (by show c0 + 3 * t + 3 ≤ _; omega) (by show s0 + 18 * t + 18 ≤ _; omega) ?_
  refine lc_sub (lo' := [(0, .ref bS), (1, .ref (lc_ad S 194)), (2, .ref (lc_ad S 197)), (3, .ref (lc_ad S 198)), (4, .ref (lc_ad S 199)), (5, .ref (lc_ad S 200)), (6, .ref (lc_ad S 201)), (7, .ref (lc_ad S 202)), (8, .ref (lc_ad S 203)), (9, .int x9), (11, .int r408)]) [1, 2, 3, 4, 5, 6, 7, 8, 9, 10, 0] rfl ?_
  exact w_L_law_413 C hl hX hbl hbA hr1 hr2 hend K hK x9 r408 M13 h
def P_L_law_124 (K : Int32 → lc_MM → Option Int32) (x9 x10 t0 : Int32) (M : lc_MM) : Option Int32 :=
  if t0 = (0 : Int32) then P_L_law_188 K x9 x10 M else if t0 = (1 : Int32) then P_L_law_188 K x9 x10 M else if t0 = (2 : Int32) then P_L_law_188 K x9 x10 M else if t0 = (3 : Int32) then P_L_law_188 K x9 x10 M else if t0 = (4 : Int32) then P_L_law_205 K x9 x10 M else if t0 = (5 : Int32) then P_L_law_205 K x9 x10 M else if t0 = (6 : Int32) then P_L_law_222 K x9 x10 M else if t0 = (7 : Int32) then P_L_law_237 K x9 x10 M else if t0 = (8 : Int32) then P_L_law_237 K x9 x10 M else if t0 = (9 : Int32) then P_L_law_260 K x9 x10 M else if t0 = (10 : Int32) then P_L_law_260 K x9 x10 M else if t0 = (11 : Int32) then P_L_law_300 K x9 x10 M else P_L_law_401 K x9 x10 M
set_option maxRecDepth 100000 in
set_option maxHeartbeats 4000000 in
theorem w_L_law_124 {S : lc_Se} {X : lc_X} {Q : State → Prop} {bS L : Nat} {xs : Nat → Int32} {c0 s0 t : Nat} (C : lc_C X cL_law RL 14 ret room_1) (hl : X.2.1.stackTraces = false) (hX : va_X bS L xs (lc_Xs X) (lc_Xs X).heap) (hbl : bS < (lc_Xs X).heap.size) (hbA : ¬ lc_A S bS) (hr1 : c0 + 3 * t + 3 ≤ 627686) (hr2 : s0 + 18 * t + 18 ≤ 7218565) (hend : ∀ (k j pc : Nat) (lo : List (Nat × Value)) (M : lc_MM), k ≤ 627686 → j ≤ 7218565 → decode cL_law pc = .ok (.ireturn, 1) → lc_J S X 14 k j Q pc lo [.int 1] M) (K : Int32 → lc_MM → Option Int32) (hK : ∀ (x9 : Int32) (M : lc_MM), K x9 M = some 1 → lc_J S X 14 (c0 + 3 * t + 3) (s0 + 18 * t + 18) Q 88 [(0, .ref bS), (1, .ref (lc_ad S 194)), (2, .ref (lc_ad S 197)), (3, .ref (lc_ad S 198)), (4, .ref (lc_ad S 199)), (5, .ref (lc_ad S 200)), (6, .ref (lc_ad S 201)), (7, .ref (lc_ad S 202)), (8, .ref (lc_ad S 203)), (9, .int x9)] [] M) (x9 x10 t0 : Int32) (M : lc_MM) (h : P_L_law_124 K x9 x10 t0 M = some 1) : lc_J S X 14 (c0 + 3 * t) (s0 + 18 * t) Q 124 [(0, .ref bS), (1, .ref (lc_ad S 194)), (2, .ref (lc_ad S 197)), (3, .ref (lc_ad S 198)), (4, .ref (lc_ad S 199)), (5, .ref (lc_ad S 200)), (6, .ref (lc_ad S 201)), (7, .ref (lc_ad S 202)), (8, .ref (lc_ad S 203)), (9, .int x9), (10, .int x10)] [.int t0] M := by
  rw [P_L_law_124] at h
  by_cases q0 : t0 = (0 : Int32)
  · have h := (lc_if2 h).1 q0
    refine lc_tabIn C (tgt := 188) dL_law_124 (0 : Int) (by rw [q0]; decide) (by decide) (by decide) rfl (by decide) ?_
    exact w_L_law_188 C hl hX hbl hbA hr1 hr2 hend K hK x9 x10 M h
  have h := (lc_if2 h).2 q0
  by_cases q1 : t0 = (1 : Int32)
  · have h := (lc_if2 h).1 q1
    refine lc_tabIn C (tgt := 188) dL_law_124 (1 : Int) (by rw [q1]; decide) (by decide) (by decide) rfl (by decide) ?_
    exact w_L_law_188 C hl hX hbl hbA hr1 hr2 hend K hK x9 x10 M h
  have h := (lc_if2 h).2 q1
  by_cases q2 : t0 = (2 : Int32)
  · have h := (lc_if2 h).1 q2
    refine lc_tabIn C (tgt := 188) dL_law_124 (2 : Int) (by rw [q2]; decide) (by decide) (by decide) rfl (by decide) ?_
    exact w_L_law_188 C hl hX hbl hbA hr1 hr2 hend K hK x9 x10 M h
  have h := (lc_if2 h).2 q2
  by_cases q3 : t0 = (3 : Int32)
  · have h := (lc_if2 h).1 q3
    refine lc_tabIn C (tgt := 188) dL_law_124 (3 : Int) (by rw [q3]; decide) (by decide) (by decide) rfl (by decide) ?_
    exact w_L_law_188 C hl hX hbl hbA hr1 hr2 hend K hK x9 x10 M h
  have h := (lc_if2 h).2 q3
  by_cases q4 : t0 = (4 : Int32)
  · have h := (lc_if2 h).1 q4
    refine lc_tabIn C (tgt := 205) dL_law_124 (4 : Int) (by rw [q4]; decide) (by decide) (by decide) rfl (by decide) ?_
    exact w_L_law_205 C hl hX hbl hbA hr1 hr2 hend K hK x9 x10 M h
  have h := (lc_if2 h).2 q4
  by_cases q5 : t0 = (5 : Int32)
  · have h := (lc_if2 h).1 q5
    refine lc_tabIn C (tgt := 205) dL_law_124 (5 : Int) (by rw [q5]; decide) (by decide) (by decide) rfl (by decide) ?_
    exact w_L_law_205 C hl hX hbl hbA hr1 hr2 hend K hK x9 x10 M h
  have h := (lc_if2 h).2 q5
  by_cases q6 : t0 = (6 : Int32)
  · have h := (lc_if2 h).1 q6
    refine lc_tabIn C (tgt := 222) dL_law_124 (6 : Int) (by rw [q6]; decide) (by decide) (by decide) rfl (by decide) ?_
    exact w_L_law_222 C hl hX hbl hbA hr1 hr2 hend K hK x9 x10 M h
  have h := (lc_if2 h).2 q6
  by_cases q7 : t0 = (7 : Int32)
  · have h := (lc_if2 h).1 q7
    refine lc_tabIn C (tgt := 237) dL_law_124 (7 : Int) (by rw [q7]; decide) (by decide) (by decide) rfl (by decide) ?_
    exact w_L_law_237 C hl hX hbl hbA hr1 hr2 hend K hK x9 x10 M h
  have h := (lc_if2 h).2 q7
  by_cases q8 : t0 = (8 : Int32)
  · have h := (lc_if2 h).1 q8
    refine lc_tabIn C (tgt := 237) dL_law_124 (8 : Int) (by rw [q8]; decide) (by decide) (by decide) rfl (by decide) ?_
    exact w_L_law_237 C hl hX hbl hbA hr1 hr2 hend K hK x9 x10 M h
  have h := (lc_if2 h).2 q8
  by_cases q9 : t0 = (9 : Int32)
  · have h := (lc_if2 h).1 q9
    refine lc_tabIn C (tgt := 260) dL_law_124 (9 : Int) (by rw [q9]; decide) (by decide) (by decide) rfl (by decide) ?_
    exact w_L_law_260 C hl hX hbl hbA hr1 hr2 hend K hK x9 x10 M h
  have h := (lc_if2 h).2 q9
  by_cases q10 : t0 = (10 : Int32)
  · have h := (lc_if2 h).1 q10
    refine lc_tabIn C (tgt := 260) dL_law_124 (10 : Int) (by rw [q10]; decide) (by decide) (by decide) rfl (by decide) ?_
    exact w_L_law_260 C hl hX hbl hbA hr1 hr2 hend K hK x9 x10 M h
  have h := (lc_if2 h).2 q10
  by_cases q11 : t0 = (11 : Int32)
  · have h := (lc_if2 h).1 q11
    refine lc_tabIn C (tgt := 300) dL_law_124 (11 : Int) (by rw [q11]; decide) (by decide) (by decide) rfl (by decide) ?_
    exact w_L_law_300 C hl hX hbl hbA hr1 hr2 hend K hK x9 x10 M h
  have h := (lc_if2 h).2 q11
  refine lc_tabOut C (tgt := 401) dL_law_124 (by have n0 : t0.toInt ≠ 0 := fun q => q0 (Int32.toInt_inj.mp q); have n1 : t0.toInt ≠ 1 := fun q => q1 (Int32.toInt_inj.mp q); have n2 : t0.toInt ≠ 2 := fun q => q2 (Int32.toInt_inj.mp q); have n3 : t0.toInt ≠ 3 := fun q => q3 (Int32.toInt_inj.mp q); have n4 : t0.toInt ≠ 4 := fun q => q4 (Int32.toInt_inj.mp q); have n5 : t0.toInt ≠ 5 := fun q => q5 (Int32.toInt_inj.mp q); have n6 : t0.toInt ≠ 6 := fun q => q6 (Int32.toInt_inj.mp q); have n7 : t0.toInt ≠ 7 := fun q => q7 (Int32.toInt_inj.mp q); have n8 : t0.toInt ≠ 8 := fun q => q8 (Int32.toInt_inj.mp q); have n9 : t0.toInt ≠ 9 := fun q => q9 (Int32.toInt_inj.mp q); have n10 : t0.toInt ≠ 10 := fun q => q10 (Int32.toInt_inj.mp q); have n11 : t0.toInt ≠ 11 := fun q => q11 (Int32.toInt_inj.mp q); omega) (by decide) ?_
  exact w_L_law_401 C hl hX hbl hbA hr1 hr2 hend K hK x9 x10 M h
def P_L_law_88 (L : Nat) (xs : Nat → Int32) : Nat → Int32 → lc_MM → Option Int32
  | 0, _, _ => none
  | n + 1, x9, M =>
    if (56 : Int32) ≤ x9 then some (1 : Int32) else lc_bd (P_L_cell L xs x9) (fun r98 => if (4 : Int32) ≤ x9 then lc_bd (P_L_low (r98 >>> ((26 : Int32) &&& 31)) (13 : Int32)) (fun r121 => P_L_law_124 (fun x9 M => P_L_law_88 L xs n x9 M) x9 r98 r121 M) else P_L_law_124 (fun x9 M => P_L_law_88 L xs n x9 M) x9 r98 (12 : Int32) M)
set_option maxRecDepth 100000 in
set_option maxHeartbeats 4000000 in
theorem w_L_law_88 {S : lc_Se} {X : lc_X} {Q : State → Prop} {bS L : Nat} {xs : Nat → Int32} {c0 s0 : Nat} (C : lc_C X cL_law RL 14 ret room_1) (hl : X.2.1.stackTraces = false) (hX : va_X bS L xs (lc_Xs X) (lc_Xs X).heap) (hbl : bS < (lc_Xs X).heap.size) (hbA : ¬ lc_A S bS) (hc0 : c0 + 180 ≤ 627686) (hs0 : s0 + 1080 ≤ 7218565) (hend : ∀ (k j pc : Nat) (lo : List (Nat × Value)) (M : lc_MM), k ≤ 627686 → j ≤ 7218565 → decode cL_law pc = .ok (.ireturn, 1) → lc_J S X 14 k j Q pc lo [.int 1] M) : ∀ (n t : Nat) (x9 : Int32) (M : lc_MM), P_L_law_88 L xs n x9 M = some 1 → t + n ≤ 60 → lc_J S X 14 (c0 + 3 * t) (s0 + 18 * t) Q 88 [(0, .ref bS), (1, .ref (lc_ad S 194)), (2, .ref (lc_ad S 197)), (3, .ref (lc_ad S 198)), (4, .ref (lc_ad S 199)), (5, .ref (lc_ad S 200)), (6, .ref (lc_ad S 201)), (7, .ref (lc_ad S 202)), (8, .ref (lc_ad S 203)), (9, .int x9)] [] M := by
  intro n
  induction n with
  | zero =>
    intro t x9 M h
    rw [P_L_law_88] at h
    cases h
  | succ n ih =>
    intro t x9 M h htn
    have hr1 : c0 + 3 * t + 3 ≤ 627686 := by omega
    have hr2 : s0 + 18 * t + 18 ≤ 7218565 := by omega
    have hK : ∀ (x9 : Int32) (M : lc_MM), (fun x9 M => P_L_law_88 L xs n x9 M) x9 M = some 1 → lc_J S X 14 (c0 + 3 * t + 3) (s0 + 18 * t + 18) Q 88 [(0, .ref bS), (1, .ref (lc_ad S 194)), (2, .ref (lc_ad S 197)), (3, .ref (lc_ad S 198)), (4, .ref (lc_ad S 199)), (5, .ref (lc_ad S 200)), (6, .ref (lc_ad S 201)), (7, .ref (lc_ad S 202)), (8, .ref (lc_ad S 203)), (9, .int x9)] [] M := fun x9 M h => lc_keq (by omega) (by omega) (ih (t + 1) x9 M h (by omega))
    rw [P_L_law_88] at h
    refine lc_iload C (pc' := 90) 9 dL_law_88 rfl rfl ?_
    refine lc_bipush C (pc' := 92) (v := (56 : Int32)) dL_law_90 (by decide) rfl ?_
    refine lc_icmp_ge C (pc' := 95) (tgt := 437) dL_law_92 (by decide) rfl (fun c92 => ?_) (fun c92 => ?_)
    · have h := (lc_if2 h).1 c92
      refine lc_iconst C (pc' := 438) (v := (1 : Int32)) dL_law_437 (by decide) rfl ?_
      exact hend _ _ _ _ _ (by show c0 + 3 * t ≤ 627686; omega) (by show s0 + 18 * t ≤ 7218565; omega) dL_law_438
    · have h := (lc_if2 h).2 c92
      refine lc_aload_n C (pc' := 96) 0 dL_law_95 rfl rfl ?_
      refine lc_iload C (pc' := 98) 9 dL_law_96 rfl rfl ?_
      obtain ⟨r98, h98, h⟩ := lc_bde h
      refine lc_cell C (pc' := 101) (rest := []) hX hbl hbA h98 kl_RL_108 rfl (Nat.le_of_ble_eq_true rfl) ⟨Nat.le_of_ble_eq_true rfl, Nat.le_of_ble_eq_true rfl⟩ ⟨by show c0 + 3 * t ≤ 627686; omega, by show s0 + 18 * t ≤ 7218565; omega⟩ dL_law_98 rfl ?_
      refine lc_istore C (pc' := 103) (lo' := [(10, .int r98), (0, .ref bS), (1, .ref (lc_ad S 194)), (2, .ref (lc_ad S 197)), (3, .ref (lc_ad S 198)), (4, .ref (lc_ad S 199)), (5, .ref (lc_ad S 200)), (6, .ref (lc_ad S 201)), (7, .ref (lc_ad S 202)), (8, .ref (lc_ad S 203)), (9, .int x9)]) dL_law_101 (Nat.le_of_ble_eq_true rfl) rfl rfl ?_
      refine lc_iload C (pc' := 105) 10 dL_law_103 rfl rfl ?_
      refine lc_iconst C (pc' := 106) (v := (4 : Int32)) dL_law_105 (by decide) rfl ?_
      refine lc_icmp_ge C (pc' := 109) (tgt := 114) dL_law_106 (by decide) rfl (fun c106 => ?_) (fun c106 => ?_)
      · have h := (lc_if2 h).1 c106
        refine lc_iload C (pc' := 116) 0 dL_law_114 rfl rfl ?_
        refine lc_bipush C (pc' := 118) (v := (26 : Int32)) dL_law_116 (by decide) rfl ?_
        refine lc_ishr C (pc' := 119) dL_law_118 rfl ?_
        refine lc_bipush C (pc' := 121) (v := (13 : Int32)) dL_law_119 (by decide) rfl ?_
        obtain ⟨r121, h121, h⟩ := lc_bde h
        refine lc_csi C (pc' := 124) (r := r121) (M' := M) (As := [.int (r98 >>> ((26 : Int32) &&& 31)), .int (13 : Int32)]) (rest := []) (c_L_low S X.2.1 M   (r98 >>> ((26 : Int32) &&& 31)) (13 : Int32)  r121 h121) kl_RL_83 rfl rfl (Nat.le_of_ble_eq_true rfl) ⟨Nat.le_of_ble_eq_true rfl, Nat.le_of_ble_eq_true rfl⟩ ⟨rfl, rfl⟩ ⟨by show c0 + 3 * t ≤ 627686; omega, by show s0 + 18 * t ≤ 7218565; omega⟩ dL_law_121 rfl ?_
        refine lc_sub (lo' := [(0, .ref bS), (1, .ref (lc_ad S 194)), (2, .ref (lc_ad S 197)), (3, .ref (lc_ad S 198)), (4, .ref (lc_ad S 199)), (5, .ref (lc_ad S 200)), (6, .ref (lc_ad S 201)), (7, .ref (lc_ad S 202)), (8, .ref (lc_ad S 203)), (9, .int x9), (10, .int r98)]) [1, 2, 3, 4, 5, 6, 7, 8, 9, 10, 0] rfl ?_
        exact w_L_law_124 C hl hX hbl hbA hr1 hr2 hend (fun x9 M => P_L_law_88 L xs n x9 M) hK x9 r98 r121 M h
      · have h := (lc_if2 h).2 c106
        refine lc_bipush C (pc' := 111) (v := (12 : Int32)) dL_law_109 (by decide) rfl ?_
        refine lc_goto C (tgt := 124) dL_law_111 (by decide) ?_
        refine lc_sub (lo' := [(0, .ref bS), (1, .ref (lc_ad S 194)), (2, .ref (lc_ad S 197)), (3, .ref (lc_ad S 198)), (4, .ref (lc_ad S 199)), (5, .ref (lc_ad S 200)), (6, .ref (lc_ad S 201)), (7, .ref (lc_ad S 202)), (8, .ref (lc_ad S 203)), (9, .int x9), (10, .int r98)]) [1, 2, 3, 4, 5, 6, 7, 8, 9, 10, 0] rfl ?_
        exact w_L_law_124 C hl hX hbl hbA hr1 hr2 hend (fun x9 M => P_L_law_88 L xs n x9 M) hK x9 r98 (12 : Int32) M h
def P_L_law_47 (L : Nat) (xs : Nat → Int32) (M : lc_MM) : Option Int32 :=
  lc_bd2 (P_L_draw (1 : Int32) M) (fun r51 M14 => if r51 = (2 : Int32) then lc_bd2 (P_L_pass (0 : Int32) M14) (fun r62 M15 => if r62 = (1 : Int32) then lc_bd2 (P_L_lend (0 : Int32) (1 : Int32) (1 : Int32) (1 : Int32) M15) (fun r76 M16 => if r76 = (1 : Int32) then P_L_law_88 L xs 60 (0 : Int32) M16 else some (0 : Int32)) else some (0 : Int32)) else some (0 : Int32))
set_option maxRecDepth 100000 in
set_option maxHeartbeats 4000000 in
theorem w_L_law_47 {S : lc_Se} {X : lc_X} {Q : State → Prop} {bS L : Nat} {xs : Nat → Int32} {c0 s0 : Nat} (C : lc_C X cL_law RL 14 ret room_1) (hl : X.2.1.stackTraces = false) (hX : va_X bS L xs (lc_Xs X) (lc_Xs X).heap) (hbl : bS < (lc_Xs X).heap.size) (hbA : ¬ lc_A S bS) (hc0 : c0 + 190 ≤ 627686) (hs0 : s0 + 1200 ≤ 7218565) (hend : ∀ (k j pc : Nat) (lo : List (Nat × Value)) (M : lc_MM), k ≤ 627686 → j ≤ 7218565 → decode cL_law pc = .ok (.ireturn, 1) → lc_J S X 14 k j Q pc lo [.int 1] M) (M : lc_MM) (h : P_L_law_47 L xs M = some 1) : lc_J S X 14 c0 s0 Q 47 [(0, .ref bS), (1, .ref (lc_ad S 194)), (2, .ref (lc_ad S 197)), (3, .ref (lc_ad S 198)), (4, .ref (lc_ad S 199)), (5, .ref (lc_ad S 200)), (6, .ref (lc_ad S 201)), (7, .ref (lc_ad S 202)), (8, .ref (lc_ad S 203))] [] M := by
  rw [P_L_law_47] at h
  refine lc_aload_n C (pc' := 48) 1 dL_law_47 rfl rfl ?_
  refine lc_iconst C (pc' := 49) (v := (1 : Int32)) dL_law_48 (by decide) rfl ?_
  refine lc_aload C (pc' := 51) 8 dL_law_49 rfl rfl ?_
  obtain ⟨r51, M14, h51, h⟩ := lc_bd2e h
  refine lc_csW C (pc' := 54) (r := r51) (M' := M14) (As := [.ref (lc_ad S 194), .int (1 : Int32), .ref (lc_ad S 203)]) (rest := []) (c_L_draw S X.2.1 hl (1 : Int32) M (r51, M14) h51) kw_L_draw rfl rfl (Nat.le_of_ble_eq_true rfl) ⟨Nat.le_of_ble_eq_true rfl, Nat.le_of_ble_eq_true rfl⟩ ⟨by show c0 + 1 ≤ 627686; omega, by show s0 + 6 ≤ 7218565; omega⟩ dL_law_51 rfl ?_
  refine lc_iconst C (pc' := 55) (v := (2 : Int32)) dL_law_54 (by decide) rfl ?_
  refine lc_icmp_ne C (pc' := 58) (tgt := 83) dL_law_55 (by decide) rfl (fun c55 => ?_) (fun c55 => ?_)
  · have h := (lc_if2 h).2 c55
    refine lc_iconst C (pc' := 84) (v := (0 : Int32)) dL_law_83 (by decide) rfl ?_
    exact absurd (Option.some.inj h) (by decide)
  · have h := (lc_if2 h).1 c55
    refine lc_aload_n C (pc' := 59) 1 dL_law_58 rfl rfl ?_
    refine lc_iconst C (pc' := 60) (v := (0 : Int32)) dL_law_59 (by decide) rfl ?_
    refine lc_aload C (pc' := 62) 8 dL_law_60 rfl rfl ?_
    obtain ⟨r62, M15, h62, h⟩ := lc_bd2e h
    refine lc_csW C (pc' := 65) (r := r62) (M' := M15) (As := [.ref (lc_ad S 194), .int (0 : Int32), .ref (lc_ad S 203)]) (rest := []) (c_L_pass S X.2.1 hl (0 : Int32) M14 (r62, M15) h62) kw_L_pass rfl rfl (Nat.le_of_ble_eq_true rfl) ⟨Nat.le_of_ble_eq_true rfl, Nat.le_of_ble_eq_true rfl⟩ ⟨by show c0 + 1 + 1 ≤ 627686; omega, by show s0 + 6 + 6 ≤ 7218565; omega⟩ dL_law_62 rfl ?_
    refine lc_iconst C (pc' := 66) (v := (1 : Int32)) dL_law_65 (by decide) rfl ?_
    refine lc_icmp_ne C (pc' := 69) (tgt := 83) dL_law_66 (by decide) rfl (fun c66 => ?_) (fun c66 => ?_)
    · have h := (lc_if2 h).2 c66
      refine lc_iconst C (pc' := 84) (v := (0 : Int32)) dL_law_83 (by decide) rfl ?_
      exact absurd (Option.some.inj h) (by decide)
    · have h := (lc_if2 h).1 c66
      refine lc_aload_n C (pc' := 70) 1 dL_law_69 rfl rfl ?_
      refine lc_iconst C (pc' := 71) (v := (0 : Int32)) dL_law_70 (by decide) rfl ?_
      refine lc_iconst C (pc' := 72) (v := (1 : Int32)) dL_law_71 (by decide) rfl ?_
      refine lc_iconst C (pc' := 73) (v := (1 : Int32)) dL_law_72 (by decide) rfl ?_
      refine lc_iconst C (pc' := 74) (v := (1 : Int32)) dL_law_73 (by decide) rfl ?_
      refine lc_aload C (pc' := 76) 8 dL_law_74 rfl rfl ?_
      obtain ⟨r76, M16, h76, h⟩ := lc_bd2e h
      refine lc_csW C (pc' := 79) (r := r76) (M' := M16) (As := [.ref (lc_ad S 194), .int (0 : Int32), .int (1 : Int32), .int (1 : Int32), .int (1 : Int32), .ref (lc_ad S 203)]) (rest := []) (c_L_lend S X.2.1 hl (0 : Int32) (1 : Int32) (1 : Int32) (1 : Int32) M15 (r76, M16) h76) kw_L_lend rfl rfl (Nat.le_of_ble_eq_true rfl) ⟨Nat.le_of_ble_eq_true rfl, Nat.le_of_ble_eq_true rfl⟩ ⟨by show c0 + 1 + 1 + 1 ≤ 627686; omega, by show s0 + 6 + 6 + 6 ≤ 7218565; omega⟩ dL_law_76 rfl ?_
      refine lc_iconst C (pc' := 80) (v := (1 : Int32)) dL_law_79 (by decide) rfl ?_
      refine lc_icmp_eq C (pc' := 83) (tgt := 85) dL_law_80 (by decide) rfl (fun c80 => ?_) (fun c80 => ?_)
      · have h := (lc_if2 h).1 c80
        refine lc_iconst C (pc' := 86) (v := (0 : Int32)) dL_law_85 (by decide) rfl ?_
        refine lc_istore C (pc' := 88) (lo' := [(9, .int (0 : Int32)), (0, .ref bS), (1, .ref (lc_ad S 194)), (2, .ref (lc_ad S 197)), (3, .ref (lc_ad S 198)), (4, .ref (lc_ad S 199)), (5, .ref (lc_ad S 200)), (6, .ref (lc_ad S 201)), (7, .ref (lc_ad S 202)), (8, .ref (lc_ad S 203))]) dL_law_86 (Nat.le_of_ble_eq_true rfl) rfl rfl ?_
        refine lc_sub (lo' := [(0, .ref bS), (1, .ref (lc_ad S 194)), (2, .ref (lc_ad S 197)), (3, .ref (lc_ad S 198)), (4, .ref (lc_ad S 199)), (5, .ref (lc_ad S 200)), (6, .ref (lc_ad S 201)), (7, .ref (lc_ad S 202)), (8, .ref (lc_ad S 203)), (9, .int (0 : Int32))]) [1, 2, 3, 4, 5, 6, 7, 8, 9, 0] rfl ?_
        exact lc_keq (k' := c0 + 3 + 3 * 0) (j' := s0 + 18 + 18 * 0) (by show c0 + 1 + 1 + 1 = _; omega) (by show s0 + 6 + 6 + 6 = _; omega) (w_L_law_88 (c0 := c0 + 3) (s0 := s0 + 18) C hl hX hbl hbA (by omega) (by omega) hend 60 0 (0 : Int32) M16 h (by decide))
      · have h := (lc_if2 h).2 c80
        refine lc_iconst C (pc' := 84) (v := (0 : Int32)) dL_law_83 (by decide) rfl ?_
        exact absurd (Option.some.inj h) (by decide)
