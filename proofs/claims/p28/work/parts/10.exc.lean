/-! ===== methods that throw ===== -/
def lc_B0 (S : lc_Se) (M : lc_MM) (U : State) : Prop := lc_ba S ≤ U.heap.size ∧ va_P S.1 vwCl (lc_w S M) U.heap ∧ va_K S.1 vwCl (lc_ty S) U ∧ va_D (lc_A S) (lc_w S M)
def lc_ex (e : Nat) (E : String) : Prop := (e = 1 ∧ E = lc_E1) ∨ (e = 2 ∧ E = lc_E2) ∨ (e = 3 ∧ E = lc_E3)
abbrev lc_XX (S : lc_Se) (e : Nat) (M' : lc_MM) : String → State → State → Prop := vx_X (fun (_ : Unit) => True) (fun E _ t => lc_ex e E ∧ lc_B0 S M' t) (lc_A S)
abbrev lc_XQ (S : lc_Se) (e : Nat) (r : Int32) (M' : lc_MM) : Array Value → State → Outcome → State → Prop := va_Qi (fun (x : Int32) (_ : Unit) => e = 0 ∧ x = r) (fun _ t => lc_B S M' t) (lc_A S)
def lc_MX (S : lc_Se) (l : Launch) (y : MethodName) (b : ByteArray) (mL : Nat) (ret : Option FieldType) (rm : Room) (av : List Value) (M : lc_MM) (e : Nat) (r : Int32) (M' : lc_MM) : Prop :=
  vx_Met l y (lc_ws y b mL ret) rm (va_Pc av (lc_B S M)) (lc_XQ S e r M') (lc_XX S e M') rm.cells rm.slots (lc_A S)
abbrev lc_QX (S : lc_Se) (X : lc_X) (k j : Nat) (e : Nat) (r : Int32) (M' : lc_MM) : State → Prop :=
  vx_MQ X.2.2.2.2.2.2.2.1 (lc_XQ S e r M') (lc_XX S e M') X.2.2.2.2.2.2.1 (lc_Xs X) k j (lc_A S)
theorem lc_mkX {S : lc_Se} {l : Launch} {y : MethodName} {b : ByteArray} {mL : Nat} {ret : Option FieldType} {rm : Room} {av : List Value} {M M' : lc_MM} {lo : List (Nat × Value)} {own : String} {e0 : Nat} {r : Int32} (hy : plainName y.cls = true) (hown : y.cls = own) (hlen : (lg_sl av).length ≤ mL) (hlo : lv_args 0 av = lo) (body : ∀ X : lc_X, X.2.1 = l → lc_C X b own mL ret rm → (∀ x ∈ X.2.2.2.2.2.2.2.2.2.exceptionTable.toList, False) → lc_J S X mL 0 0 (lc_QX S X rm.cells rm.slots e0 r M') 0 lo [] M) : lc_MX S l y b mL ret rm av M e0 r M' := by
  refine vx_ofW (cc := b) (maxL := mL) (ret := ret) hy rfl ?_
  intro p e s m args below meth c s₁ B hml hE hv
  obtain ⟨rfl, hB⟩ := hv
  have hts := atoms_spec (ws := lc_ws y b mL ret) B.pre
  have hl := lv_entry av hlen
  rw [lg_entry_eq]
  rw [hlo] at hl
  exact body (p, l, e, (headSpec (lc_ws y b mL ret) rm).room, s, m, av.toArray, below, meth, c) rfl ⟨B.exec, B.bytes, hml, hown ▸ findClass_of_methodNamed B.named, fun w hw => hts w (List.mem_cons_of_mem _ hw), B.notSynchronized, B.returns, rfl⟩ hE s.heap [] _ (lc_BG hB) hl
theorem lc_two {α : Type} (M : Nat → α) (a b : Nat) : va_up (va_up M a (M a)) b (M b) = M := by rw [lc_up_self, lc_up_self]
theorem lc_k19_5 {i : Int32} (h : lc_ok i 14) : 5 + i.toNatClampNeg < 19 := by have := Nat.not_le.mp (fun q => h (Or.inr q)); omega
theorem lc_k19_3 {i : Int32} (h : lc_ok i 2) : 3 + i.toNatClampNeg < 19 := by have := Nat.not_le.mp (fun q => h (Or.inr q)); omega
section LCX
variable {S : lc_Se} {X : lc_X} {cc : ByteArray} {own : String} {rt : Option FieldType} {rm : Room} {n k j : Nat} {Q : State → Prop} {pc pc' : Nat} {lo lo' : List (Nat × Value)} {st : List Value} {M M' : lc_MM}
theorem lc_xret (C : lc_C X cc own n rt rm) {r : Int32} (hrt : rt = some .int) (hk : k ≤ 1) (hj : j ≤ 6) (d : decode cc pc = .ok (.ireturn, 1)) : lc_J S X n k j (lc_QX S X 1 6 0 r M) pc lo [.int r] M := by
  refine lc_wid hk hj ?_
  have hr := C.2.2.2.2.2.2.1
  subst hrt
  exact fun H locs ls hG h => vx_ret (W.iret C.1 C.2.1 hr (fun t ht hW => ⟨⟨r, (), rfl, ⟨rfl, rfl⟩, lc_GB hG ht hW⟩, hG.2.2.2.1.F ht⟩) hG.2.2.2.1.2.2 d C.2.2.2.2.2.1)
theorem lc_thrX {H : Heap} {locs : List Loc} {e : Nat} {E : String} (hG : lc_G S M (lc_Xs X) H locs) (he : lc_ex e E) : ∀ t : State, (lc_Xs X).vm.Alike t.vm → H.size ≤ t.heap.size → (∀ q : Nat, q < H.size → t.heap[q]? = H[q]?) → lc_XX S e M E (lc_Xs X) t := by
  intro t hal hsz hkeep
  refine ⟨(), trivial, ⟨he, ?_, ?_, va_K.moved hal hG.1, hG.2.2.1⟩, Nat.le_trans hG.2.2.2.1.1 hsz, fun q h1 h2 => ?_⟩
  · exact Nat.le_trans hG.2.2.2.2.1 (Nat.le_trans hG.2.2.2.1.1 hsz)
  · exact hG.2.1.kept (fun i q hq => hkeep q.1 (hG.2.1 i q hq).lt)
  · rw [hkeep q (Nat.lt_of_lt_of_le h1 hG.2.2.2.1.1)]
    exact hG.2.2.2.1.2.1 q h1 h2

theorem lc_wf1 : ∀ w ∈ (vx_atS RX3 52 lc_E1 ["java/lang/RuntimeException", "java/lang/Exception"]).filter goodWord, w ∈ lw_tbl := by decide +kernel
theorem lc_wn1 : ∀ w ∈ (vx_atS RX3 52 lc_E1 ["java/lang/RuntimeException", "java/lang/Exception"]).filter (fun w => !goodWord w), w ∈ [Cond.castable lc_E1 lc_E1, Cond.declares lc_D1, Cond.declares lc_D2, Cond.declares lc_D3] := by decide +kernel
theorem lc_wg1 : ∀ w ∈ Cond.classLink RX3 48 lc_E1 :: Cond.initialized lc_E1 :: vx_atS RX3 52 lc_E1 ["java/lang/RuntimeException", "java/lang/Exception"], vx_ot w = true := by decide +kernel
theorem lc_wk1 : Cond.classLink RX3 48 lc_E1 ∈ lc_T := lc_in (List.mem_of_getElem? (i := 253) (by decide +kernel)) rfl
theorem lc_wi1 : Cond.initialized lc_E1 ∈ lc_T := lc_in (List.mem_of_getElem? (i := 9) (by decide +kernel)) rfl
theorem lc_thr1 (C : lc_C X cc RX3 n rt rm) (hE : ∀ x ∈ X.2.2.2.2.2.2.2.2.2.exceptionTable.toList, False) (hl : X.2.1.stackTraces = false) {is : Nat} {tx : String} (hs : (is, tx) ∈ lc_str) (d0 : decode cc pc = .ok (.new 48, 3)) (d3 : decode cc (pc + 3) = .ok (.dup, 1)) (d4 : decode cc (pc + 4) = .ok (.ldc is, 2)) (d6 : decode cc (pc + 6) = .ok (.invokespecial 52, 3)) (d9 : decode cc (pc + 9) = .ok (.athrow, 1)) (hR : 5 < rm.frames ∧ (st.map fun v => v.category).sum + 82 ≤ rm.locals ∧ rm.cells = 1 ∧ rm.slots = 6) : lc_J S X n 0 0 (lc_QX S X 1 6 1 0 M) pc lo st M := by
  have hr := C.2.2.2.2.2.2.2
  intro H locs ls hG h
  obtain ⟨sa, hsa⟩ := hG.2.2.2.2.2.2.2.1 _ hs
  exact vx_throwS (text := tx) (sa := sa) C.1 C.2.1 hl C.2.2.2.1 (by decide +kernel) (by decide +kernel) (C.2.2.2.2.1 _ lc_wk1) (C.2.2.2.2.1 _ lc_wi1) hsa
    (vx_hat (B := [Cond.castable lc_E1 lc_E1, Cond.declares lc_D1, Cond.declares lc_D2, Cond.declares lc_D3]) (fun w hw => C.2.2.2.2.1 w (lc_in (lc_wf1 w hw) (List.mem_filter.mp hw).2)) lc_wn1 (vx_c (va_Nw.use rfl hG.2.2.2.2.2.2.1.2.1.1) (vx_c (va_Nw.use rfl hG.2.2.2.2.2.2.1.1.1) (vx_c (va_Nw.use rfl hG.2.2.2.2.2.2.1.1.2.1) (vx_c (va_Nw.use rfl hG.2.2.2.2.2.2.1.1.2.2) vx_n))))) lc_wg1 hG.2.2.2.2.2.2.2.2.1 hG.2.2.2.2.2.2.2.2.2 hG.2.2.2.1 (h.1.trans C.2.2.1.symm) d0 d3 d4 d6 d9 (fun x hx => (hE x hx).elim)
    (by rw [hr]; exact hR.1) (by rw [hr]; exact hR.2.1) (by rw [hr, hR.2.2.1]; exact Nat.le_refl _) (by rw [hr, hR.2.2.2]; exact Nat.le_refl _) C.2.2.2.2.2.1
    (lc_thrX hG (Or.inl ⟨rfl, rfl⟩)) hG.2.2.2.1.2.2 (Nat.le_refl _) (Nat.le_refl _)
theorem lc_thr1W (C : lc_C X cc RX3 n rt rm) (hE : ∀ x ∈ X.2.2.2.2.2.2.2.2.2.exceptionTable.toList, False) (hl : X.2.1.stackTraces = false) {is : Nat} {tx : String} (hs : (is, tx) ∈ lc_str) (d0 : decode cc pc = .ok (.new 48, 3)) (d3 : decode cc (pc + 3) = .ok (.dup, 1)) (d4 : decode cc (pc + 4) = .ok (.ldc_w is, 3)) (d6 : decode cc (pc + 7) = .ok (.invokespecial 52, 3)) (d9 : decode cc (pc + 10) = .ok (.athrow, 1)) (hR : 5 < rm.frames ∧ (st.map fun v => v.category).sum + 82 ≤ rm.locals ∧ rm.cells = 1 ∧ rm.slots = 6) : lc_J S X n 0 0 (lc_QX S X 1 6 1 0 M) pc lo st M := by
  have hr := C.2.2.2.2.2.2.2
  intro H locs ls hG h
  obtain ⟨sa, hsa⟩ := hG.2.2.2.2.2.2.2.1 _ hs
  exact vx_throwSW (text := tx) (sa := sa) C.1 C.2.1 hl C.2.2.2.1 (by decide +kernel) (by decide +kernel) (C.2.2.2.2.1 _ lc_wk1) (C.2.2.2.2.1 _ lc_wi1) hsa
    (vx_hat (B := [Cond.castable lc_E1 lc_E1, Cond.declares lc_D1, Cond.declares lc_D2, Cond.declares lc_D3]) (fun w hw => C.2.2.2.2.1 w (lc_in (lc_wf1 w hw) (List.mem_filter.mp hw).2)) lc_wn1 (vx_c (va_Nw.use rfl hG.2.2.2.2.2.2.1.2.1.1) (vx_c (va_Nw.use rfl hG.2.2.2.2.2.2.1.1.1) (vx_c (va_Nw.use rfl hG.2.2.2.2.2.2.1.1.2.1) (vx_c (va_Nw.use rfl hG.2.2.2.2.2.2.1.1.2.2) vx_n))))) lc_wg1 hG.2.2.2.2.2.2.2.2.1 hG.2.2.2.2.2.2.2.2.2 hG.2.2.2.1 (h.1.trans C.2.2.1.symm) d0 d3 d4 d6 d9 (fun x hx => (hE x hx).elim)
    (by rw [hr]; exact hR.1) (by rw [hr]; exact hR.2.1) (by rw [hr, hR.2.2.1]; exact Nat.le_refl _) (by rw [hr, hR.2.2.2]; exact Nat.le_refl _) C.2.2.2.2.2.1
    (lc_thrX hG (Or.inl ⟨rfl, rfl⟩)) hG.2.2.2.1.2.2 (Nat.le_refl _) (Nat.le_refl _)
theorem lc_wf2 : ∀ w ∈ (vx_atS RX3 63 lc_E2 ["java/lang/RuntimeException", "java/lang/Exception"]).filter goodWord, w ∈ lw_tbl := by decide +kernel
theorem lc_wn2 : ∀ w ∈ (vx_atS RX3 63 lc_E2 ["java/lang/RuntimeException", "java/lang/Exception"]).filter (fun w => !goodWord w), w ∈ [Cond.castable lc_E2 lc_E2, Cond.declares lc_D1, Cond.declares lc_D2, Cond.declares lc_D3] := by decide +kernel
theorem lc_wg2 : ∀ w ∈ Cond.classLink RX3 59 lc_E2 :: Cond.initialized lc_E2 :: vx_atS RX3 63 lc_E2 ["java/lang/RuntimeException", "java/lang/Exception"], vx_ot w = true := by decide +kernel
theorem lc_wk2 : Cond.classLink RX3 59 lc_E2 ∈ lc_T := lc_in (List.mem_of_getElem? (i := 290) (by decide +kernel)) rfl
theorem lc_wi2 : Cond.initialized lc_E2 ∈ lc_T := lc_in (List.mem_of_getElem? (i := 11) (by decide +kernel)) rfl
theorem lc_thr2 (C : lc_C X cc RX3 n rt rm) (hE : ∀ x ∈ X.2.2.2.2.2.2.2.2.2.exceptionTable.toList, False) (hl : X.2.1.stackTraces = false) {is : Nat} {tx : String} (hs : (is, tx) ∈ lc_str) (d0 : decode cc pc = .ok (.new 59, 3)) (d3 : decode cc (pc + 3) = .ok (.dup, 1)) (d4 : decode cc (pc + 4) = .ok (.ldc is, 2)) (d6 : decode cc (pc + 6) = .ok (.invokespecial 63, 3)) (d9 : decode cc (pc + 9) = .ok (.athrow, 1)) (hR : 5 < rm.frames ∧ (st.map fun v => v.category).sum + 82 ≤ rm.locals ∧ rm.cells = 1 ∧ rm.slots = 6) : lc_J S X n 0 0 (lc_QX S X 1 6 2 0 M) pc lo st M := by
  have hr := C.2.2.2.2.2.2.2
  intro H locs ls hG h
  obtain ⟨sa, hsa⟩ := hG.2.2.2.2.2.2.2.1 _ hs
  exact vx_throwS (text := tx) (sa := sa) C.1 C.2.1 hl C.2.2.2.1 (by decide +kernel) (by decide +kernel) (C.2.2.2.2.1 _ lc_wk2) (C.2.2.2.2.1 _ lc_wi2) hsa
    (vx_hat (B := [Cond.castable lc_E2 lc_E2, Cond.declares lc_D1, Cond.declares lc_D2, Cond.declares lc_D3]) (fun w hw => C.2.2.2.2.1 w (lc_in (lc_wf2 w hw) (List.mem_filter.mp hw).2)) lc_wn2 (vx_c (va_Nw.use rfl hG.2.2.2.2.2.2.1.2.1.2.1) (vx_c (va_Nw.use rfl hG.2.2.2.2.2.2.1.1.1) (vx_c (va_Nw.use rfl hG.2.2.2.2.2.2.1.1.2.1) (vx_c (va_Nw.use rfl hG.2.2.2.2.2.2.1.1.2.2) vx_n))))) lc_wg2 hG.2.2.2.2.2.2.2.2.1 hG.2.2.2.2.2.2.2.2.2 hG.2.2.2.1 (h.1.trans C.2.2.1.symm) d0 d3 d4 d6 d9 (fun x hx => (hE x hx).elim)
    (by rw [hr]; exact hR.1) (by rw [hr]; exact hR.2.1) (by rw [hr, hR.2.2.1]; exact Nat.le_refl _) (by rw [hr, hR.2.2.2]; exact Nat.le_refl _) C.2.2.2.2.2.1
    (lc_thrX hG (Or.inr (Or.inl ⟨rfl, rfl⟩))) hG.2.2.2.1.2.2 (Nat.le_refl _) (Nat.le_refl _)
theorem lc_thr2W (C : lc_C X cc RX3 n rt rm) (hE : ∀ x ∈ X.2.2.2.2.2.2.2.2.2.exceptionTable.toList, False) (hl : X.2.1.stackTraces = false) {is : Nat} {tx : String} (hs : (is, tx) ∈ lc_str) (d0 : decode cc pc = .ok (.new 59, 3)) (d3 : decode cc (pc + 3) = .ok (.dup, 1)) (d4 : decode cc (pc + 4) = .ok (.ldc_w is, 3)) (d6 : decode cc (pc + 7) = .ok (.invokespecial 63, 3)) (d9 : decode cc (pc + 10) = .ok (.athrow, 1)) (hR : 5 < rm.frames ∧ (st.map fun v => v.category).sum + 82 ≤ rm.locals ∧ rm.cells = 1 ∧ rm.slots = 6) : lc_J S X n 0 0 (lc_QX S X 1 6 2 0 M) pc lo st M := by
  have hr := C.2.2.2.2.2.2.2
  intro H locs ls hG h
  obtain ⟨sa, hsa⟩ := hG.2.2.2.2.2.2.2.1 _ hs
  exact vx_throwSW (text := tx) (sa := sa) C.1 C.2.1 hl C.2.2.2.1 (by decide +kernel) (by decide +kernel) (C.2.2.2.2.1 _ lc_wk2) (C.2.2.2.2.1 _ lc_wi2) hsa
    (vx_hat (B := [Cond.castable lc_E2 lc_E2, Cond.declares lc_D1, Cond.declares lc_D2, Cond.declares lc_D3]) (fun w hw => C.2.2.2.2.1 w (lc_in (lc_wf2 w hw) (List.mem_filter.mp hw).2)) lc_wn2 (vx_c (va_Nw.use rfl hG.2.2.2.2.2.2.1.2.1.2.1) (vx_c (va_Nw.use rfl hG.2.2.2.2.2.2.1.1.1) (vx_c (va_Nw.use rfl hG.2.2.2.2.2.2.1.1.2.1) (vx_c (va_Nw.use rfl hG.2.2.2.2.2.2.1.1.2.2) vx_n))))) lc_wg2 hG.2.2.2.2.2.2.2.2.1 hG.2.2.2.2.2.2.2.2.2 hG.2.2.2.1 (h.1.trans C.2.2.1.symm) d0 d3 d4 d6 d9 (fun x hx => (hE x hx).elim)
    (by rw [hr]; exact hR.1) (by rw [hr]; exact hR.2.1) (by rw [hr, hR.2.2.1]; exact Nat.le_refl _) (by rw [hr, hR.2.2.2]; exact Nat.le_refl _) C.2.2.2.2.2.1
    (lc_thrX hG (Or.inr (Or.inl ⟨rfl, rfl⟩))) hG.2.2.2.1.2.2 (Nat.le_refl _) (Nat.le_refl _)
theorem lc_wf3 : ∀ w ∈ (vx_atS RX3 125 lc_E3 ["java/lang/RuntimeException", "java/lang/Exception"]).filter goodWord, w ∈ lw_tbl := by decide +kernel
theorem lc_wn3 : ∀ w ∈ (vx_atS RX3 125 lc_E3 ["java/lang/RuntimeException", "java/lang/Exception"]).filter (fun w => !goodWord w), w ∈ [Cond.castable lc_E3 lc_E3, Cond.declares lc_D1, Cond.declares lc_D2, Cond.declares lc_D3] := by decide +kernel
theorem lc_wg3 : ∀ w ∈ Cond.classLink RX3 121 lc_E3 :: Cond.initialized lc_E3 :: vx_atS RX3 125 lc_E3 ["java/lang/RuntimeException", "java/lang/Exception"], vx_ot w = true := by decide +kernel
theorem lc_wk3 : Cond.classLink RX3 121 lc_E3 ∈ lc_T := lc_in (List.mem_of_getElem? (i := 179) (by decide +kernel)) rfl
theorem lc_wi3 : Cond.initialized lc_E3 ∈ lc_T := lc_in (List.mem_of_getElem? (i := 13) (by decide +kernel)) rfl
theorem lc_thr3 (C : lc_C X cc RX3 n rt rm) (hE : ∀ x ∈ X.2.2.2.2.2.2.2.2.2.exceptionTable.toList, False) (hl : X.2.1.stackTraces = false) {is : Nat} {tx : String} (hs : (is, tx) ∈ lc_str) (d0 : decode cc pc = .ok (.new 121, 3)) (d3 : decode cc (pc + 3) = .ok (.dup, 1)) (d4 : decode cc (pc + 4) = .ok (.ldc is, 2)) (d6 : decode cc (pc + 6) = .ok (.invokespecial 125, 3)) (d9 : decode cc (pc + 9) = .ok (.athrow, 1)) (hR : 5 < rm.frames ∧ (st.map fun v => v.category).sum + 82 ≤ rm.locals ∧ rm.cells = 1 ∧ rm.slots = 6) : lc_J S X n 0 0 (lc_QX S X 1 6 3 0 M) pc lo st M := by
  have hr := C.2.2.2.2.2.2.2
  intro H locs ls hG h
  obtain ⟨sa, hsa⟩ := hG.2.2.2.2.2.2.2.1 _ hs
  exact vx_throwS (text := tx) (sa := sa) C.1 C.2.1 hl C.2.2.2.1 (by decide +kernel) (by decide +kernel) (C.2.2.2.2.1 _ lc_wk3) (C.2.2.2.2.1 _ lc_wi3) hsa
    (vx_hat (B := [Cond.castable lc_E3 lc_E3, Cond.declares lc_D1, Cond.declares lc_D2, Cond.declares lc_D3]) (fun w hw => C.2.2.2.2.1 w (lc_in (lc_wf3 w hw) (List.mem_filter.mp hw).2)) lc_wn3 (vx_c (va_Nw.use rfl hG.2.2.2.2.2.2.1.2.1.2.2) (vx_c (va_Nw.use rfl hG.2.2.2.2.2.2.1.1.1) (vx_c (va_Nw.use rfl hG.2.2.2.2.2.2.1.1.2.1) (vx_c (va_Nw.use rfl hG.2.2.2.2.2.2.1.1.2.2) vx_n))))) lc_wg3 hG.2.2.2.2.2.2.2.2.1 hG.2.2.2.2.2.2.2.2.2 hG.2.2.2.1 (h.1.trans C.2.2.1.symm) d0 d3 d4 d6 d9 (fun x hx => (hE x hx).elim)
    (by rw [hr]; exact hR.1) (by rw [hr]; exact hR.2.1) (by rw [hr, hR.2.2.1]; exact Nat.le_refl _) (by rw [hr, hR.2.2.2]; exact Nat.le_refl _) C.2.2.2.2.2.1
    (lc_thrX hG (Or.inr (Or.inr ⟨rfl, rfl⟩))) hG.2.2.2.1.2.2 (Nat.le_refl _) (Nat.le_refl _)
theorem lc_thr3W (C : lc_C X cc RX3 n rt rm) (hE : ∀ x ∈ X.2.2.2.2.2.2.2.2.2.exceptionTable.toList, False) (hl : X.2.1.stackTraces = false) {is : Nat} {tx : String} (hs : (is, tx) ∈ lc_str) (d0 : decode cc pc = .ok (.new 121, 3)) (d3 : decode cc (pc + 3) = .ok (.dup, 1)) (d4 : decode cc (pc + 4) = .ok (.ldc_w is, 3)) (d6 : decode cc (pc + 7) = .ok (.invokespecial 125, 3)) (d9 : decode cc (pc + 10) = .ok (.athrow, 1)) (hR : 5 < rm.frames ∧ (st.map fun v => v.category).sum + 82 ≤ rm.locals ∧ rm.cells = 1 ∧ rm.slots = 6) : lc_J S X n 0 0 (lc_QX S X 1 6 3 0 M) pc lo st M := by
  have hr := C.2.2.2.2.2.2.2
  intro H locs ls hG h
  obtain ⟨sa, hsa⟩ := hG.2.2.2.2.2.2.2.1 _ hs
  exact vx_throwSW (text := tx) (sa := sa) C.1 C.2.1 hl C.2.2.2.1 (by decide +kernel) (by decide +kernel) (C.2.2.2.2.1 _ lc_wk3) (C.2.2.2.2.1 _ lc_wi3) hsa
    (vx_hat (B := [Cond.castable lc_E3 lc_E3, Cond.declares lc_D1, Cond.declares lc_D2, Cond.declares lc_D3]) (fun w hw => C.2.2.2.2.1 w (lc_in (lc_wf3 w hw) (List.mem_filter.mp hw).2)) lc_wn3 (vx_c (va_Nw.use rfl hG.2.2.2.2.2.2.1.2.1.2.2) (vx_c (va_Nw.use rfl hG.2.2.2.2.2.2.1.1.1) (vx_c (va_Nw.use rfl hG.2.2.2.2.2.2.1.1.2.1) (vx_c (va_Nw.use rfl hG.2.2.2.2.2.2.1.1.2.2) vx_n))))) lc_wg3 hG.2.2.2.2.2.2.2.2.1 hG.2.2.2.2.2.2.2.2.2 hG.2.2.2.1 (h.1.trans C.2.2.1.symm) d0 d3 d4 d6 d9 (fun x hx => (hE x hx).elim)
    (by rw [hr]; exact hR.1) (by rw [hr]; exact hR.2.1) (by rw [hr, hR.2.2.1]; exact Nat.le_refl _) (by rw [hr, hR.2.2.2]; exact Nat.le_refl _) C.2.2.2.2.2.1
    (lc_thrX hG (Or.inr (Or.inr ⟨rfl, rfl⟩))) hG.2.2.2.1.2.2 (Nat.le_refl _) (Nat.le_refl _)
end LCX
theorem lc_s123 : (123, "no such cell") ∈ lc_str := by decide +kernel
theorem lc_s198 : (198, "the same cell twice, or a number out of its range") ∈ lc_str := by decide +kernel
theorem lc_s203 : (203, "the loan is not possible") ∈ lc_str := by decide +kernel
theorem lc_s221 : (221, "no leak from 0 to 3") ∈ lc_str := by decide +kernel
theorem lc_s209 : (209, "no number from 1 to 99") ∈ lc_str := by decide +kernel
theorem lc_s229 : (229, "nothing can be drawn") ∈ lc_str := by decide +kernel
theorem lc_s231 : (231, "no number of rounds from 1 to 50") ∈ lc_str := by decide +kernel
theorem lc_s152 : (152, "no number from 0 to 7") ∈ lc_str := by decide +kernel
theorem lc_s157 : (157, "no such loan") ∈ lc_str := by decide +kernel
theorem lc_s177 : (177, "no number from 0 to 5") ∈ lc_str := by decide +kernel
theorem lc_s115 : (115, "no number from 0 to 9") ∈ lc_str := by decide +kernel
theorem lc_s184 : (184, "a number of the cell is out of its range") ∈ lc_str := by decide +kernel
theorem lc_s186 : (186, "there are 8 cells") ∈ lc_str := by decide +kernel
theorem lc_s215 : (215, "the repayment is not possible") ∈ lc_str := by decide +kernel
