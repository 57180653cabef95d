/-! ===== constructors: the world is a list that grows ===== -/
def lw_G (S : lc_Se) (V : va_W) (s : State) (H : Heap) (locs : List Loc) : Prop :=
  va_K S.1 vwCl (lc_ty S) s ∧ va_P S.1 vwCl V H ∧ va_D (lc_A S) V ∧ va_S (lc_A S) s.heap H locs ∧ lc_ba S ≤ s.heap.size ∧ lc_N S s ∧ va_AO RX0 s
def lw_B (S : lc_Se) (V : va_W) (U : State) : Prop :=
  lc_ba S ≤ U.heap.size ∧ va_P S.1 vwCl V U.heap ∧ va_K S.1 vwCl (lc_ty S) U ∧ va_D (lc_A S) V ∧ lc_N S U ∧ va_AO RX0 U
def lw_J (S : lc_Se) (X : lc_X) (n k j : Nat) (Q : State → Prop) (pc : Nat) (lo : List (Nat × Value)) (st : List Value) (V : va_W) : Prop :=
  ∀ (H : Heap) (locs : List Loc) (ls : Array Slot), lw_G S V (lc_Xs X) H locs → lv_has ls n lo → W X.1 X.2.1 X.2.2.1 (lc_Xr X) (lc_Xs X) X.2.2.2.2.2.1 X.2.2.2.2.2.2.1 X.2.2.2.2.2.2.2.1 X.2.2.2.2.2.2.2.2.1 X.2.2.2.2.2.2.2.2.2 H locs k j Q (F0 X.2.2.2.2.2.1 pc ls st)
/-- a constructor: the world V becomes V' of some u -/
def lw_MV {T : Type} (S : lc_Se) (l : Launch) (y : MethodName) (b : ByteArray) (mL : Nat) (ret : Option FieldType) (rm : Room) (av : List Value) (V : va_W) (V' : T → va_W) : Prop :=
  Met l y (lc_ws y b mL ret) rm (va_Pc av (lw_B S V)) (va_Qv (fun (_ : T) => True) (fun u t => lw_B S (V' u) t) (lc_A S)) rm.cells rm.slots (lc_A S)
abbrev lw_QV {T : Type} (S : lc_Se) (X : lc_X) (k j : Nat) (V' : T → va_W) : State → Prop :=
  MQ X.2.2.2.2.2.2.2.1 (va_Qv (fun (_ : T) => True) (fun u t => lw_B S (V' u) t) (lc_A S)) X.2.2.2.2.2.2.1 (lc_Xs X) k j (lc_A S)
theorem lw_GB {S : lc_Se} {V : va_W} {s t : State} {H : Heap} {locs : List Loc} (hG : lw_G S V s H locs) (ht : t.heap = H) (hW : s.WarmedH t.vm) : lw_B S V t := by
  refine ⟨?_, ?_, va_K.moved hW.alike hG.1, hG.2.2.1, lc_N.warm hW (fun a h1 h2 => by rw [ht]; exact hG.2.2.2.1.2.1 a h1 h2) hG.2.2.2.2.2.1, va_AO.moved hW.alike hG.2.2.2.2.2.2⟩
  · rw [ht]; exact Nat.le_trans hG.2.2.2.2.1 hG.2.2.2.1.1
  · rw [ht]; exact hG.2.1
theorem lw_BG {S : lc_Se} {V : va_W} {s : State} (h : lw_B S V s) : lw_G S V s s.heap [] := ⟨h.2.2.1, h.2.1, h.2.2.2.1, va_S.rf, h.1, h.2.2.2.2.1, h.2.2.2.2.2⟩
theorem lw_blind (S : lc_Se) (V : va_W) (av : List Value) : FrameBlind (va_Pc av (lw_B S V)) := fun a U g mk q => ⟨q.1, q.2.1, q.2.2.1, va_K.moved (u := U) (U := U.calling g mk a) (Vm.Alike.refl U.vm) q.2.2.2.1, q.2.2.2.2.1, lc_N.same (s := U) (U := U.calling g mk a) rfl rfl q.2.2.2.2.2.1, va_AO.moved (u := U) (U := U.calling g mk a) (Vm.Alike.refl U.vm) q.2.2.2.2.2.2⟩
theorem lw_back {S : lc_Se} {V' : va_W} {s t : State} {H1 : Heap} {locs1 : List Loc} (hb : lc_ba S ≤ s.heap.size ∧ lc_N S s ∧ va_AO RX0 s) (ht : t.heap = H1) (hvm : s.vm.Alike t.vm) (hB : lw_B S V' t) (hS : va_S (lc_A S) s.heap H1 locs1) : lw_G S V' s H1 locs1 :=
  ⟨va_K.moved hvm.symm hB.2.2.1, ht ▸ hB.2.1, hB.2.2.2.1, hS, hb⟩
theorem lw_mkV {T : Type} {S : lc_Se} {l : Launch} {y : MethodName} {b : ByteArray} {mL : Nat} {ret : Option FieldType} {rm : Room} {av : List Value} {V : va_W} {V' : T → va_W} {lo : List (Nat × Value)} {own : String} (hy : plainName y.cls = true) (hown : y.cls = own) (hlen : (lg_sl av).length ≤ mL) (hlo : lv_args 0 av = lo) (body : ∀ X : lc_X, lc_C X b own mL ret rm → X.2.2.2.2.2.2.2.2.1.name = y.name → lw_J S X mL 0 0 (lw_QV S X rm.cells rm.slots V') 0 lo [] V) : lw_MV S l y b mL ret rm av V V' := by
  refine Met.ofW (cc := b) (maxL := mL) (ret := ret) hy rfl ?_
  intro p e s m args below meth c s₁ B hml hv
  obtain ⟨rfl, hB⟩ := hv
  have hts := atoms_spec (ws := lc_ws y b mL ret) B.pre
  have hl := lv_entry av hlen
  rw [lg_entry_eq]
  rw [hlo] at hl
  exact body (p, l, e, (headSpec (lc_ws y b mL ret) rm).room, s, m, av.toArray, below, meth, c) ⟨B.exec, B.bytes, hml, hown ▸ findClass_of_methodNamed B.named, fun w hw => hts w (List.mem_cons_of_mem _ hw), B.notSynchronized, B.returns, rfl⟩ (name_of_methodNamed B.named B.method).1 s.heap [] _ (lw_BG hB) hl
theorem lw_pos0 {α : Type} (V : List α) (x : α) (R : List α) : (V ++ (x :: R))[V.length]? = some x := by simp
theorem lw_pos {α : Type} (V R : List α) (i : Nat) : (V ++ R)[V.length + i]? = R[i]? := by
  rw [List.getElem?_append_right (by omega), Nat.add_sub_cancel_left]
theorem lw_set {α : Type} (V R : List α) (i : Nat) (y : α) : (V ++ R).set (V.length + i) y = V ++ R.set i y := by
  rw [List.set_append_right _ _ (by omega)]
  simp
section LWJ
variable {S : lc_Se} {X : lc_X} {cc : ByteArray} {own : String} {rt : Option FieldType} {rm : Room} {n k j : Nat} {Q : State → Prop} {pc pc' : Nat} {lo lo' : List (Nat × Value)} {st : List Value} {V V' : va_W}
theorem lw_meq (h : V = V') (kk : lw_J S X n k j Q pc lo st V') : lw_J S X n k j Q pc lo st V := h ▸ kk
theorem lw_wid {k' j' : Nat} (h1 : k ≤ k') (h2 : j ≤ j') (kk : lw_J S X n k' j' Q pc lo st V) : lw_J S X n k j Q pc lo st V := fun H locs ls hG h => W.widen h1 h2 (kk H locs ls hG h)
theorem lw_sub (ks : List Nat) (hl : lv_pick lo ks = lo') (kk : lw_J S X n k j Q pc lo' st V) : lw_J S X n k j Q pc lo st V := fun H locs ls hG h => kk H locs ls hG (lv_sub h ks hl)
theorem lw_iconst (C : lc_C X cc own n rt rm) {z : Int} {v : Int32} (d : decode cc pc = .ok (.iconst z, 1)) (hv : Int32.ofInt z = v) (hq : pc + 1 = pc') (kk : lw_J S X n k j Q pc' lo (.int v :: st) V) : lw_J S X n k j Q pc lo (st) V := by
  subst hq
  exact fun H locs ls hG h => lv_iconst C.1 C.2.1 d hv (kk H locs ls hG h)
theorem lw_bipush (C : lc_C X cc own n rt rm) {z : Int} {v : Int32} (d : decode cc pc = .ok (.bipush z, 2)) (hv : (Int8.ofInt z).toInt32 = v) (hq : pc + 2 = pc') (kk : lw_J S X n k j Q pc' lo (.int v :: st) V) : lw_J S X n k j Q pc lo (st) V := by
  subst hq
  exact fun H locs ls hG h => lv_bipush C.1 C.2.1 d hv (kk H locs ls hG h)
theorem lw_sipush (C : lc_C X cc own n rt rm) {z : Int} {v : Int32} (d : decode cc pc = .ok (.sipush z, 3)) (hv : (Int16.ofInt z).toInt32 = v) (hq : pc + 3 = pc') (kk : lw_J S X n k j Q pc' lo (.int v :: st) V) : lw_J S X n k j Q pc lo (st) V := by
  subst hq
  exact fun H locs ls hG h => lv_sipush C.1 C.2.1 d hv (kk H locs ls hG h)
theorem lw_aload_n (C : lc_C X cc own n rt rm) {z : Fin 4} {v : Nat} (q : Nat) (d : decode cc pc = .ok (.aload_n z, 1)) (hv : lo[q]? = some ((z : Nat), .ref v)) (hq : pc + 1 = pc') (kk : lw_J S X n k j Q pc' lo (.ref v :: st) V) : lw_J S X n k j Q pc lo (st) V := by
  subst hq
  exact fun H locs ls hG h => lv_aload_n C.1 C.2.1 d rfl (lv_at h q hv) (kk H locs ls hG h)
theorem lw_iload_n (C : lc_C X cc own n rt rm) {z : Fin 4} {v : Int32} (q : Nat) (d : decode cc pc = .ok (.iload_n z, 1)) (hv : lo[q]? = some ((z : Nat), .int v)) (hq : pc + 1 = pc') (kk : lw_J S X n k j Q pc' lo (.int v :: st) V) : lw_J S X n k j Q pc lo (st) V := by
  subst hq
  exact fun H locs ls hG h => lv_iload_n C.1 C.2.1 d rfl (lv_at h q hv) (kk H locs ls hG h)
theorem lw_dup (C : lc_C X cc own n rt rm) {v : Value} (d : decode cc pc = .ok (.dup, 1)) (hc : v.category = 1) (hq : pc + 1 = pc') (kk : lw_J S X n k j Q pc' lo (v :: v :: st) V) : lw_J S X n k j Q pc lo (v :: st) V := by
  subst hq
  exact fun H locs ls hG h => lv_dup C.1 C.2.1 d hc (kk H locs ls hG h)
theorem lw_istore_n (C : lc_C X cc own n rt rm) {z : Fin 4} {v : Int32} (d : decode cc pc = .ok (.istore_n z, 1)) (hn : (z : Nat) < n) (hl : ((z : Nat), Value.int v) :: lo.filter (fun q => !(q.1 == (z : Nat)) && !(q.1 + 1 == (z : Nat) && q.2.category == 2)) = lo') (hq : pc + 1 = pc') (kk : lw_J S X n k j Q pc' lo' st V) : lw_J S X n k j Q pc lo (.int v :: st) V := by
  subst hq
  exact fun H locs ls hG h => lv_istore_n C.1 C.2.1 d rfl h hn hl (fun ls' h' => kk H locs ls' hG h')
theorem lw_astore_n (C : lc_C X cc own n rt rm) {z : Fin 4} {v : Nat} (d : decode cc pc = .ok (.astore_n z, 1)) (hn : (z : Nat) < n) (hl : ((z : Nat), Value.ref v) :: lo.filter (fun q => !(q.1 == (z : Nat)) && !(q.1 + 1 == (z : Nat) && q.2.category == 2)) = lo') (hq : pc + 1 = pc') (kk : lw_J S X n k j Q pc' lo' st V) : lw_J S X n k j Q pc lo (.ref v :: st) V := by
  subst hq
  exact fun H locs ls hG h => lv_astore_n C.1 C.2.1 d rfl h hn hl (fun ls' h' => kk H locs ls' hG h')
theorem lw_astore (C : lc_C X cc own n rt rm) {z : Nat} {v : Nat} (d : decode cc pc = .ok (.astore z, 2)) (hn : z < n) (hl : (z, Value.ref v) :: lo.filter (fun q => !(q.1 == z) && !(q.1 + 1 == z && q.2.category == 2)) = lo') (hq : pc + 2 = pc') (kk : lw_J S X n k j Q pc' lo' st V) : lw_J S X n k j Q pc lo (.ref v :: st) V := by
  subst hq
  exact fun H locs ls hG h => lv_astore C.1 C.2.1 d h hn hl (fun ls' h' => kk H locs ls' hG h')
theorem lw_istore (C : lc_C X cc own n rt rm) {z : Nat} {v : Int32} (d : decode cc pc = .ok (.istore z, 2)) (hn : z < n) (hl : (z, Value.int v) :: lo.filter (fun q => !(q.1 == z) && !(q.1 + 1 == z && q.2.category == 2)) = lo') (hq : pc + 2 = pc') (kk : lw_J S X n k j Q pc' lo' st V) : lw_J S X n k j Q pc lo (.int v :: st) V := by
  subst hq
  exact fun H locs ls hG h => lv_istore C.1 C.2.1 d h hn hl (fun ls' h' => kk H locs ls' hG h')
theorem lw_iinc (C : lc_C X cc own n rt rm) {i q : Nat} {z : Int} {x v : Int32} (d : decode cc pc = .ok (.iinc i z, 3)) (hk : lo[q]? = some (i, .int x)) (hv : x + Int32.ofInt z = v) (hn : i < n) (hl : (i, Value.int v) :: lo.filter (fun q => !(q.1 == i) && !(q.1 + 1 == i && q.2.category == 2)) = lo') (hq : pc + 3 = pc') (kk : lw_J S X n k j Q pc' lo' st V) : lw_J S X n k j Q pc lo st V := by
  subst hq
  exact fun H locs ls hG h => lv_iinc C.1 C.2.1 d h hk hv hn hl (fun ls' h' => kk H locs ls' hG h')
theorem lw_icmp_ge (C : lc_C X cc own n rt rm) {x y : Int32} {off : Int} {tgt : Nat} (d : decode cc pc = .ok (.if_icmp .ge off, 3)) (ht : (pc : Int) + off = (tgt : Int)) (hq : pc + 3 = pc') (kt : y ≤ x → lw_J S X n k j Q tgt lo st V) (kf : ¬ y ≤ x → lw_J S X n k j Q pc' lo st V) : lw_J S X n k j Q pc lo (.int y :: .int x :: st) V := by
  subst hq
  exact fun H locs ls hG h => lv_icmp_ge C.1 C.2.1 d ht (fun z => kt z H locs ls hG h) (fun z => kf z H locs ls hG h)
theorem lw_goto (C : lc_C X cc own n rt rm) {off : Int} {tgt : Nat} (d : decode cc pc = .ok (.goto off, 3)) (ht : (pc : Int) + off = (tgt : Int)) (kk : lw_J S X n k j Q tgt lo st V) : lw_J S X n k j Q pc lo st V := fun H locs ls hG h => lv_goto C.1 C.2.1 d ht (kk H locs ls hG h)
theorem lw_vret {T : Type} {V' : T → va_W} (C : lc_C X cc own n rt rm) (u : T) (hV : V = V' u) (hrt : rt = none) (d : decode cc pc = .ok (.return_, 1)) : lw_J S X n k j (lw_QV S X k j V') pc lo [] V := by
  have hr := C.2.2.2.2.2.2.1
  subst hrt
  subst hV
  exact fun H locs ls hG h => W.vret C.1 C.2.1 hr (fun t ht hW => ⟨⟨u, rfl, trivial, lw_GB hG ht hW⟩, hG.2.2.2.1.F ht⟩) hG.2.2.2.1.2.2 d C.2.2.2.2.2.1
theorem lw_hA (hG : lc_ba S ≤ (lc_Xs X).heap.size) : ∀ q, (lc_Xs X).heap.size ≤ q → lc_A S q := fun _ h => Nat.le_trans hG h
theorem lw_cA {t : Nat} {cA : ClassId} {ty : FieldType} {s : State} (hK : va_K S.1 vwCl (lc_ty S ++ [(cA, ty)]) s) {cB : ClassId} (h : (lc_ty S)[t]? = some (cB, ty)) : cA = cB := by
  have h1 := (hK.2 4 (cA, ty) (by rfl)).2
  have h2 := (hK.2 t (cB, ty) (by rw [List.getElem?_append_left (List.getElem?_eq_some_iff.mp h).1]; exact h)).2
  cases ty with
  | object C =>
    obtain ⟨-, -, -, -, -, a⟩ := h1
    obtain ⟨-, -, -, -, -, b⟩ := h2
    exact Option.some.inj (a.symm.trans b)
  | _ => exact Option.some.inj (h1.symm.trans h2)
theorem lw_objInit (C : lc_C X cc own n rt rm) {ix a : Nat} (hl : Cond.methodLink own ix Lib.objectInit ∈ lc_T) (hw : Cond.instanceMethod Lib.objectInit ∈ lc_T ∧ Cond.code Lib.objectInit ⟨#[0xb1]⟩ 1 none ∈ lc_T) (hf : 1 ≤ rm.frames) (hlo : (st.map fun v => v.category).sum + 12 ≤ rm.locals) (d : decode cc pc = .ok (.invokespecial ix, 3)) (hq : pc + 3 = pc') (kk : lw_J S X n k j Q pc' lo st V) : lw_J S X n k j Q pc lo (.ref a :: st) V := by
  subst hq
  have hr := C.2.2.2.2.2.2.2
  exact fun H locs ls hG h => W.objInit C.1 C.2.1 C.2.2.2.1 (C.2.2.2.2.1 _ hl) (C.2.2.2.2.1 _ hw.1) (C.2.2.2.2.1 _ hw.2) rfl (h.1.trans C.2.2.1.symm) rfl d (by rw [hr]; exact hf) (by rw [hr]; show 2 * 0 + _ + 12 ≤ _; omega) (kk H locs ls hG h)
theorem lw_newi (C : lc_C X cc own n rt rm) {z : Int32} (N : Nat) (ha : Cond.arrayClass .int ∈ lc_T) (hz : ¬ z < 0) (hN : z.toNatClampNeg = N) (hb : N * componentBytes .int ≤ 536870912) (hcs : k + 1 ≤ rm.cells ∧ j + N ≤ rm.slots) (d : decode cc pc = .ok (.newarray .int, 2)) (hq : pc + 2 = pc') (kk : ∀ q : Nat, lw_J S X n (k + 1) (j + N) Q pc' lo (.ref q :: st) (V ++ [(q, .inl (lc_cl S 1, N, .inl (fun _ => 0)))])) : lw_J S X n k j Q pc lo (.int z :: st) V := by
  subst hq
  have hr := C.2.2.2.2.2.2.2
  refine fun H locs ls hG h => va_newa (atype := .int) C.1 C.2.1 (C.2.2.2.2.1 _ ha) (ty := .int) rfl hG.1 hG.2.1 hG.2.2.1 hG.2.2.2.1 (lw_hA hG.2.2.2.2.1) (N' := N) (a0 := (N, .inl (fun _ => 0))) (fun _ => rfl) hz hN hb (by rw [hr]; exact hcs.1) (by rw [hr]; exact hcs.2) d (fun q cA H1 K1 P1 D1 S1 => ?_)
  have e : cA = lc_cl S 1 := lw_cA K1 (t := 1) rfl
  subst e
  exact kk q H1 locs ls ⟨hG.1, P1, D1, S1, hG.2.2.2.2⟩ h
theorem lw_newc (C : lc_C X cc own n rt rm) {z : Int32} (N : Nat) (ha : Cond.arrayClass .char ∈ lc_T) (hz : ¬ z < 0) (hN : z.toNatClampNeg = N) (hb : N * componentBytes .char ≤ 536870912) (hcs : k + 1 ≤ rm.cells ∧ j + N ≤ rm.slots) (d : decode cc pc = .ok (.newarray .char, 2)) (hq : pc + 2 = pc') (kk : ∀ q : Nat, lw_J S X n (k + 1) (j + N) Q pc' lo (.ref q :: st) (V ++ [(q, .inl (lc_cl S 0, N, .inl (fun _ => 0)))])) : lw_J S X n k j Q pc lo (.int z :: st) V := by
  subst hq
  have hr := C.2.2.2.2.2.2.2
  refine fun H locs ls hG h => va_newa (atype := .char) C.1 C.2.1 (C.2.2.2.2.1 _ ha) (ty := .char) rfl hG.1 hG.2.1 hG.2.2.1 hG.2.2.2.1 (lw_hA hG.2.2.2.2.1) (N' := N) (a0 := (N, .inl (fun _ => 0))) (fun _ => rfl) hz hN hb (by rw [hr]; exact hcs.1) (by rw [hr]; exact hcs.2) d (fun q cA H1 K1 P1 D1 S1 => ?_)
  have e : cA = lc_cl S 0 := lw_cA K1 (t := 0) rfl
  subst e
  exact kk q H1 locs ls ⟨hG.1, P1, D1, S1, hG.2.2.2.2⟩ h
theorem lw_newz (C : lc_C X cc own n rt rm) {z : Int32} (N : Nat) (ha : Cond.arrayClass .boolean ∈ lc_T) (hz : ¬ z < 0) (hN : z.toNatClampNeg = N) (hb : N * componentBytes .boolean ≤ 536870912) (hcs : k + 1 ≤ rm.cells ∧ j + N ≤ rm.slots) (d : decode cc pc = .ok (.newarray .boolean, 2)) (hq : pc + 2 = pc') (kk : ∀ q : Nat, lw_J S X n (k + 1) (j + N) Q pc' lo (.ref q :: st) (V ++ [(q, .inl (lc_cl S 2, N, .inl (fun _ => 0)))])) : lw_J S X n k j Q pc lo (.int z :: st) V := by
  subst hq
  have hr := C.2.2.2.2.2.2.2
  refine fun H locs ls hG h => va_newa (atype := .boolean) C.1 C.2.1 (C.2.2.2.2.1 _ ha) (ty := .boolean) rfl hG.1 hG.2.1 hG.2.2.1 hG.2.2.2.1 (lw_hA hG.2.2.2.2.1) (N' := N) (a0 := (N, .inl (fun _ => 0))) (fun _ => rfl) hz hN hb (by rw [hr]; exact hcs.1) (by rw [hr]; exact hcs.2) d (fun q cA H1 K1 P1 D1 S1 => ?_)
  have e : cA = lc_cl S 2 := lw_cA K1 (t := 2) rfl
  subst e
  exact kk q H1 locs ls ⟨hG.1, P1, D1, S1, hG.2.2.2.2⟩ h
theorem lw_newq (C : lc_C X cc own n rt rm) {ix : Nat} {z : Int32} (N : Nat) (ha : Cond.classLink own ix RX0 ∈ lc_T) (hz : ¬ z < 0) (hN : z.toNatClampNeg = N) (hb : N * 4 ≤ 536870912) (hcs : k + 1 ≤ rm.cells ∧ j + N ≤ rm.slots) (d : decode cc pc = .ok (.anewarray ix, 3)) (hq : pc + 3 = pc') (kk : ∀ q : Nat, lw_J S X n (k + 1) (j + N) Q pc' lo (.ref q :: st) (V ++ [(q, .inl (lc_cl S 3, N, .inr (.inr (.inr (.inr (fun _ => none))))))])) : lw_J S X n k j Q pc lo (.int z :: st) V := by
  subst hq
  have hr := C.2.2.2.2.2.2.2
  refine fun H locs ls hG h => va_newq C.1 C.2.1 C.2.2.2.1 (C.2.2.2.2.1 _ ha) hG.2.2.2.2.2.2 hG.1 hG.2.1 hG.2.2.1 hG.2.2.2.1 (lw_hA hG.2.2.2.2.1) (N' := N) hz hN hb (by rw [hr]; exact hcs.1) (by rw [hr]; exact hcs.2) d (fun q cA H1 K1 P1 D1 S1 => ?_)
  have e : cA = lc_cl S 3 := lw_cA K1 (t := 3) rfl
  subst e
  exact kk q H1 locs ls ⟨hG.1, P1, D1, S1, hG.2.2.2.2⟩ h
theorem lw_new (C : lc_C X cc own n rt rm) {ix ci N : Nat} {Cn : String} {T : u_T} {ty : Nat → FieldType} {fs : List Value} (hin : ∀ w ∈ u_ws Cn T N, w ∈ lc_T) (hty : ∀ k, k < N → parseFieldDescriptor (T k).2.2.1 = some (ty k)) (hw : Cond.classLink own ix Cn ∈ lc_T ∧ Cond.instantiable Cn N ∈ lc_T ∧ Cond.initialized Cn ∈ lc_T) (hc : vwCl[ci]? = some (Cn, T, N)) (hfs : ∀ j, j < N → defaultValue (ty j) = vp_V fs j) (hcs : k + 1 ≤ rm.cells ∧ j + N ≤ rm.slots) (d : decode cc pc = .ok (.new ix, 3)) (hq : pc + 3 = pc') (kk : ∀ q : Nat, lw_J S X n (k + 1) (j + N) Q pc' lo (.ref q :: st) (V ++ [(q, .inr (ci, fs))])) : lw_J S X n k j Q pc lo st V := by
  subst hq
  have hr := C.2.2.2.2.2.2.2
  exact fun H locs ls hG h => va_new C.1 C.2.1 C.2.2.2.2.1 hin ty hty C.2.2.2.1 (C.2.2.2.2.1 _ hw.1) (C.2.2.2.2.1 _ hw.2.1) (C.2.2.2.2.1 _ hw.2.2) hG.1 hG.2.1 hG.2.2.1 hG.2.2.2.1 (lw_hA hG.2.2.2.2.1) hc hfs (by rw [hr]; exact hcs.1) (by rw [hr]; exact hcs.2) d (fun q H1 P1 D1 S1 => kk q H1 locs ls ⟨hG.1, P1, D1, S1, hG.2.2.2.2⟩ h)
theorem lw_putF (C : lc_C X cc own n rt rm) {ix ci N a p f : Nat} {ref Cn : String} {T : u_T} {ty0 : Nat → FieldType} {fs : List Value} {v : Value} (hnm0 : X.2.2.2.2.2.2.2.2.1.name = "<init>") (hin : ∀ w ∈ u_ws Cn T N, w ∈ lc_T) (hty : ∀ k, k < N → parseFieldDescriptor (T k).2.2.1 = some (ty0 k)) (hnm : ∀ a, a < N → ∀ b, b < N → a ≠ b → (T a).2.1 ≠ (T b).2.1) (he : V[p]? = some (a, .inr (ci, fs))) (hc : vwCl[ci]? = some (Cn, T, N)) (hf : f < N) (hw : Cond.fieldLink own ix ref (T f).2.1 (T f).2.2.1 ∈ lc_T) (href : (T f).1 = ref) (hfin : (T f).2.2.2 = true) (hdecl : (T f).1 = own) (hn : narrow (ty0 f) v = v) (hfit : fits (ty0 f) v = true) (hl : f < fs.length) (hV : V.set p (a, .inr (ci, fs.set f v)) = V') (d : decode cc pc = .ok (.putfield ix, 3)) (hq : pc + 3 = pc') (kk : lw_J S X n k j Q pc' lo st V') : lw_J S X n k j Q pc lo (v :: .ref a :: st) V := by
  subst hq; subst hV; subst href
  exact fun H locs ls hG h => va_putF C.1 C.2.1 C.2.2.2.2.1 hin ty0 hty hnm C.2.2.2.1 hG.1 hG.2.1 hG.2.2.1 hG.2.2.2.1 p he hc f hf (C.2.2.2.2.1 _ hw) (fun _ h9 => h9) hfin hnm0 hdecl (hty f hf) hn hfit hl d (fun H1 l1 p1 p2 p3 => kk H1 l1 ls ⟨hG.1, p1, p2, p3, hG.2.2.2.2⟩ h)
theorem lw_put (C : lc_C X cc own n rt rm) {ix ci N a p f : Nat} {ref Cn : String} {T : u_T} {ty0 : Nat → FieldType} {fs : List Value} {v : Value} (hin : ∀ w ∈ u_ws Cn T N, w ∈ lc_T) (hty : ∀ k, k < N → parseFieldDescriptor (T k).2.2.1 = some (ty0 k)) (hnm : ∀ a, a < N → ∀ b, b < N → a ≠ b → (T a).2.1 ≠ (T b).2.1) (he : V[p]? = some (a, .inr (ci, fs))) (hc : vwCl[ci]? = some (Cn, T, N)) (hf : f < N) (hw : Cond.fieldLink own ix ref (T f).2.1 (T f).2.2.1 ∈ lc_T) (href : (T f).1 = ref) (hfin : (T f).2.2.2 = false) (hn : narrow (ty0 f) v = v) (hfit : fits (ty0 f) v = true) (hl : f < fs.length) (hV : V.set p (a, .inr (ci, fs.set f v)) = V') (d : decode cc pc = .ok (.putfield ix, 3)) (hq : pc + 3 = pc') (kk : lw_J S X n k j Q pc' lo st V') : lw_J S X n k j Q pc lo (v :: .ref a :: st) V := by
  subst hq; subst hV; subst href
  exact fun H locs ls hG h => va_put C.1 C.2.1 C.2.2.2.2.1 hin ty0 hty hnm C.2.2.2.1 hG.1 hG.2.1 hG.2.2.1 hG.2.2.2.1 p he hc f hf (C.2.2.2.2.1 _ hw) (fun _ h9 => h9) hfin (hty f hf) hn hfit hl d (fun H1 l1 p1 p2 p3 => kk H1 l1 ls ⟨hG.1, p1, p2, p3, hG.2.2.2.2⟩ h)
theorem lw_get (C : lc_C X cc own n rt rm) {ix ci N a p f : Nat} {ref Cn : String} {T : u_T} {fs : List Value} {v : Value} (hin : ∀ w ∈ u_ws Cn T N, w ∈ lc_T) (he : V[p]? = some (a, .inr (ci, fs))) (hc : vwCl[ci]? = some (Cn, T, N)) (hf : f < N) (hw : Cond.fieldLink own ix ref (T f).2.1 (T f).2.2.1 ∈ lc_T) (href : (T f).1 = ref) (hv : fs[f]? = some v) (d : decode cc pc = .ok (.getfield ix, 3)) (hq : pc + 3 = pc') (kk : lw_J S X n k j Q pc' lo (v :: st) V) : lw_J S X n k j Q pc lo (.ref a :: st) V := by
  subst hq; subst href
  exact fun H locs ls hG h => va_get C.1 C.2.1 C.2.2.2.2.1 hin C.2.2.2.1 hG.1 hG.2.1 p he hc f hf (C.2.2.2.2.1 _ hw) (fun _ h9 => h9) hv d (kk H locs ls hG h)
theorem lw_ast (C : lc_C X cc own n rt rm) {a v p pv N : Nat} {f : Nat → Option Nat} {vs : List Value} {i : Int32} {jj : Nat} (ha : V[p]? = some (a, .inl (lc_cl S 3, N, .inr (.inr (.inr (.inr f)))))) (hv : V[pv]? = some (v, .inr (0, vs))) (hi : lc_ok i N) (hj : i.toNatClampNeg = jj) (hV : V.set p (a, .inl (lc_cl S 3, N, .inr (.inr (.inr (.inr (va_up f jj (some v))))))) = V') (d : decode cc pc = .ok (.aastore, 1)) (hq : pc + 1 = pc') (kk : lw_J S X n k j Q pc' lo st V') : lw_J S X n k j Q pc lo (.ref v :: .int i :: .ref a :: st) V := by
  subst hq; subst hj; subst hV
  exact fun H locs ls hG h => va_astq (r := (RX0, TX0, 18)) C.1 C.2.1 hG.1 hG.2.1 hG.2.2.1 hG.2.2.2.1 p 3 pv 0 ha rfl hv rfl hi d (fun H1 l1 p1 p2 p3 => kk H1 l1 ls ⟨hG.1, p1, p2, p3, hG.2.2.2.2⟩ h)
/-- a constructor's call, by a link of its own or a nest mate's -/
theorem lw_ci {T : Type} {V' : T → va_W} (C : lc_C X cc own n rt rm) {ix mL nA a : Nat} {y : MethodName} {b : ByteArray} {R' : Room} {As rest : List Value} (hM : lw_MV S X.2.1 y b mL none R' (.ref a :: As) V V') (hl : Cond.methodLink own ix y ∈ lc_T) (hf : Cond.instanceMethod y ∈ lc_T ∧ Cond.initialized y.cls ∈ lc_T ∧ Cond.code y b mL none ∈ lc_T ∧ y.name = "<init>" ∧ y.cls ≠ "java/lang/invoke/MethodHandle" ∧ y.cls ≠ "java/lang/invoke/VarHandle" ∧ (parseMethodDescriptor y.desc).map (fun d => d.parameters.length) = some nA) (hn : As.length = nA) (hst : st = As.reverse ++ .ref a :: rest) (hcat : (rest.map fun v => v.category).sum ≤ 8) (hR : R'.frames + 1 ≤ rm.frames ∧ 8 + (mL + 11) + R'.locals ≤ rm.locals) (hcs : k + R'.cells ≤ rm.cells ∧ j + R'.slots ≤ rm.slots) (d : decode cc pc = .ok (.invokespecial ix, 3)) (hq : pc + 3 = pc') (kk : ∀ u : T, lw_J S X n (k + R'.cells) (j + R'.slots) Q pc' lo rest (V' u)) : lw_J S X n k j Q pc lo st V := by
  subst hq; subst hst
  have hr := C.2.2.2.2.2.2.2
  intro H locs ls hG h
  have hA1 : ∀ q : Nat, lc_A S q → lc_A S q := fun _ z => z
  exact va_callv (va_runI (lc_fix C) hM ⟨lc_cB C hl hf.2.1 hf.2.2.1 hf.2.2.2.2 hR, hf.2.2.2.1, C.2.2.2.2.1 _ hf.1⟩ ⟨lw_blind S V _, fun U hU hW => ⟨rfl, lw_GB hG hU hW⟩⟩ rfl hn h.1 rfl (lv_room hcat) d (by rw [hr]; exact hcs)) hG.2.2.2.1 (fun q _ z => z) hA1 (fun u t H1 l1 ht hvm hp hB hz hk hS => kk u H1 l1 ls (lw_back hG.2.2.2.2 ht hvm hB hS) h)
theorem lw_cn {T : Type} {V' : T → va_W} (C : lc_C X cc own n rt rm) {ix mL nA a : Nat} {y : MethodName} {host : String} {b : ByteArray} {R' : Room} {As rest : List Value} (hM : lw_MV S X.2.1 y b mL none R' (.ref a :: As) V V') (hl : ∀ U : State, lc_N1 U → va_Nw (.methodLinkNest own ix y host) U) (hf : Cond.instanceMethod y ∈ lc_T ∧ Cond.initialized y.cls ∈ lc_T ∧ Cond.code y b mL none ∈ lc_T ∧ y.name = "<init>" ∧ y.cls ≠ "java/lang/invoke/MethodHandle" ∧ y.cls ≠ "java/lang/invoke/VarHandle" ∧ (parseMethodDescriptor y.desc).map (fun d => d.parameters.length) = some nA) (hn : As.length = nA) (hst : st = As.reverse ++ .ref a :: rest) (hcat : (rest.map fun v => v.category).sum ≤ 8) (hR : R'.frames + 1 ≤ rm.frames ∧ 8 + (mL + 11) + R'.locals ≤ rm.locals) (hcs : k + R'.cells ≤ rm.cells ∧ j + R'.slots ≤ rm.slots) (d : decode cc pc = .ok (.invokespecial ix, 3)) (hq : pc + 3 = pc') (kk : ∀ u : T, lw_J S X n (k + R'.cells) (j + R'.slots) Q pc' lo rest (V' u)) : lw_J S X n k j Q pc lo st V := by
  subst hq; subst hst
  have hr := C.2.2.2.2.2.2.2
  intro H locs ls hG h
  have hA1 : ∀ q : Nat, lc_A S q → lc_A S q := fun _ z => z
  exact va_callv (va_runIN (lc_fix C) hM ⟨va_cnB nA C.2.2.2.2.1 (lc_wsin hf.2.2.1) rfl rfl rfl (hl _ hG.2.2.2.2.2.1.1) (C.2.2.2.2.1 _ hf.2.1) hf.2.2.2.2 (by rw [hr]; exact hR), hf.2.2.2.1, C.2.2.2.2.1 _ hf.1⟩ ⟨lw_blind S V _, fun U hU hW => ⟨rfl, lw_GB hG hU hW⟩⟩ rfl hn h.1 rfl (lv_room hcat) d (by rw [hr]; exact hcs)) hG.2.2.2.1 (fun q _ z => z) hA1 (fun u t H1 l1 ht hvm hp hB hz hk hS => kk u H1 l1 ls (lw_back hG.2.2.2.2 ht hvm hB hS) h)
end LWJ
theorem lw_oi_RX0 : Cond.methodLink RX0 3 Lib.objectInit ∈ lc_T := lc_in (List.mem_of_getElem? (i := 42) (by decide +kernel)) rfl
theorem lw_oi_RX1 : Cond.methodLink RX1 3 Lib.objectInit ∈ lc_T := lc_in (List.mem_of_getElem? (i := 120) (by decide +kernel)) rfl
theorem lw_oi_RX2 : Cond.methodLink RX2 3 Lib.objectInit ∈ lc_T := lc_in (List.mem_of_getElem? (i := 27) (by decide +kernel)) rfl
theorem lw_oi_RX3 : Cond.methodLink RX3 1 Lib.objectInit ∈ lc_T := lc_in (List.mem_of_getElem? (i := 19) (by decide +kernel)) rfl
theorem lw_ow : Cond.instanceMethod Lib.objectInit ∈ lc_T ∧ Cond.code Lib.objectInit ⟨#[0xb1]⟩ 1 none ∈ lc_T := ⟨lc_in (List.mem_of_getElem? (i := 20) (by decide +kernel)) rfl, lc_in (List.mem_of_getElem? (i := 21) (by decide +kernel)) rfl⟩
theorem lw_a_char : Cond.arrayClass .char ∈ lc_T := lc_in (List.mem_of_getElem? (i := 36) (by decide +kernel)) rfl
theorem lw_a_int : Cond.arrayClass .int ∈ lc_T := lc_in (List.mem_of_getElem? (i := 114) (by decide +kernel)) rfl
theorem lw_a_boolean : Cond.arrayClass .boolean ∈ lc_T := lc_in (List.mem_of_getElem? (i := 156) (by decide +kernel)) rfl
theorem lw_nw_RX3_7 : Cond.classLink RX3 7 RX2 ∈ lc_T ∧ Cond.instantiable RX2 3 ∈ lc_T ∧ Cond.initialized RX2 ∈ lc_T := ⟨lc_in (List.mem_of_getElem? (i := 22) (by decide +kernel)) rfl, lc_in (List.mem_of_getElem? (i := 23) (by decide +kernel)) rfl, ki_RX2⟩
theorem lw_nw_RX3_16 : Cond.classLink RX3 16 RX0 ∈ lc_T ∧ Cond.instantiable RX0 18 ∈ lc_T ∧ Cond.initialized RX0 ∈ lc_T := ⟨lc_in (List.mem_of_getElem? (i := 37) (by decide +kernel)) rfl, lc_in (List.mem_of_getElem? (i := 38) (by decide +kernel)) rfl, ki_RX0⟩
theorem lw_nw_RX3_23 : Cond.classLink RX3 23 RX1 ∈ lc_T ∧ Cond.instantiable RX1 3 ∈ lc_T ∧ Cond.initialized RX1 ∈ lc_T := ⟨lc_in (List.mem_of_getElem? (i := 115) (by decide +kernel)) rfl, lc_in (List.mem_of_getElem? (i := 116) (by decide +kernel)) rfl, ki_RX1⟩
theorem lw_nw_RX1_9 : Cond.classLink RX1 9 RX0 ∈ lc_T ∧ Cond.instantiable RX0 18 ∈ lc_T ∧ Cond.initialized RX0 ∈ lc_T := ⟨lc_in (List.mem_of_getElem? (i := 121) (by decide +kernel)) rfl, lc_in (List.mem_of_getElem? (i := 38) (by decide +kernel)) rfl, ki_RX0⟩
theorem lw_nw_RL_10 : Cond.classLink RL 10 RX3 ∈ lc_T ∧ Cond.instantiable RX3 7 ∈ lc_T ∧ Cond.initialized RX3 ∈ lc_T := ⟨lc_in (List.mem_of_getElem? (i := 14) (by decide +kernel)) rfl, lc_in (List.mem_of_getElem? (i := 15) (by decide +kernel)) rfl, ki_RX3⟩
theorem lw_ml_RL_107 : Cond.methodLink RL 107 yX3_init ∈ lc_T := lc_in (List.mem_of_getElem? (i := 16) (by decide +kernel)) rfl
theorem lw_ml_RX3_25 : Cond.methodLink RX3 25 yX1_init ∈ lc_T := lc_in (List.mem_of_getElem? (i := 117) (by decide +kernel)) rfl
theorem lw_mf_X0_init : Cond.instanceMethod yX0_init ∈ lc_T ∧ Cond.initialized yX0_init.cls ∈ lc_T ∧ Cond.code yX0_init cX0_init 1 none ∈ lc_T ∧ yX0_init.name = "<init>" ∧ yX0_init.cls ≠ "java/lang/invoke/MethodHandle" ∧ yX0_init.cls ≠ "java/lang/invoke/VarHandle" ∧ (parseMethodDescriptor yX0_init.desc).map (fun d => d.parameters.length) = some 0 := ⟨mi_X0_init, ki_RX0, mc_X0_init, rfl, by decide +kernel, by decide +kernel, by decide +kernel⟩
theorem lw_mf_X1_init : Cond.instanceMethod yX1_init ∈ lc_T ∧ Cond.initialized yX1_init.cls ∈ lc_T ∧ Cond.code yX1_init cX1_init 2 none ∈ lc_T ∧ yX1_init.name = "<init>" ∧ yX1_init.cls ≠ "java/lang/invoke/MethodHandle" ∧ yX1_init.cls ≠ "java/lang/invoke/VarHandle" ∧ (parseMethodDescriptor yX1_init.desc).map (fun d => d.parameters.length) = some 0 := ⟨mi_X1_init, ki_RX1, mc_X1_init, rfl, by decide +kernel, by decide +kernel, by decide +kernel⟩
theorem lw_mf_X2_init : Cond.instanceMethod yX2_init ∈ lc_T ∧ Cond.initialized yX2_init.cls ∈ lc_T ∧ Cond.code yX2_init cX2_init 1 none ∈ lc_T ∧ yX2_init.name = "<init>" ∧ yX2_init.cls ≠ "java/lang/invoke/MethodHandle" ∧ yX2_init.cls ≠ "java/lang/invoke/VarHandle" ∧ (parseMethodDescriptor yX2_init.desc).map (fun d => d.parameters.length) = some 0 := ⟨mi_X2_init, ki_RX2, mc_X2_init, rfl, by decide +kernel, by decide +kernel, by decide +kernel⟩
theorem lw_mf_X3_init : Cond.instanceMethod yX3_init ∈ lc_T ∧ Cond.initialized yX3_init.cls ∈ lc_T ∧ Cond.code yX3_init cX3_init 2 none ∈ lc_T ∧ yX3_init.name = "<init>" ∧ yX3_init.cls ≠ "java/lang/invoke/MethodHandle" ∧ yX3_init.cls ≠ "java/lang/invoke/VarHandle" ∧ (parseMethodDescriptor yX3_init.desc).map (fun d => d.parameters.length) = some 0 := ⟨mi_X3_init, ki_RX3, mc_X3_init, rfl, by decide +kernel, by decide +kernel, by decide +kernel⟩
