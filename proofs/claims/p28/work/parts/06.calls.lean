/-! ===== contracts over the world ===== -/
def lc_MI (S : lc_Se) (l : Launch) (y : MethodName) (b : ByteArray) (mL : Nat) (ret : Option FieldType) (rm : Room) (av : List Value) (M : lc_MM) (r : Int32) (M' : lc_MM) : Prop :=
  Met l y (lc_ws y b mL ret) rm (va_Pc av (lc_B S M)) (va_Qi (fun (x : Int32) (_ : Unit) => x = r) (fun _ t => lc_B S M' t) (lc_A S)) rm.cells rm.slots (lc_A S)
def lc_ML (S : lc_Se) (l : Launch) (y : MethodName) (b : ByteArray) (mL : Nat) (ret : Option FieldType) (rm : Room) (av : List Value) (M : lc_MM) (r : Int64) (M' : lc_MM) : Prop :=
  Met l y (lc_ws y b mL ret) rm (va_Pc av (lc_B S M)) (va_Ql (fun (x : Int64) (_ : Unit) => x = r) (fun _ t => lc_B S M' t) (lc_A S)) rm.cells rm.slots (lc_A S)
def lc_MV (S : lc_Se) (l : Launch) (y : MethodName) (b : ByteArray) (mL : Nat) (ret : Option FieldType) (rm : Room) (av : List Value) (M M' : lc_MM) : Prop :=
  Met l y (lc_ws y b mL ret) rm (va_Pc av (lc_B S M)) (va_Qv (fun (_ : Unit) => True) (fun _ t => lc_B S M' t) (lc_A S)) rm.cells rm.slots (lc_A S)
abbrev lc_QI (S : lc_Se) (X : lc_X) (k j : Nat) (r : Int32) (M' : lc_MM) : State → Prop :=
  MQ X.2.2.2.2.2.2.2.1 (va_Qi (fun (x : Int32) (_ : Unit) => x = r) (fun _ t => lc_B S M' t) (lc_A S)) X.2.2.2.2.2.2.1 (lc_Xs X) k j (lc_A S)
abbrev lc_QL (S : lc_Se) (X : lc_X) (k j : Nat) (r : Int64) (M' : lc_MM) : State → Prop :=
  MQ X.2.2.2.2.2.2.2.1 (va_Ql (fun (x : Int64) (_ : Unit) => x = r) (fun _ t => lc_B S M' t) (lc_A S)) X.2.2.2.2.2.2.1 (lc_Xs X) k j (lc_A S)
abbrev lc_QV (S : lc_Se) (X : lc_X) (k j : Nat) (M' : lc_MM) : State → Prop :=
  MQ X.2.2.2.2.2.2.2.1 (va_Qv (fun (_ : Unit) => True) (fun _ t => lc_B S M' t) (lc_A S)) X.2.2.2.2.2.2.1 (lc_Xs X) k j (lc_A S)
theorem lc_GB {S : lc_Se} {M : lc_MM} {s t : State} {H : Heap} {locs : List Loc} (hG : lc_G S M s H locs) (ht : t.heap = H) (hW : s.WarmedH t.vm) : lc_B S M t := by
  refine ⟨?_, ?_, va_K.moved hW.alike hG.1, hG.2.2.1, lc_N.warm hW (fun a h1 h2 => by rw [ht]; exact hG.2.2.2.1.2.1 a h1 h2) hG.2.2.2.2.2⟩
  · rw [ht]; exact Nat.le_trans hG.2.2.2.2.1 hG.2.2.2.1.1
  · rw [ht]; exact hG.2.1
theorem lc_BG {S : lc_Se} {M : lc_MM} {s : State} (h : lc_B S M s) : lc_G S M s s.heap [] := ⟨h.2.2.1, h.2.1, h.2.2.2.1, va_S.rf, h.1, h.2.2.2.2⟩
theorem lc_blind (S : lc_Se) (M : lc_MM) (av : List Value) : FrameBlind (va_Pc av (lc_B S M)) := fun a U g mk q => ⟨q.1, q.2.1, q.2.2.1, va_K.moved (u := U) (U := U.calling g mk a) (Vm.Alike.refl U.vm) q.2.2.2.1, q.2.2.2.2.1, lc_N.same (s := U) (U := U.calling g mk a) rfl rfl q.2.2.2.2.2⟩
/-! ===== a method's beginning ===== -/
section LCM
variable {S : lc_Se} {l : Launch} {y : MethodName} {b : ByteArray} {mL : Nat} {ret : Option FieldType} {rm : Room} {av : List Value} {M M' : lc_MM} {lo : List (Nat × Value)} {own : String}
theorem lc_mkI {r : Int32} (hy : plainName y.cls = true) (hown : y.cls = own) (hlen : (lg_sl av).length ≤ mL) (hlo : lv_args 0 av = lo) (body : ∀ X : lc_X, X.2.1 = l → lc_C X b own mL ret rm → lc_J S X mL 0 0 (lc_QI S X rm.cells rm.slots r M') 0 lo [] M) : lc_MI S l y b mL ret rm av M r M' := by
  refine Met.ofW (cc := b) (maxL := mL) (ret := ret) hy rfl ?_
  intro p e s m args below meth c s₁ B hml hv
  obtain ⟨rfl, hB⟩ := hv
  have hts := atoms_spec (ws := lc_ws y b mL ret) B.pre
  have hl := lv_entry av hlen
  rw [lg_entry_eq]
  rw [hlo] at hl
  exact body (p, l, e, (headSpec (lc_ws y b mL ret) rm).room, s, m, av.toArray, below, meth, c) rfl ⟨B.exec, B.bytes, hml, hown ▸ findClass_of_methodNamed B.named, fun w hw => hts w (List.mem_cons_of_mem _ hw), B.notSynchronized, B.returns, rfl⟩ s.heap [] _ (lc_BG hB) hl
theorem lc_mkL {r : Int64} (hy : plainName y.cls = true) (hown : y.cls = own) (hlen : (lg_sl av).length ≤ mL) (hlo : lv_args 0 av = lo) (body : ∀ X : lc_X, X.2.1 = l → lc_C X b own mL ret rm → lc_J S X mL 0 0 (lc_QL S X rm.cells rm.slots r M') 0 lo [] M) : lc_ML S l y b mL ret rm av M r M' := by
  refine Met.ofW (cc := b) (maxL := mL) (ret := ret) hy rfl ?_
  intro p e s m args below meth c s₁ B hml hv
  obtain ⟨rfl, hB⟩ := hv
  have hts := atoms_spec (ws := lc_ws y b mL ret) B.pre
  have hl := lv_entry av hlen
  rw [lg_entry_eq]
  rw [hlo] at hl
  exact body (p, l, e, (headSpec (lc_ws y b mL ret) rm).room, s, m, av.toArray, below, meth, c) rfl ⟨B.exec, B.bytes, hml, hown ▸ findClass_of_methodNamed B.named, fun w hw => hts w (List.mem_cons_of_mem _ hw), B.notSynchronized, B.returns, rfl⟩ s.heap [] _ (lc_BG hB) hl
theorem lc_mkV (hy : plainName y.cls = true) (hown : y.cls = own) (hlen : (lg_sl av).length ≤ mL) (hlo : lv_args 0 av = lo) (body : ∀ X : lc_X, X.2.1 = l → lc_C X b own mL ret rm → lc_J S X mL 0 0 (lc_QV S X rm.cells rm.slots M') 0 lo [] M) : lc_MV S l y b mL ret rm av M M' := by
  refine Met.ofW (cc := b) (maxL := mL) (ret := ret) hy rfl ?_
  intro p e s m args below meth c s₁ B hml hv
  obtain ⟨rfl, hB⟩ := hv
  have hts := atoms_spec (ws := lc_ws y b mL ret) B.pre
  have hl := lv_entry av hlen
  rw [lg_entry_eq]
  rw [hlo] at hl
  exact body (p, l, e, (headSpec (lc_ws y b mL ret) rm).room, s, m, av.toArray, below, meth, c) rfl ⟨B.exec, B.bytes, hml, hown ▸ findClass_of_methodNamed B.named, fun w hw => hts w (List.mem_cons_of_mem _ hw), B.notSynchronized, B.returns, rfl⟩ s.heap [] _ (lc_BG hB) hl
end LCM
theorem lc_wsin {y : MethodName} {b : ByteArray} {mL : Nat} {ret : Option FieldType} (h : Cond.code y b mL ret ∈ lc_T) : GoodIn lc_T (lc_ws y b mL ret) := lc_good (fun w hw => by
  rcases List.mem_cons.mp hw with rfl | hw
  · exact h
  · exact hw)
section LCK
variable {S : lc_Se} {X : lc_X} {cc : ByteArray} {own : String} {rt : Option FieldType} {rm : Room} {n k j : Nat} {Q : State → Prop} {pc pc' : Nat} {lo lo' : List (Nat × Value)} {st : List Value} {M M' : lc_MM}
theorem lc_fix (C : lc_C X cc own n rt rm) : CallFix X.1 X.2.2.2.2.2.1 X.2.2.2.2.2.2.2.2.2 cc n (lc_Xs X) X.2.2.2.2.2.2.1 lc_T own := ⟨C.1, C.2.1, C.2.2.1, C.2.2.2.1, C.2.2.2.2.1⟩
theorem lc_cB (C : lc_C X cc own n rt rm) {ix mL nA : Nat} {y : MethodName} {b : ByteArray} {ret : Option FieldType} {R' : Room} (hl : Cond.methodLink own ix y ∈ lc_T) (hi : Cond.initialized y.cls ∈ lc_T) (hc : Cond.code y b mL ret ∈ lc_T) (hd : y.cls ≠ "java/lang/invoke/MethodHandle" ∧ y.cls ≠ "java/lang/invoke/VarHandle" ∧ (parseMethodDescriptor y.desc).map (fun d => d.parameters.length) = some nA) (hR : R'.frames + 1 ≤ rm.frames ∧ 8 + (mL + 11) + R'.locals ≤ rm.locals) :
    CallB (lc_Xr X) (lc_Xs X) X.2.2.2.2.2.2.1 own ix y b mL ret (lc_ws y b mL ret) R' R'.cells R'.slots nA := by
  have hr := C.2.2.2.2.2.2.2
  exact callB_of nA C.2.2.2.2.1 (lc_wsin hc) rfl rfl rfl (C.2.2.2.2.1 _ hi) (C.2.2.2.2.1 _ hl) hd (by rw [hr]; exact hR)
theorem lc_back {s t : State} {H1 : Heap} {locs1 : List Loc} {base : Nat} (hb : lc_ba S ≤ s.heap.size ∧ lc_N S s) (ht : t.heap = H1) (hvm : s.vm.Alike t.vm) (hB : lc_B S M' t) (hS : va_S (lc_A S) s.heap H1 locs1) : lc_G S M' s H1 locs1 :=
  ⟨va_K.moved hvm.symm hB.2.2.1, ht ▸ hB.2.1, hB.2.2.2.1, hS, hb⟩

theorem lc_cvi (C : lc_C X cc own n rt rm) {ix mL nA a q0 ci : Nat} {y : MethodName} {b : ByteArray} {ret : Option FieldType} {R' : Room} {As rest : List Value} {fs : List Value} {cq : vw_C} {r : Int32} (hM : lc_MI S X.2.1 y b mL ret R' (.ref a :: As) M r M') (hf : lc_kV own ix y b mL ret nA) (he : (lc_w S M)[q0]? = some (a, .inr (ci, fs))) (hc : vwCl[ci]? = some cq) (hq1 : cq.1 = y.cls) (hn : As.length = nA) (hst : st = As.reverse ++ .ref a :: rest) (hcat : (rest.map fun v => v.category).sum ≤ 8) (hR : R'.frames + 1 ≤ rm.frames ∧ 8 + (mL + 11) + R'.locals ≤ rm.locals) (hz : R'.cells = 0 ∧ R'.slots = 0) (hcs : k ≤ rm.cells ∧ j ≤ rm.slots) (d : decode cc pc = .ok (.invokevirtual ix, 3)) (hq : pc + 3 = pc') (kk : lc_J S X n k j Q pc' lo (.int r :: rest) M') : lc_J S X n k j Q pc lo st M := by
  subst hq; subst hst
  have hr := C.2.2.2.2.2.2.2
  have hcs' : k + R'.cells ≤ rm.cells ∧ j + R'.slots ≤ rm.slots := (by rw [hz.1, hz.2]; exact hcs)
  have kk : lc_J S X n (k + R'.cells) (j + R'.slots) Q (pc + 3) lo (.int r :: rest) M' := by rw [hz.1, hz.2]; exact kk
  intro H locs ls hG h
  have hA1 : ∀ q : Nat, lc_A S q → lc_A S q := fun _ z => z
  exact va_calli (va_runV (C := y.cls) (lc_fix C) hM ⟨lc_cB C hf.1.1 hf.1.2.2.2.1 hf.1.2.2.2.2 hf.2 hR, C.2.2.2.2.1 _ hf.1.2.1, C.2.2.2.2.1 _ hf.1.2.2.1⟩ ⟨lc_blind S M _, hq1 ▸ va_recv hG.1 hG.2.1 hc he, fun U hU hW => ⟨rfl, lc_GB hG hU hW⟩⟩ rfl hn h.1 rfl (lv_room hcat) d (by rw [hr]; exact hcs')) hG.2.2.2.1 (fun q _ z => z) hA1 (fun x u t H1 l1 ht hvm hp hB hz hk hS => by subst hp; exact kk H1 l1 ls (lc_back (base := 0) hG.2.2.2.2 ht hvm hB hS) h)
theorem lc_cviA (C : lc_C X cc own n rt rm) {ix mL nA a q0 ci : Nat} {y : MethodName} {b : ByteArray} {ret : Option FieldType} {R' : Room} {As rest : List Value} {fs : List Value} {cq : vw_C} {r : Int32} (hM : lc_MI S X.2.1 y b mL ret R' (.ref a :: As) M r M') (hf : lc_kV own ix y b mL ret nA) (he : (lc_w S M)[q0]? = some (a, .inr (ci, fs))) (hc : vwCl[ci]? = some cq) (hq1 : cq.1 = y.cls) (hn : As.length = nA) (hst : st = As.reverse ++ .ref a :: rest) (hcat : (rest.map fun v => v.category).sum ≤ 8) (hR : R'.frames + 1 ≤ rm.frames ∧ 8 + (mL + 11) + R'.locals ≤ rm.locals) (hcs : k + R'.cells ≤ rm.cells ∧ j + R'.slots ≤ rm.slots) (d : decode cc pc = .ok (.invokevirtual ix, 3)) (hq : pc + 3 = pc') (kk : lc_J S X n (k + R'.cells) (j + R'.slots) Q pc' lo (.int r :: rest) M') : lc_J S X n k j Q pc lo st M := by
  subst hq; subst hst
  have hr := C.2.2.2.2.2.2.2
  have hcs' : k + R'.cells ≤ rm.cells ∧ j + R'.slots ≤ rm.slots := hcs
  intro H locs ls hG h
  have hA1 : ∀ q : Nat, lc_A S q → lc_A S q := fun _ z => z
  exact va_calli (va_runV (C := y.cls) (lc_fix C) hM ⟨lc_cB C hf.1.1 hf.1.2.2.2.1 hf.1.2.2.2.2 hf.2 hR, C.2.2.2.2.1 _ hf.1.2.1, C.2.2.2.2.1 _ hf.1.2.2.1⟩ ⟨lc_blind S M _, hq1 ▸ va_recv hG.1 hG.2.1 hc he, fun U hU hW => ⟨rfl, lc_GB hG hU hW⟩⟩ rfl hn h.1 rfl (lv_room hcat) d (by rw [hr]; exact hcs')) hG.2.2.2.1 (fun q _ z => z) hA1 (fun x u t H1 l1 ht hvm hp hB hz hk hS => by subst hp; exact kk H1 l1 ls (lc_back (base := 0) hG.2.2.2.2 ht hvm hB hS) h)
theorem lc_cvl (C : lc_C X cc own n rt rm) {ix mL nA a q0 ci : Nat} {y : MethodName} {b : ByteArray} {ret : Option FieldType} {R' : Room} {As rest : List Value} {fs : List Value} {cq : vw_C} {r : Int64} (hM : lc_ML S X.2.1 y b mL ret R' (.ref a :: As) M r M') (hf : lc_kV own ix y b mL ret nA) (he : (lc_w S M)[q0]? = some (a, .inr (ci, fs))) (hc : vwCl[ci]? = some cq) (hq1 : cq.1 = y.cls) (hn : As.length = nA) (hst : st = As.reverse ++ .ref a :: rest) (hcat : (rest.map fun v => v.category).sum ≤ 8) (hR : R'.frames + 1 ≤ rm.frames ∧ 8 + (mL + 11) + R'.locals ≤ rm.locals) (hz : R'.cells = 0 ∧ R'.slots = 0) (hcs : k ≤ rm.cells ∧ j ≤ rm.slots) (d : decode cc pc = .ok (.invokevirtual ix, 3)) (hq : pc + 3 = pc') (kk : lc_J S X n k j Q pc' lo (.long r :: rest) M') : lc_J S X n k j Q pc lo st M := by
  subst hq; subst hst
  have hr := C.2.2.2.2.2.2.2
  have hcs' : k + R'.cells ≤ rm.cells ∧ j + R'.slots ≤ rm.slots := (by rw [hz.1, hz.2]; exact hcs)
  have kk : lc_J S X n (k + R'.cells) (j + R'.slots) Q (pc + 3) lo (.long r :: rest) M' := by rw [hz.1, hz.2]; exact kk
  intro H locs ls hG h
  have hA1 : ∀ q : Nat, lc_A S q → lc_A S q := fun _ z => z
  exact va_calll (va_runV (C := y.cls) (lc_fix C) hM ⟨lc_cB C hf.1.1 hf.1.2.2.2.1 hf.1.2.2.2.2 hf.2 hR, C.2.2.2.2.1 _ hf.1.2.1, C.2.2.2.2.1 _ hf.1.2.2.1⟩ ⟨lc_blind S M _, hq1 ▸ va_recv hG.1 hG.2.1 hc he, fun U hU hW => ⟨rfl, lc_GB hG hU hW⟩⟩ rfl hn h.1 rfl (lv_room hcat) d (by rw [hr]; exact hcs')) hG.2.2.2.1 (fun q _ z => z) hA1 (fun x u t H1 l1 ht hvm hp hB hz hk hS => by subst hp; exact kk H1 l1 ls (lc_back (base := 0) hG.2.2.2.2 ht hvm hB hS) h)
theorem lc_cvlA (C : lc_C X cc own n rt rm) {ix mL nA a q0 ci : Nat} {y : MethodName} {b : ByteArray} {ret : Option FieldType} {R' : Room} {As rest : List Value} {fs : List Value} {cq : vw_C} {r : Int64} (hM : lc_ML S X.2.1 y b mL ret R' (.ref a :: As) M r M') (hf : lc_kV own ix y b mL ret nA) (he : (lc_w S M)[q0]? = some (a, .inr (ci, fs))) (hc : vwCl[ci]? = some cq) (hq1 : cq.1 = y.cls) (hn : As.length = nA) (hst : st = As.reverse ++ .ref a :: rest) (hcat : (rest.map fun v => v.category).sum ≤ 8) (hR : R'.frames + 1 ≤ rm.frames ∧ 8 + (mL + 11) + R'.locals ≤ rm.locals) (hcs : k + R'.cells ≤ rm.cells ∧ j + R'.slots ≤ rm.slots) (d : decode cc pc = .ok (.invokevirtual ix, 3)) (hq : pc + 3 = pc') (kk : lc_J S X n (k + R'.cells) (j + R'.slots) Q pc' lo (.long r :: rest) M') : lc_J S X n k j Q pc lo st M := by
  subst hq; subst hst
  have hr := C.2.2.2.2.2.2.2
  have hcs' : k + R'.cells ≤ rm.cells ∧ j + R'.slots ≤ rm.slots := hcs
  intro H locs ls hG h
  have hA1 : ∀ q : Nat, lc_A S q → lc_A S q := fun _ z => z
  exact va_calll (va_runV (C := y.cls) (lc_fix C) hM ⟨lc_cB C hf.1.1 hf.1.2.2.2.1 hf.1.2.2.2.2 hf.2 hR, C.2.2.2.2.1 _ hf.1.2.1, C.2.2.2.2.1 _ hf.1.2.2.1⟩ ⟨lc_blind S M _, hq1 ▸ va_recv hG.1 hG.2.1 hc he, fun U hU hW => ⟨rfl, lc_GB hG hU hW⟩⟩ rfl hn h.1 rfl (lv_room hcat) d (by rw [hr]; exact hcs')) hG.2.2.2.1 (fun q _ z => z) hA1 (fun x u t H1 l1 ht hvm hp hB hz hk hS => by subst hp; exact kk H1 l1 ls (lc_back (base := 0) hG.2.2.2.2 ht hvm hB hS) h)
theorem lc_cvv (C : lc_C X cc own n rt rm) {ix mL nA a q0 ci : Nat} {y : MethodName} {b : ByteArray} {ret : Option FieldType} {R' : Room} {As rest : List Value} {fs : List Value} {cq : vw_C} (hM : lc_MV S X.2.1 y b mL ret R' (.ref a :: As) M M') (hf : lc_kV own ix y b mL ret nA) (he : (lc_w S M)[q0]? = some (a, .inr (ci, fs))) (hc : vwCl[ci]? = some cq) (hq1 : cq.1 = y.cls) (hn : As.length = nA) (hst : st = As.reverse ++ .ref a :: rest) (hcat : (rest.map fun v => v.category).sum ≤ 8) (hR : R'.frames + 1 ≤ rm.frames ∧ 8 + (mL + 11) + R'.locals ≤ rm.locals) (hz : R'.cells = 0 ∧ R'.slots = 0) (hcs : k ≤ rm.cells ∧ j ≤ rm.slots) (d : decode cc pc = .ok (.invokevirtual ix, 3)) (hq : pc + 3 = pc') (kk : lc_J S X n k j Q pc' lo (rest) M') : lc_J S X n k j Q pc lo st M := by
  subst hq; subst hst
  have hr := C.2.2.2.2.2.2.2
  have hcs' : k + R'.cells ≤ rm.cells ∧ j + R'.slots ≤ rm.slots := (by rw [hz.1, hz.2]; exact hcs)
  have kk : lc_J S X n (k + R'.cells) (j + R'.slots) Q (pc + 3) lo (rest) M' := by rw [hz.1, hz.2]; exact kk
  intro H locs ls hG h
  have hA1 : ∀ q : Nat, lc_A S q → lc_A S q := fun _ z => z
  exact va_callv (va_runV (C := y.cls) (lc_fix C) hM ⟨lc_cB C hf.1.1 hf.1.2.2.2.1 hf.1.2.2.2.2 hf.2 hR, C.2.2.2.2.1 _ hf.1.2.1, C.2.2.2.2.1 _ hf.1.2.2.1⟩ ⟨lc_blind S M _, hq1 ▸ va_recv hG.1 hG.2.1 hc he, fun U hU hW => ⟨rfl, lc_GB hG hU hW⟩⟩ rfl hn h.1 rfl (lv_room hcat) d (by rw [hr]; exact hcs')) hG.2.2.2.1 (fun q _ z => z) hA1 (fun u t H1 l1 ht hvm hp hB hz hk hS => kk H1 l1 ls (lc_back (base := 0) hG.2.2.2.2 ht hvm hB hS) h)
theorem lc_cvvA (C : lc_C X cc own n rt rm) {ix mL nA a q0 ci : Nat} {y : MethodName} {b : ByteArray} {ret : Option FieldType} {R' : Room} {As rest : List Value} {fs : List Value} {cq : vw_C} (hM : lc_MV S X.2.1 y b mL ret R' (.ref a :: As) M M') (hf : lc_kV own ix y b mL ret nA) (he : (lc_w S M)[q0]? = some (a, .inr (ci, fs))) (hc : vwCl[ci]? = some cq) (hq1 : cq.1 = y.cls) (hn : As.length = nA) (hst : st = As.reverse ++ .ref a :: rest) (hcat : (rest.map fun v => v.category).sum ≤ 8) (hR : R'.frames + 1 ≤ rm.frames ∧ 8 + (mL + 11) + R'.locals ≤ rm.locals) (hcs : k + R'.cells ≤ rm.cells ∧ j + R'.slots ≤ rm.slots) (d : decode cc pc = .ok (.invokevirtual ix, 3)) (hq : pc + 3 = pc') (kk : lc_J S X n (k + R'.cells) (j + R'.slots) Q pc' lo (rest) M') : lc_J S X n k j Q pc lo st M := by
  subst hq; subst hst
  have hr := C.2.2.2.2.2.2.2
  have hcs' : k + R'.cells ≤ rm.cells ∧ j + R'.slots ≤ rm.slots := hcs
  intro H locs ls hG h
  have hA1 : ∀ q : Nat, lc_A S q → lc_A S q := fun _ z => z
  exact va_callv (va_runV (C := y.cls) (lc_fix C) hM ⟨lc_cB C hf.1.1 hf.1.2.2.2.1 hf.1.2.2.2.2 hf.2 hR, C.2.2.2.2.1 _ hf.1.2.1, C.2.2.2.2.1 _ hf.1.2.2.1⟩ ⟨lc_blind S M _, hq1 ▸ va_recv hG.1 hG.2.1 hc he, fun U hU hW => ⟨rfl, lc_GB hG hU hW⟩⟩ rfl hn h.1 rfl (lv_room hcat) d (by rw [hr]; exact hcs')) hG.2.2.2.1 (fun q _ z => z) hA1 (fun u t H1 l1 ht hvm hp hB hz hk hS => kk H1 l1 ls (lc_back (base := 0) hG.2.2.2.2 ht hvm hB hS) h)
theorem lc_csi (C : lc_C X cc own n rt rm) {ix mL nA : Nat} {y : MethodName} {b : ByteArray} {ret : Option FieldType} {R' : Room} {As rest : List Value} {r : Int32} (hM : lc_MI S X.2.1 y b mL ret R' As M r M') (hf : lc_kS own ix y b mL ret nA) (hn : As.length = nA) (hst : st = As.reverse ++ rest) (hcat : (rest.map fun v => v.category).sum ≤ 8) (hR : R'.frames + 1 ≤ rm.frames ∧ 8 + (mL + 11) + R'.locals ≤ rm.locals) (hz : R'.cells = 0 ∧ R'.slots = 0) (hcs : k ≤ rm.cells ∧ j ≤ rm.slots) (d : decode cc pc = .ok (.invokestatic ix, 3)) (hq : pc + 3 = pc') (kk : lc_J S X n k j Q pc' lo (.int r :: rest) M') : lc_J S X n k j Q pc lo st M := by
  subst hq; subst hst
  have hr := C.2.2.2.2.2.2.2
  have hcs' : k + R'.cells ≤ rm.cells ∧ j + R'.slots ≤ rm.slots := (by rw [hz.1, hz.2]; exact hcs)
  have kk : lc_J S X n (k + R'.cells) (j + R'.slots) Q (pc + 3) lo (.int r :: rest) M' := by rw [hz.1, hz.2]; exact kk
  intro H locs ls hG h
  have hA1 : ∀ q : Nat, lc_A S q → lc_A S q := fun _ z => z
  exact va_calli (va_runS (lc_fix C) hM ⟨lc_cB C hf.1.1 hf.1.2.2.1 hf.1.2.2.2 hf.2 hR, C.2.2.2.2.1 _ hf.1.2.1⟩ ⟨lc_blind S M _, fun U hU hW => ⟨rfl, lc_GB hG hU hW⟩⟩ rfl hn h.1 rfl (lv_room hcat) d (by rw [hr]; exact hcs')) hG.2.2.2.1 (fun q _ z => z) hA1 (fun x u t H1 l1 ht hvm hp hB hz hk hS => by subst hp; exact kk H1 l1 ls (lc_back (base := 0) hG.2.2.2.2 ht hvm hB hS) h)
theorem lc_csiA (C : lc_C X cc own n rt rm) {ix mL nA : Nat} {y : MethodName} {b : ByteArray} {ret : Option FieldType} {R' : Room} {As rest : List Value} {r : Int32} (hM : lc_MI S X.2.1 y b mL ret R' As M r M') (hf : lc_kS own ix y b mL ret nA) (hn : As.length = nA) (hst : st = As.reverse ++ rest) (hcat : (rest.map fun v => v.category).sum ≤ 8) (hR : R'.frames + 1 ≤ rm.frames ∧ 8 + (mL + 11) + R'.locals ≤ rm.locals) (hcs : k + R'.cells ≤ rm.cells ∧ j + R'.slots ≤ rm.slots) (d : decode cc pc = .ok (.invokestatic ix, 3)) (hq : pc + 3 = pc') (kk : lc_J S X n (k + R'.cells) (j + R'.slots) Q pc' lo (.int r :: rest) M') : lc_J S X n k j Q pc lo st M := by
  subst hq; subst hst
  have hr := C.2.2.2.2.2.2.2
  have hcs' : k + R'.cells ≤ rm.cells ∧ j + R'.slots ≤ rm.slots := hcs
  intro H locs ls hG h
  have hA1 : ∀ q : Nat, lc_A S q → lc_A S q := fun _ z => z
  exact va_calli (va_runS (lc_fix C) hM ⟨lc_cB C hf.1.1 hf.1.2.2.1 hf.1.2.2.2 hf.2 hR, C.2.2.2.2.1 _ hf.1.2.1⟩ ⟨lc_blind S M _, fun U hU hW => ⟨rfl, lc_GB hG hU hW⟩⟩ rfl hn h.1 rfl (lv_room hcat) d (by rw [hr]; exact hcs')) hG.2.2.2.1 (fun q _ z => z) hA1 (fun x u t H1 l1 ht hvm hp hB hz hk hS => by subst hp; exact kk H1 l1 ls (lc_back (base := 0) hG.2.2.2.2 ht hvm hB hS) h)
theorem lc_csl (C : lc_C X cc own n rt rm) {ix mL nA : Nat} {y : MethodName} {b : ByteArray} {ret : Option FieldType} {R' : Room} {As rest : List Value} {r : Int64} (hM : lc_ML S X.2.1 y b mL ret R' As M r M') (hf : lc_kS own ix y b mL ret nA) (hn : As.length = nA) (hst : st = As.reverse ++ rest) (hcat : (rest.map fun v => v.category).sum ≤ 8) (hR : R'.frames + 1 ≤ rm.frames ∧ 8 + (mL + 11) + R'.locals ≤ rm.locals) (hz : R'.cells = 0 ∧ R'.slots = 0) (hcs : k ≤ rm.cells ∧ j ≤ rm.slots) (d : decode cc pc = .ok (.invokestatic ix, 3)) (hq : pc + 3 = pc') (kk : lc_J S X n k j Q pc' lo (.long r :: rest) M') : lc_J S X n k j Q pc lo st M := by
  subst hq; subst hst
  have hr := C.2.2.2.2.2.2.2
  have hcs' : k + R'.cells ≤ rm.cells ∧ j + R'.slots ≤ rm.slots := (by rw [hz.1, hz.2]; exact hcs)
  have kk : lc_J S X n (k + R'.cells) (j + R'.slots) Q (pc + 3) lo (.long r :: rest) M' := by rw [hz.1, hz.2]; exact kk
  intro H locs ls hG h
  have hA1 : ∀ q : Nat, lc_A S q → lc_A S q := fun _ z => z
  exact va_calll (va_runS (lc_fix C) hM ⟨lc_cB C hf.1.1 hf.1.2.2.1 hf.1.2.2.2 hf.2 hR, C.2.2.2.2.1 _ hf.1.2.1⟩ ⟨lc_blind S M _, fun U hU hW => ⟨rfl, lc_GB hG hU hW⟩⟩ rfl hn h.1 rfl (lv_room hcat) d (by rw [hr]; exact hcs')) hG.2.2.2.1 (fun q _ z => z) hA1 (fun x u t H1 l1 ht hvm hp hB hz hk hS => by subst hp; exact kk H1 l1 ls (lc_back (base := 0) hG.2.2.2.2 ht hvm hB hS) h)
theorem lc_cslA (C : lc_C X cc own n rt rm) {ix mL nA : Nat} {y : MethodName} {b : ByteArray} {ret : Option FieldType} {R' : Room} {As rest : List Value} {r : Int64} (hM : lc_ML S X.2.1 y b mL ret R' As M r M') (hf : lc_kS own ix y b mL ret nA) (hn : As.length = nA) (hst : st = As.reverse ++ rest) (hcat : (rest.map fun v => v.category).sum ≤ 8) (hR : R'.frames + 1 ≤ rm.frames ∧ 8 + (mL + 11) + R'.locals ≤ rm.locals) (hcs : k + R'.cells ≤ rm.cells ∧ j + R'.slots ≤ rm.slots) (d : decode cc pc = .ok (.invokestatic ix, 3)) (hq : pc + 3 = pc') (kk : lc_J S X n (k + R'.cells) (j + R'.slots) Q pc' lo (.long r :: rest) M') : lc_J S X n k j Q pc lo st M := by
  subst hq; subst hst
  have hr := C.2.2.2.2.2.2.2
  have hcs' : k + R'.cells ≤ rm.cells ∧ j + R'.slots ≤ rm.slots := hcs
  intro H locs ls hG h
  have hA1 : ∀ q : Nat, lc_A S q → lc_A S q := fun _ z => z
  exact va_calll (va_runS (lc_fix C) hM ⟨lc_cB C hf.1.1 hf.1.2.2.1 hf.1.2.2.2 hf.2 hR, C.2.2.2.2.1 _ hf.1.2.1⟩ ⟨lc_blind S M _, fun U hU hW => ⟨rfl, lc_GB hG hU hW⟩⟩ rfl hn h.1 rfl (lv_room hcat) d (by rw [hr]; exact hcs')) hG.2.2.2.1 (fun q _ z => z) hA1 (fun x u t H1 l1 ht hvm hp hB hz hk hS => by subst hp; exact kk H1 l1 ls (lc_back (base := 0) hG.2.2.2.2 ht hvm hB hS) h)
theorem lc_csv (C : lc_C X cc own n rt rm) {ix mL nA : Nat} {y : MethodName} {b : ByteArray} {ret : Option FieldType} {R' : Room} {As rest : List Value} (hM : lc_MV S X.2.1 y b mL ret R' As M M') (hf : lc_kS own ix y b mL ret nA) (hn : As.length = nA) (hst : st = As.reverse ++ rest) (hcat : (rest.map fun v => v.category).sum ≤ 8) (hR : R'.frames + 1 ≤ rm.frames ∧ 8 + (mL + 11) + R'.locals ≤ rm.locals) (hz : R'.cells = 0 ∧ R'.slots = 0) (hcs : k ≤ rm.cells ∧ j ≤ rm.slots) (d : decode cc pc = .ok (.invokestatic ix, 3)) (hq : pc + 3 = pc') (kk : lc_J S X n k j Q pc' lo (rest) M') : lc_J S X n k j Q pc lo st M := by
  subst hq; subst hst
  have hr := C.2.2.2.2.2.2.2
  have hcs' : k + R'.cells ≤ rm.cells ∧ j + R'.slots ≤ rm.slots := (by rw [hz.1, hz.2]; exact hcs)
  have kk : lc_J S X n (k + R'.cells) (j + R'.slots) Q (pc + 3) lo (rest) M' := by rw [hz.1, hz.2]; exact kk
  intro H locs ls hG h
  have hA1 : ∀ q : Nat, lc_A S q → lc_A S q := fun _ z => z
  exact va_callv (va_runS (lc_fix C) hM ⟨lc_cB C hf.1.1 hf.1.2.2.1 hf.1.2.2.2 hf.2 hR, C.2.2.2.2.1 _ hf.1.2.1⟩ ⟨lc_blind S M _, fun U hU hW => ⟨rfl, lc_GB hG hU hW⟩⟩ rfl hn h.1 rfl (lv_room hcat) d (by rw [hr]; exact hcs')) hG.2.2.2.1 (fun q _ z => z) hA1 (fun u t H1 l1 ht hvm hp hB hz hk hS => kk H1 l1 ls (lc_back (base := 0) hG.2.2.2.2 ht hvm hB hS) h)
theorem lc_csvA (C : lc_C X cc own n rt rm) {ix mL nA : Nat} {y : MethodName} {b : ByteArray} {ret : Option FieldType} {R' : Room} {As rest : List Value} (hM : lc_MV S X.2.1 y b mL ret R' As M M') (hf : lc_kS own ix y b mL ret nA) (hn : As.length = nA) (hst : st = As.reverse ++ rest) (hcat : (rest.map fun v => v.category).sum ≤ 8) (hR : R'.frames + 1 ≤ rm.frames ∧ 8 + (mL + 11) + R'.locals ≤ rm.locals) (hcs : k + R'.cells ≤ rm.cells ∧ j + R'.slots ≤ rm.slots) (d : decode cc pc = .ok (.invokestatic ix, 3)) (hq : pc + 3 = pc') (kk : lc_J S X n (k + R'.cells) (j + R'.slots) Q pc' lo (rest) M') : lc_J S X n k j Q pc lo st M := by
  subst hq; subst hst
  have hr := C.2.2.2.2.2.2.2
  have hcs' : k + R'.cells ≤ rm.cells ∧ j + R'.slots ≤ rm.slots := hcs
  intro H locs ls hG h
  have hA1 : ∀ q : Nat, lc_A S q → lc_A S q := fun _ z => z
  exact va_callv (va_runS (lc_fix C) hM ⟨lc_cB C hf.1.1 hf.1.2.2.1 hf.1.2.2.2 hf.2 hR, C.2.2.2.2.1 _ hf.1.2.1⟩ ⟨lc_blind S M _, fun U hU hW => ⟨rfl, lc_GB hG hU hW⟩⟩ rfl hn h.1 rfl (lv_room hcat) d (by rw [hr]; exact hcs')) hG.2.2.2.1 (fun q _ z => z) hA1 (fun u t H1 l1 ht hvm hp hB hz hk hS => kk H1 l1 ls (lc_back (base := 0) hG.2.2.2.2 ht hvm hB hS) h)
theorem lc_cni (C : lc_C X cc own n rt rm) {ix mL nA : Nat} {y : MethodName} {host : String} {b : ByteArray} {ret : Option FieldType} {R' : Room} {As rest : List Value} {r : Int32} (hM : lc_MI S X.2.1 y b mL ret R' As M r M') (hf : lc_kN own ix y host b mL ret nA) (hn : As.length = nA) (hst : st = As.reverse ++ rest) (hcat : (rest.map fun v => v.category).sum ≤ 8) (hR : R'.frames + 1 ≤ rm.frames ∧ 8 + (mL + 11) + R'.locals ≤ rm.locals) (hz : R'.cells = 0 ∧ R'.slots = 0) (hcs : k ≤ rm.cells ∧ j ≤ rm.slots) (d : decode cc pc = .ok (.invokestatic ix, 3)) (hq : pc + 3 = pc') (kk : lc_J S X n k j Q pc' lo (.int r :: rest) M') : lc_J S X n k j Q pc lo st M := by
  subst hq; subst hst
  have hr := C.2.2.2.2.2.2.2
  have hcs' : k + R'.cells ≤ rm.cells ∧ j + R'.slots ≤ rm.slots := (by rw [hz.1, hz.2]; exact hcs)
  have kk : lc_J S X n (k + R'.cells) (j + R'.slots) Q (pc + 3) lo (.int r :: rest) M' := by rw [hz.1, hz.2]; exact kk
  intro H locs ls hG h
  have hA1 : ∀ q : Nat, lc_A S q → lc_A S q := fun _ z => z
  exact va_calli (va_runSN (lc_fix C) hM ⟨va_cnB nA C.2.2.2.2.1 (lc_wsin hf.1.2.2.2) rfl rfl rfl (hf.1.1 _ hG.2.2.2.2.2.1) (C.2.2.2.2.1 _ hf.1.2.2.1) hf.2 (by rw [hr]; exact hR), C.2.2.2.2.1 _ hf.1.2.1, trivial⟩ ⟨lc_blind S M _, fun U hU hW => ⟨rfl, lc_GB hG hU hW⟩⟩ rfl hn h.1 rfl (lv_room hcat) d (by rw [hr]; exact hcs')) hG.2.2.2.1 (fun q _ z => z) hA1 (fun x u t H1 l1 ht hvm hp hB hz hk hS => by subst hp; exact kk H1 l1 ls (lc_back (base := 0) hG.2.2.2.2 ht hvm hB hS) h)
theorem lc_cniA (C : lc_C X cc own n rt rm) {ix mL nA : Nat} {y : MethodName} {host : String} {b : ByteArray} {ret : Option FieldType} {R' : Room} {As rest : List Value} {r : Int32} (hM : lc_MI S X.2.1 y b mL ret R' As M r M') (hf : lc_kN own ix y host b mL ret nA) (hn : As.length = nA) (hst : st = As.reverse ++ rest) (hcat : (rest.map fun v => v.category).sum ≤ 8) (hR : R'.frames + 1 ≤ rm.frames ∧ 8 + (mL + 11) + R'.locals ≤ rm.locals) (hcs : k + R'.cells ≤ rm.cells ∧ j + R'.slots ≤ rm.slots) (d : decode cc pc = .ok (.invokestatic ix, 3)) (hq : pc + 3 = pc') (kk : lc_J S X n (k + R'.cells) (j + R'.slots) Q pc' lo (.int r :: rest) M') : lc_J S X n k j Q pc lo st M := by
  subst hq; subst hst
  have hr := C.2.2.2.2.2.2.2
  have hcs' : k + R'.cells ≤ rm.cells ∧ j + R'.slots ≤ rm.slots := hcs
  intro H locs ls hG h
  have hA1 : ∀ q : Nat, lc_A S q → lc_A S q := fun _ z => z
  exact va_calli (va_runSN (lc_fix C) hM ⟨va_cnB nA C.2.2.2.2.1 (lc_wsin hf.1.2.2.2) rfl rfl rfl (hf.1.1 _ hG.2.2.2.2.2.1) (C.2.2.2.2.1 _ hf.1.2.2.1) hf.2 (by rw [hr]; exact hR), C.2.2.2.2.1 _ hf.1.2.1, trivial⟩ ⟨lc_blind S M _, fun U hU hW => ⟨rfl, lc_GB hG hU hW⟩⟩ rfl hn h.1 rfl (lv_room hcat) d (by rw [hr]; exact hcs')) hG.2.2.2.1 (fun q _ z => z) hA1 (fun x u t H1 l1 ht hvm hp hB hz hk hS => by subst hp; exact kk H1 l1 ls (lc_back (base := 0) hG.2.2.2.2 ht hvm hB hS) h)
theorem lc_iret (C : lc_C X cc own n rt rm) {r : Int32} (hrt : rt = some .int) (d : decode cc pc = .ok (.ireturn, 1)) : lc_J S X n k j (lc_QI S X k j r M) pc lo [.int r] M := by
  have hr := C.2.2.2.2.2.2.1
  subst hrt
  exact fun H locs ls hG h => W.iret C.1 C.2.1 hr (fun t ht hW => ⟨⟨r, (), rfl, rfl, lc_GB hG ht hW⟩, hG.2.2.2.1.F ht⟩) hG.2.2.2.1.2.2 d C.2.2.2.2.2.1
theorem lc_zret (C : lc_C X cc own n rt rm) {r : Int32} (hrt : rt = some .boolean) (hb : r = 0 ∨ r = 1) (d : decode cc pc = .ok (.ireturn, 1)) : lc_J S X n k j (lc_QI S X k j r M) pc lo [.int r] M := by
  have hr := C.2.2.2.2.2.2.1
  subst hrt
  exact fun H locs ls hG h => W.zret C.1 C.2.1 hr (by rcases hb with rfl | rfl <;> rfl) (fun t ht hW => ⟨⟨r, (), rfl, rfl, lc_GB hG ht hW⟩, hG.2.2.2.1.F ht⟩) hG.2.2.2.1.2.2 d C.2.2.2.2.2.1
theorem lc_lret (C : lc_C X cc own n rt rm) {r : Int64} (hrt : rt = some .long) (d : decode cc pc = .ok (.lreturn, 1)) : lc_J S X n k j (lc_QL S X k j r M) pc lo [.long r] M := by
  have hr := C.2.2.2.2.2.2.1
  subst hrt
  exact fun H locs ls hG h => W.lret C.1 C.2.1 hr (fun t ht hW => ⟨⟨r, (), rfl, rfl, lc_GB hG ht hW⟩, hG.2.2.2.1.F ht⟩) hG.2.2.2.1.2.2 d C.2.2.2.2.2.1
theorem lc_vret (C : lc_C X cc own n rt rm) (hrt : rt = none) (d : decode cc pc = .ok (.return_, 1)) : lc_J S X n k j (lc_QV S X k j M) pc lo [] M := by
  have hr := C.2.2.2.2.2.2.1
  subst hrt
  exact fun H locs ls hG h => W.vret C.1 C.2.1 hr (fun t ht hW => ⟨⟨(), rfl, trivial, lc_GB hG ht hW⟩, hG.2.2.2.1.F ht⟩) hG.2.2.2.1.2.2 d C.2.2.2.2.2.1
theorem lc_min (C : lc_C X cc own n rt rm) {ix : Nat} {x y : Int32} (hl : Cond.methodLink own ix Lib.Math.min.name ∈ lc_T) (hm : Cond.static Lib.Math.min.name ∈ lc_T ∧ Cond.initialized "java/lang/Math" ∈ lc_T ∧ Cond.code Lib.Math.min.name Lib.Math.min.code 2 (some .int) ∈ lc_T) (hR : 1 ≤ rm.frames ∧ (st.map fun v => v.category).sum + 13 ≤ rm.locals ∧ k ≤ rm.cells ∧ j ≤ rm.slots) (d : decode cc pc = .ok (.invokestatic ix, 3)) (hq : pc + 3 = pc') (kk : lc_J S X n k j Q pc' lo (.int (if y < x then y else x) :: st) M) : lc_J S X n k j Q pc lo (.int y :: .int x :: st) M := by
  subst hq
  have hr := C.2.2.2.2.2.2.2
  exact fun H locs ls hG h => va_mmin C.1 C.2.1 (by rw [h.1]; exact C.2.2.1) C.2.2.2.1 (C.2.2.2.2.1 _ hl) (C.2.2.2.2.1 _ hm.1) (C.2.2.2.2.1 _ hm.2.1) (C.2.2.2.2.1 _ hm.2.2) (by rw [hr]; exact hR.1) (by rw [hr]; exact hR.2.1) (by rw [hr]; exact hR.2.2.1) (by rw [hr]; exact hR.2.2.2) d (kk H locs ls hG h)
end LCK
theorem lc_ac : Cond.methodLink RX0 67 arraycopyName ∈ lc_T ∧ Cond.native arraycopyName ∈ lc_T ∧ Cond.static arraycopyName ∈ lc_T ∧ Cond.initialized "java/lang/System" ∈ lc_T := ⟨lc_in (List.mem_of_getElem? (i := 314) (by decide +kernel)) rfl, lc_in (List.mem_of_getElem? (i := 316) (by decide +kernel)) rfl, lc_in (List.mem_of_getElem? (i := 315) (by decide +kernel)) rfl, lc_in (List.mem_of_getElem? (i := 10) (by decide +kernel)) rfl⟩
theorem pn_RX0 : plainName RX0 = true := by decide +kernel
theorem pn_RX1 : plainName RX1 = true := by decide +kernel
theorem pn_RX2 : plainName RX2 = true := by decide +kernel
theorem pn_RX3 : plainName RX3 = true := by decide +kernel
theorem lc_z2 (a b : Nat) : 0 ≤ a ∧ 0 ≤ b := ⟨Nat.zero_le _, Nat.zero_le _⟩
