/-! ===== methods with a table of handlers ===== -/
abbrev lc_wsW (y : MethodName) (b : ByteArray) (n : Nat) (r : Option FieldType) (hh : List (Nat × Nat × Nat × Nat)) : List Cond := .codeWith y b n r hh :: lc_T
def lc_MIW (S : lc_Se) (l : Launch) (y : MethodName) (b : ByteArray) (mL : Nat) (ret : Option FieldType) (hh : List (Nat × Nat × Nat × Nat)) (rm : Room) (av : List Value) (M : lc_MM) (r : Int32) (M' : lc_MM) : Prop :=
  Met l y (lc_wsW y b mL ret hh) rm (va_Pc av (lc_B S M)) (va_Qi (fun (x : Int32) (_ : Unit) => x = r) (fun _ t => lc_B S M' t) (lc_A S)) rm.cells rm.slots (lc_A S)
theorem lc_ofWH {l : Launch} {y : MethodName} {ws ws' : List Cond} {rm : Room} {Pc : Array Value → State → Prop} {Qc : Array Value → State → Outcome → State → Prop} {mc ms : Nat} {free : Addr → Prop} {cc : ByteArray} {maxL : Nat} {ret : Option FieldType} {hh : List (Nat × Nat × Nat × Nat)}
    (hy : plainName y.cls = true) (hw : ws = Cond.codeWith y cc maxL ret hh :: ws')
    (body : ∀ p e s m args below meth c s₁, BodyLoose p l y (headSpec ws rm) cc maxL ret e s m args below meth c s₁ → c.maxLocals = maxL → Pc args s →
      W p l e (headSpec ws rm).room s m args below meth c s.heap [] 0 0 (MQ below Qc args s mc ms free) (entryFrame m args maxL)) : Met l y ws rm Pc Qc mc ms free := by
  refine MetFree.of_bodyS (code := cc) (maxLocals := maxL) (ret := ret) hy ?_ ?_
  · intro args s m h hn
    obtain ⟨m9, meth, c, hn9, h1, h2, h3, h4, -, h5, h6, -⟩ := Cond.codeWith_spec (atoms_spec (ws := ws) h _ (by rw [hw]; exact List.mem_cons_self))
    cases hn.symm.trans hn9
    exact ⟨meth, c, h1, h2, h3, h4, h5, h6⟩
  · intro p e s m args below meth c s₁ B hml hP _
    have hh0 : s₁.heap = s.heap := by rw [B.state]; rfl
    obtain ⟨t, a1, o, b1, b2, b3⟩ := body p e s m args below meth c s₁ B hml hP s₁ hh0 (Stand.of_body B)
    exact ⟨t, o, a1, b1, b2, ⟨b3.1, b3.2⟩⟩
theorem lc_mkW {S : lc_Se} {l : Launch} {y : MethodName} {b : ByteArray} {mL : Nat} {ret : Option FieldType} {hh : List (Nat × Nat × Nat × Nat)} {rm : Room} {av : List Value} {M M' : lc_MM} {lo : List (Nat × Value)} {own : String} {r : Int32} (hy : plainName y.cls = true) (hown : y.cls = own) (hlen : (lg_sl av).length ≤ mL) (hlo : lv_args 0 av = lo) (body : ∀ X : lc_X, X.2.1 = l → lc_C X b own mL ret rm → X.2.2.2.2.2.2.2.2.2.exceptionTable.toList = tableOf hh → lc_J S X mL 0 0 (lc_QI S X rm.cells rm.slots r M') 0 lo [] M) : lc_MIW S l y b mL ret hh rm av M r M' := by
  refine lc_ofWH (cc := b) (maxL := mL) (ret := ret) (hh := hh) hy rfl ?_
  intro p e s m args below meth c s₁ B hml hv
  obtain ⟨rfl, hB⟩ := hv
  have hts := atoms_spec (ws := lc_wsW y b mL ret hh) B.pre
  have hl := lv_entry av hlen
  rw [lg_entry_eq]
  rw [hlo] at hl
  exact body (p, l, e, (headSpec (lc_wsW y b mL ret hh) rm).room, s, m, av.toArray, below, meth, c) rfl ⟨B.exec, B.bytes, hml, hown ▸ findClass_of_methodNamed B.named, fun w hw => hts w (List.mem_cons_of_mem _ hw), B.notSynchronized, B.returns, rfl⟩ (vx_table (x := y) B (hts _ List.mem_cons_self)) s.heap [] _ (lc_BG hB) hl
def lc_kW (own : String) (ix : Nat) (y : MethodName) (b : ByteArray) (mL : Nat) (ret : Option FieldType) (hh : List (Nat × Nat × Nat × Nat)) (nA : Nat) : Prop :=
  (Cond.methodLink own ix y ∈ lc_T ∧ Cond.static y ∈ lc_T ∧ Cond.initialized y.cls ∈ lc_T ∧ Cond.codeWith y b mL ret hh ∈ lc_T) ∧ y.cls ≠ "java/lang/invoke/MethodHandle" ∧ y.cls ≠ "java/lang/invoke/VarHandle" ∧ (parseMethodDescriptor y.desc).map (fun d => d.parameters.length) = some nA
def lc_JX (S : lc_Se) (X : lc_X) (n k j : Nat) (Q : State → Prop) (pc : Nat) (lo : List (Nat × Value)) (st : List Value) (M : lc_MM) (E : String) (q : Nat) : Prop :=
  ∀ (H : Heap) (locs : List Loc) (ls : Array Slot) (ce : Cell), lc_G S M (lc_Xs X) H locs → lv_has ls n lo → H[q]? = some ce → ce.vm = .none → (lc_Xs X).vm.findClass E = some ce.cls → vx_W X.1 X.2.1 X.2.2.1 (lc_Xr X) (lc_Xs X) X.2.2.2.2.2.1 X.2.2.2.2.2.2.1 X.2.2.2.2.2.2.2.1 X.2.2.2.2.2.2.2.2.1 X.2.2.2.2.2.2.2.2.2 H locs k j Q (F0 X.2.2.2.2.2.1 pc ls st) q
section LCW
variable {S : lc_Se} {X : lc_X} {cc : ByteArray} {own : String} {rt : Option FieldType} {rm : Room} {n k j : Nat} {Q : State → Prop} {pc pc' : Nat} {lo lo' : List (Nat × Value)} {st : List Value} {M M' : lc_MM}
theorem lc_cvx (C : lc_C X cc own n rt rm) {ix mL nA a q0 ci : Nat} {y : MethodName} {b : ByteArray} {ret : Option FieldType} {R' : Room} {As rest : List Value} {fs : List Value} {cq : vw_C} {e : Nat} {r : Int32} (hM : lc_MX S X.2.1 y b mL ret R' (.ref a :: As) M e r M') (hf : lc_kV own ix y b mL ret nA) (he : (lc_w S M)[q0]? = some (a, .inr (ci, fs))) (hc : vwCl[ci]? = some cq) (hq1 : cq.1 = y.cls) (hn : As.length = nA) (hst : st = As.reverse ++ .ref a :: rest) (hcat : (rest.map fun v => v.category).sum ≤ 8) (hR : R'.frames + 1 ≤ rm.frames ∧ 8 + (mL + 11) + R'.locals ≤ rm.locals) (hcs : k + R'.cells ≤ rm.cells ∧ j + R'.slots ≤ rm.slots) (d : decode cc pc = .ok (.invokevirtual ix, 3)) (hq : pc + 3 = pc') (kk : e = 0 → lc_J S X n (k + R'.cells) (j + R'.slots) Q pc' lo (.int r :: rest) M') (kx : ∀ (E : String) (q9 : Nat), lc_ex e E → lc_JX S X n (k + R'.cells) (j + R'.slots) Q pc lo rest M' E q9) : lc_J S X n k j Q pc lo st M := by
  subst hq; subst hst
  have hr := C.2.2.2.2.2.2.2
  intro H locs ls hG h
  have hA1 : ∀ q : Nat, lc_A S q → lc_A S q := fun _ z => z
  refine vx_calli (vx_runV (C := y.cls) (lc_fix C) hM ⟨lc_cB C hf.1.1 hf.1.2.2.2.1 hf.1.2.2.2.2 hf.2 hR, C.2.2.2.2.1 _ hf.1.2.1, C.2.2.2.2.1 _ hf.1.2.2.1⟩ ⟨lc_blind S M _, hq1 ▸ va_recv hG.1 hG.2.1 hc he, fun U hU hW => ⟨rfl, lc_GB hG hU hW⟩⟩ rfl hn h.1 rfl (lv_room hcat) d (by rw [hr]; exact hcs)) hG.2.2.2.1 (fun q _ z => z) hA1 (fun q _ z => z)
    (fun E ce q9 u t H1 l1 ht hal hp hB hz hk hS hce hcv hcl => ?_) (fun x u t H1 l1 ht hvm hp hB hz hk hS => ?_)
  · exact kx E q9 hB.1 H1 l1 ls ce ⟨va_K.moved hal.symm hB.2.2.2.1, ht ▸ hB.2.2.1, hB.2.2.2.2, hS, hG.2.2.2.2⟩ h hce hcv hcl
  · obtain ⟨h0, rfl⟩ := hp
    exact kk h0 H1 l1 ls (lc_back (base := 0) hG.2.2.2.2 ht hvm hB hS) h
theorem lc_catch (C : lc_C X cc own n rt rm) {hh pre suf : List (Nat × Nat × Nat × Nat)} {z : Nat × Nat × Nat × Nat} {E : String} {q : Nat} (ht : X.2.2.2.2.2.2.2.2.2.exceptionTable.toList = tableOf hh) (hsp : hh = pre ++ z :: suf) (hpass : ∀ w ∈ pre, w.2.2.2 ≠ 0 ∧ ∃ nm : String, Cond.classLink own w.2.2.2 nm ∈ lc_T ∧ ∀ U, lc_N2 U → va_Nc E nm U) (hx1 : z.1 ≤ pc) (hx2 : pc < z.2.1) (h0 : z.2.2.2 ≠ 0) (hlink : Cond.classLink own z.2.2.2 E ∈ lc_T) (hcast : ∀ U, lc_N2 U → va_Nw (.castable E E) U) (hh2 : z.2.2.1 = pc') (kk : lc_J S X n k j Q pc' lo [.ref q] M) : lc_JX S X n k j Q pc lo st M E q := by
  subst hh2
  intro H locs ls ce hG h hce hcv hcl
  refine vx_catch (own := own) (name := E) C.2.2.2.1 (tableOf pre) ⟨z.1, z.2.1, z.2.2.1, z.2.2.2⟩ (tableOf suf) (by rw [ht, hsp]; simp [tableOf]) (fun v hv => ?_) (by simp [covers, hx1, hx2]) h0 (C.2.2.2.2.1 _ hlink) (va_Nw.use rfl (hcast _ hG.2.2.2.2.2.2.1)) hce hcv hcl (kk H locs ls hG h)
  obtain ⟨w, hw, rfl⟩ := List.mem_map.mp hv
  obtain ⟨g0, nm, g1, g2⟩ := hpass w hw
  exact Or.inr ⟨g0, nm, C.2.2.2.2.1 _ g1, g2 _ hG.2.2.2.2.2.2.1⟩
theorem lc_at206 (S : lc_Se) (M : lc_MM) : (lc_w S M)[206]? = some (lc_ad S 206, .inl (lc_cl S 4, 1, .inr (.inl (fun j => (M 23 0 j).toInt64)))) := by
  rw [lc_w_at S M (by decide)]; rfl
theorem lc_st206 (S : lc_Se) (M : lc_MM) (v : Int32) : (lc_w S M).set 206 (lc_ad S 206, .inl (lc_cl S 4, 1, .inr (.inl (vp_updL (fun j => (M 23 0 j).toInt64) 0 v.toInt64)))) = lc_w S (lc_ms M 23 0 0 v) := by
  have e := lc_w_set S M (id := 206) (i := 0) (v := v) (by decide)
  have e2 : (lc_w S M).set 206 (lc_ad S 206, .inl (lc_cl S 4, 1, .inr (.inl (fun j => (upd (M 23 0) 0 v j).toInt64)))) = lc_w S (lc_ms M 23 0 0 v) := e
  have e3 : (fun j => (upd (M 23 0) 0 v j).toInt64) = vp_updL (fun j => (M 23 0 j).toInt64) 0 v.toInt64 := by
    funext j
    unfold upd vp_updL
    split <;> rfl
  rw [e3] at e2
  exact e2
theorem lc_lld (C : lc_C X cc own n rt rm) (d : decode cc pc = .ok (.laload, 1)) (hq : pc + 1 = pc') (kk : lc_J S X n k j Q pc' lo (.long (M 23 0 0).toInt64 :: st) M) : lc_J S X n k j Q pc lo (.int 0 :: .ref (lc_ad S 206) :: st) M := by
  subst hq
  exact fun H locs ls hG h => va_lald C.1 C.2.1 hG.1 hG.2.1 206 4 (lc_at206 S M) rfl (show lc_ok (0 : Int32) 1 by decide) d (kk H locs ls hG h)
theorem lc_lst (C : lc_C X cc own n rt rm) {v : Int32} (hM : va_up M 23 (lc_ss (M 23) 0 0 v) = M') (d : decode cc pc = .ok (.lastore, 1)) (hq : pc + 1 = pc') (kk : lc_J S X n k j Q pc' lo st M') : lc_J S X n k j Q pc lo (.long v.toInt64 :: .int 0 :: .ref (lc_ad S 206) :: st) M := by
  subst hq; subst hM
  exact fun H locs ls hG h => va_last C.1 C.2.1 hG.1 hG.2.1 hG.2.2.1 hG.2.2.2.1 206 4 (lc_at206 S M) rfl (show lc_ok (0 : Int32) 1 by decide) d (fun H1 l1 p1 p2 p3 => kk H1 l1 ls ⟨hG.1, lc_st206 S M v ▸ p1, lc_st206 S M v ▸ p2, p3, hG.2.2.2.2⟩ h)
theorem lc_csW (C : lc_C X cc own n rt rm) {ix mL nA : Nat} {y : MethodName} {b : ByteArray} {ret : Option FieldType} {hh : List (Nat × Nat × Nat × Nat)} {R' : Room} {As rest : List Value} {r : Int32} (hM : lc_MIW S X.2.1 y b mL ret hh R' As M r M') (hf : lc_kW own ix y b mL ret hh nA) (hn : As.length = nA) (hst : st = As.reverse ++ rest) (hcat : (rest.map fun v => v.category).sum ≤ 8) (hR : R'.frames + 1 ≤ rm.frames ∧ 8 + (mL + 11) + R'.locals ≤ rm.locals) (hcs : k + R'.cells ≤ rm.cells ∧ j + R'.slots ≤ rm.slots) (d : decode cc pc = .ok (.invokestatic ix, 3)) (hq : pc + 3 = pc') (kk : lc_J S X n (k + R'.cells) (j + R'.slots) Q pc' lo (.int r :: rest) M') : lc_J S X n k j Q pc lo st M := by
  subst hq; subst hst
  have hr := C.2.2.2.2.2.2.2
  intro H locs ls hG h
  have hA1 : ∀ q : Nat, lc_A S q → lc_A S q := fun _ z => z
  have hin : ∀ w ∈ lc_wsW y b mL ret hh, w ∈ lc_T := fun w hw => by
    rcases List.mem_cons.mp hw with rfl | hw
    · exact hf.1.2.2.2
    · exact hw
  exact va_calli (vx_runSW (hh := hh) (lc_fix C) hM ⟨⟨rfl, rfl, by rw [hr]; exact hR.1, by rw [hr]; exact hR.2, pay_in C.2.2.2.2.1 (lc_good hin), List.mem_cons_self⟩, C.2.2.2.2.1 _ hf.1.2.2.2, C.2.2.2.2.1 _ hf.1.2.2.1, ⟨hf.2.1, hf.2.2.1⟩, fun sig hs => by have h2 := hf.2.2.2; rw [hs] at h2; exact (Option.some.inj h2).symm, C.2.2.2.2.1 _ hf.1.1, C.2.2.2.2.1 _ hf.1.2.1⟩ ⟨lc_blind S M _, fun U hU hW => ⟨rfl, lc_GB hG hU hW⟩⟩ rfl hn h.1 rfl (lv_room hcat) d (by rw [hr]; exact hcs)) hG.2.2.2.1 (fun q _ z => z) hA1 (fun x u t H1 l1 ht hvm hp hB hz hk hS => by subst hp; exact kk H1 l1 ls (lc_back (base := 0) hG.2.2.2.2 ht hvm hB hS) h)
end LCW
theorem pn_RL : plainName RL = true := by decide +kernel
theorem lc_cl13 : Cond.classLink RL 13 lc_E1 ∈ lc_T := lc_in (List.mem_of_getElem? (i := 340) (by decide +kernel)) rfl
theorem lc_cl15 : Cond.classLink RL 15 lc_E2 ∈ lc_T := lc_in (List.mem_of_getElem? (i := 341) (by decide +kernel)) rfl
theorem lc_cl28 : Cond.classLink RL 28 lc_E3 ∈ lc_T := lc_in (List.mem_of_getElem? (i := 470) (by decide +kernel)) rfl
abbrev rm_L_append : Room := { frames := 7, cells := 1, slots := 6, locals := 116 }
def P_L_append (x1 : Int32) (M : lc_MM) : Option (Int32 × lc_MM) :=
  lc_bd3 (P_X3_append x1 M) (fun e r M1 => if e = 0 then lc_let (va_up M1 23 (lc_ss (M1 23) 0 0 r)) (fun M2 => some (0, M2)) else if e = 1 then some (1, M1) else if e = 2 then some (2, M1) else none)
theorem kw_L_append : lc_kW RL 92 yL_append cL_append 4 (some .int) [(0, 9, 12, 13), (0, 9, 15, 15)] 3 := ⟨⟨lc_in (List.mem_of_getElem? (i := 337) (by decide +kernel)) rfl, lc_in (List.mem_of_getElem? (i := 338) (by decide +kernel)) rfl, lc_in (List.mem_of_getElem? (i := 54) (by decide +kernel)) rfl, lc_in (List.mem_of_getElem? (i := 339) (by decide +kernel)) rfl⟩, by decide +kernel, by decide +kernel, by decide +kernel⟩
set_option maxRecDepth 100000 in
set_option maxHeartbeats 4000000 in
theorem c_L_append (S : lc_Se) (l : Launch) (hl : l.stackTraces = false) (x1 : Int32) (M : lc_MM) (out : Int32 × lc_MM) (h : P_L_append x1 M = some out) : lc_MIW S l yL_append cL_append 4 (some .int) [(0, 9, 12, 13), (0, 9, 15, 15)] rm_L_append [.ref (lc_ad S 194), .int x1, .ref (lc_ad S 206)] M out.1 out.2 := by
  refine lc_mkW (own := RL) pn_RL rfl (Nat.le_of_ble_eq_true rfl) (lo := [(0, .ref (lc_ad S 194)), (1, .int x1), (2, .ref (lc_ad S 206))]) rfl (fun X hX C ht => ?_)
  rw [P_L_append] at h
  subst hX
  refine lc_aload_n C (pc' := 1) 2 dL_append_0 rfl rfl ?_
  refine lc_iconst C (pc' := 2) (v := (0 : Int32)) dL_append_1 (by decide) rfl ?_
  refine lc_aload_n C (pc' := 3) 0 dL_append_2 rfl rfl ?_
  refine lc_iload_n C (pc' := 4) 1 dL_append_3 rfl rfl ?_
  obtain ⟨e, r, M1, h0, h⟩ := lc_bd3e h
  refine lc_cvx C (pc' := 7) (e := e) (r := r) (M' := M1) (As := [.int x1]) (rest := [.int (0 : Int32), .ref (lc_ad S 206)]) (c_X3_append S X.2.1 hl x1 M (e, r, M1) h0) kl_RL_7 (lc_at194 S _) rfl rfl rfl rfl (Nat.le_of_ble_eq_true rfl) ⟨Nat.le_of_ble_eq_true rfl, Nat.le_of_ble_eq_true rfl⟩ ⟨Nat.le_refl _, Nat.le_refl _⟩ dL_append_4 rfl (fun he => ?_) (fun E q9 hex => ?_)
  · subst he
    have h := (lc_if2 h).1 rfl
    obtain ⟨M2, e2, h⟩ := lc_let2 h
    obtain rfl := Option.some.inj h
    refine lc_i2l C (pc' := 8) dL_append_7 rfl ?_
    refine lc_lst C (pc' := 9) (M' := M2) e2 dL_append_8 rfl ?_
    refine lc_goto C (tgt := 18) dL_append_9 (by decide) ?_
    refine lc_iconst C (pc' := 19) (v := (0 : Int32)) dL_append_18 (by decide) rfl ?_
    exact lc_iret C rfl dL_append_19
  · rcases hex with ⟨rfl, rfl⟩ | ⟨rfl, rfl⟩ | ⟨rfl, rfl⟩
    · have h := (lc_if2 h).2 (by decide)
      have h := (lc_if2 h).1 rfl
      obtain rfl := Option.some.inj h
      refine lc_catch C (pc' := 12) (hh := [(0, 9, 12, 13), (0, 9, 15, 15)]) (pre := []) (z := (0, 9, 12, 13)) (suf := [(0, 9, 15, 15)]) ht rfl (fun w hw => by cases hw) (by decide) (by decide) (by decide) lc_cl13 (fun U hU => hU.2.1.1) rfl ?_
      refine lc_astore_n C (pc' := 13) (lo' := [(3, .ref q9), (0, .ref (lc_ad S 194)), (1, .int x1), (2, .ref (lc_ad S 206))]) dL_append_12 (Nat.le_of_ble_eq_true rfl) rfl rfl ?_
      refine lc_iconst C (pc' := 14) (v := (1 : Int32)) dL_append_13 (by decide) rfl ?_
      exact lc_iret C rfl dL_append_14
    · have h := (lc_if2 h).2 (by decide)
      have h := (lc_if2 h).2 (by decide)
      have h := (lc_if2 h).1 rfl
      obtain rfl := Option.some.inj h
      refine lc_catch C (pc' := 15) (hh := [(0, 9, 12, 13), (0, 9, 15, 15)]) (pre := [(0, 9, 12, 13)]) (z := (0, 9, 15, 15)) (suf := []) ht rfl (fun w hw => by rcases List.mem_singleton.mp hw with rfl; exact ⟨by decide, _, lc_cl13, fun U hU => hU.2.2.2.2.1⟩) (by decide) (by decide) (by decide) lc_cl15 (fun U hU => hU.2.1.2.1) rfl ?_
      refine lc_astore_n C (pc' := 16) (lo' := [(3, .ref q9), (0, .ref (lc_ad S 194)), (1, .int x1), (2, .ref (lc_ad S 206))]) dL_append_15 (Nat.le_of_ble_eq_true rfl) rfl rfl ?_
      refine lc_iconst C (pc' := 17) (v := (2 : Int32)) dL_append_16 (by decide) rfl ?_
      exact lc_iret C rfl dL_append_17
    · have h := (lc_if2 h).2 (by decide)
      have h := (lc_if2 h).2 (by decide)
      have h := (lc_if2 h).2 (by decide)
      cases h
abbrev rm_L_load : Room := { frames := 8, cells := 1, slots := 6, locals := 180 }
def P_L_load  (M : lc_MM) : Option (Int32 × lc_MM) :=
  lc_bd3 (P_X3_load  M) (fun e r M1 => if e = 0 then lc_let (va_up M1 23 (lc_ss (M1 23) 0 0 r)) (fun M2 => some (0, M2)) else if e = 2 then some (1, M1) else none)
theorem kw_L_load : lc_kW RL 109 yL_load cL_load 3 (some .int) [(0, 8, 11, 15)] 2 := ⟨⟨lc_in (List.mem_of_getElem? (i := 435) (by decide +kernel)) rfl, lc_in (List.mem_of_getElem? (i := 436) (by decide +kernel)) rfl, lc_in (List.mem_of_getElem? (i := 54) (by decide +kernel)) rfl, lc_in (List.mem_of_getElem? (i := 437) (by decide +kernel)) rfl⟩, by decide +kernel, by decide +kernel, by decide +kernel⟩
set_option maxRecDepth 100000 in
set_option maxHeartbeats 4000000 in
theorem c_L_load (S : lc_Se) (l : Launch) (hl : l.stackTraces = false)  (M : lc_MM) (out : Int32 × lc_MM) (h : P_L_load  M = some out) : lc_MIW S l yL_load cL_load 3 (some .int) [(0, 8, 11, 15)] rm_L_load [.ref (lc_ad S 194), .ref (lc_ad S 206)] M out.1 out.2 := by
  refine lc_mkW (own := RL) pn_RL rfl (Nat.le_of_ble_eq_true rfl) (lo := [(0, .ref (lc_ad S 194)), (1, .ref (lc_ad S 206))]) rfl (fun X hX C ht => ?_)
  rw [P_L_load] at h
  subst hX
  refine lc_aload_n C (pc' := 1) 1 dL_load_0 rfl rfl ?_
  refine lc_iconst C (pc' := 2) (v := (0 : Int32)) dL_load_1 (by decide) rfl ?_
  refine lc_aload_n C (pc' := 3) 0 dL_load_2 rfl rfl ?_
  obtain ⟨e, r, M1, h0, h⟩ := lc_bd3e h
  refine lc_cvx C (pc' := 6) (e := e) (r := r) (M' := M1) (As := []) (rest := [.int (0 : Int32), .ref (lc_ad S 206)]) (c_X3_load S X.2.1 hl  M (e, r, M1) h0) kl_RL_17 (lc_at194 S _) rfl rfl rfl rfl (Nat.le_of_ble_eq_true rfl) ⟨Nat.le_of_ble_eq_true rfl, Nat.le_of_ble_eq_true rfl⟩ ⟨Nat.le_refl _, Nat.le_refl _⟩ dL_load_3 rfl (fun he => ?_) (fun E q9 hex => ?_)
  · subst he
    have h := (lc_if2 h).1 rfl
    obtain ⟨M2, e2, h⟩ := lc_let2 h
    obtain rfl := Option.some.inj h
    refine lc_i2l C (pc' := 7) dL_load_6 rfl ?_
    refine lc_lst C (pc' := 8) (M' := M2) e2 dL_load_7 rfl ?_
    refine lc_goto C (tgt := 14) dL_load_8 (by decide) ?_
    refine lc_iconst C (pc' := 15) (v := (0 : Int32)) dL_load_14 (by decide) rfl ?_
    exact lc_iret C rfl dL_load_15
  · rcases hex with ⟨rfl, rfl⟩ | ⟨rfl, rfl⟩ | ⟨rfl, rfl⟩
    · have h := (lc_if2 h).2 (by decide)
      have h := (lc_if2 h).2 (by decide)
      cases h
    · have h := (lc_if2 h).2 (by decide)
      have h := (lc_if2 h).1 rfl
      obtain rfl := Option.some.inj h
      refine lc_catch C (pc' := 11) (hh := [(0, 8, 11, 15)]) (pre := []) (z := (0, 8, 11, 15)) (suf := []) ht rfl (fun w hw => by cases hw) (by decide) (by decide) (by decide) lc_cl15 (fun U hU => hU.2.1.2.1) rfl ?_
      refine lc_astore_n C (pc' := 12) (lo' := [(2, .ref q9), (0, .ref (lc_ad S 194)), (1, .ref (lc_ad S 206))]) dL_load_11 (Nat.le_of_ble_eq_true rfl) rfl rfl ?_
      refine lc_iconst C (pc' := 13) (v := (1 : Int32)) dL_load_12 (by decide) rfl ?_
      exact lc_iret C rfl dL_load_13
    · have h := (lc_if2 h).2 (by decide)
      have h := (lc_if2 h).2 (by decide)
      cases h
abbrev rm_L_about : Room := { frames := 7, cells := 1, slots := 6, locals := 116 }
def P_L_about (x1 : Int32) (M : lc_MM) : Option (Int32 × lc_MM) :=
  lc_bd3 (P_X3_about x1 M) (fun e r M1 => if e = 0 then lc_let (va_up M1 23 (lc_ss (M1 23) 0 0 r)) (fun M2 => some (0, M2)) else if e = 1 then some (1, M1) else none)
theorem kw_L_about : lc_kW RL 113 yL_about cL_about 4 (some .int) [(0, 9, 12, 13)] 3 := ⟨⟨lc_in (List.mem_of_getElem? (i := 447) (by decide +kernel)) rfl, lc_in (List.mem_of_getElem? (i := 448) (by decide +kernel)) rfl, lc_in (List.mem_of_getElem? (i := 54) (by decide +kernel)) rfl, lc_in (List.mem_of_getElem? (i := 449) (by decide +kernel)) rfl⟩, by decide +kernel, by decide +kernel, by decide +kernel⟩
set_option maxRecDepth 100000 in
set_option maxHeartbeats 4000000 in
theorem c_L_about (S : lc_Se) (l : Launch) (hl : l.stackTraces = false) (x1 : Int32) (M : lc_MM) (out : Int32 × lc_MM) (h : P_L_about x1 M = some out) : lc_MIW S l yL_about cL_about 4 (some .int) [(0, 9, 12, 13)] rm_L_about [.ref (lc_ad S 194), .int x1, .ref (lc_ad S 206)] M out.1 out.2 := by
  refine lc_mkW (own := RL) pn_RL rfl (Nat.le_of_ble_eq_true rfl) (lo := [(0, .ref (lc_ad S 194)), (1, .int x1), (2, .ref (lc_ad S 206))]) rfl (fun X hX C ht => ?_)
  rw [P_L_about] at h
  subst hX
  refine lc_aload_n C (pc' := 1) 2 dL_about_0 rfl rfl ?_
  refine lc_iconst C (pc' := 2) (v := (0 : Int32)) dL_about_1 (by decide) rfl ?_
  refine lc_aload_n C (pc' := 3) 0 dL_about_2 rfl rfl ?_
  refine lc_iload_n C (pc' := 4) 1 dL_about_3 rfl rfl ?_
  obtain ⟨e, r, M1, h0, h⟩ := lc_bd3e h
  refine lc_cvx C (pc' := 7) (e := e) (r := r) (M' := M1) (As := [.int x1]) (rest := [.int (0 : Int32), .ref (lc_ad S 206)]) (c_X3_about S X.2.1 hl x1 M (e, r, M1) h0) kl_RL_21 (lc_at194 S _) rfl rfl rfl rfl (Nat.le_of_ble_eq_true rfl) ⟨Nat.le_of_ble_eq_true rfl, Nat.le_of_ble_eq_true rfl⟩ ⟨Nat.le_refl _, Nat.le_refl _⟩ dL_about_4 rfl (fun he => ?_) (fun E q9 hex => ?_)
  · subst he
    have h := (lc_if2 h).1 rfl
    obtain ⟨M2, e2, h⟩ := lc_let2 h
    obtain rfl := Option.some.inj h
    refine lc_i2l C (pc' := 8) dL_about_7 rfl ?_
    refine lc_lst C (pc' := 9) (M' := M2) e2 dL_about_8 rfl ?_
    refine lc_goto C (tgt := 15) dL_about_9 (by decide) ?_
    refine lc_iconst C (pc' := 16) (v := (0 : Int32)) dL_about_15 (by decide) rfl ?_
    exact lc_iret C rfl dL_about_16
  · rcases hex with ⟨rfl, rfl⟩ | ⟨rfl, rfl⟩ | ⟨rfl, rfl⟩
    · have h := (lc_if2 h).2 (by decide)
      have h := (lc_if2 h).1 rfl
      obtain rfl := Option.some.inj h
      refine lc_catch C (pc' := 12) (hh := [(0, 9, 12, 13)]) (pre := []) (z := (0, 9, 12, 13)) (suf := []) ht rfl (fun w hw => by cases hw) (by decide) (by decide) (by decide) lc_cl13 (fun U hU => hU.2.1.1) rfl ?_
      refine lc_astore_n C (pc' := 13) (lo' := [(3, .ref q9), (0, .ref (lc_ad S 194)), (1, .int x1), (2, .ref (lc_ad S 206))]) dL_about_12 (Nat.le_of_ble_eq_true rfl) rfl rfl ?_
      refine lc_iconst C (pc' := 14) (v := (1 : Int32)) dL_about_13 (by decide) rfl ?_
      exact lc_iret C rfl dL_about_14
    · have h := (lc_if2 h).2 (by decide)
      have h := (lc_if2 h).2 (by decide)
      cases h
    · have h := (lc_if2 h).2 (by decide)
      have h := (lc_if2 h).2 (by decide)
      cases h
abbrev rm_L_cell : Room := { frames := 7, cells := 1, slots := 6, locals := 117 }
def P_L_cell (x1 : Int32) (x2 : Int32) (M : lc_MM) : Option (Int32 × lc_MM) :=
  lc_bd3 (P_X3_cell x1 x2 M) (fun e r M1 => if e = 0 then lc_let (va_up M1 23 (lc_ss (M1 23) 0 0 r)) (fun M2 => some (0, M2)) else if e = 3 then some (1, M1) else if e = 1 then some (2, M1) else none)
theorem kw_L_cell : lc_kW RL 116 yL_cell cL_cell 5 (some .int) [(0, 10, 13, 28), (0, 10, 17, 13)] 4 := ⟨⟨lc_in (List.mem_of_getElem? (i := 467) (by decide +kernel)) rfl, lc_in (List.mem_of_getElem? (i := 468) (by decide +kernel)) rfl, lc_in (List.mem_of_getElem? (i := 54) (by decide +kernel)) rfl, lc_in (List.mem_of_getElem? (i := 469) (by decide +kernel)) rfl⟩, by decide +kernel, by decide +kernel, by decide +kernel⟩
set_option maxRecDepth 100000 in
set_option maxHeartbeats 4000000 in
theorem c_L_cell (S : lc_Se) (l : Launch) (hl : l.stackTraces = false) (x1 : Int32) (x2 : Int32) (M : lc_MM) (out : Int32 × lc_MM) (h : P_L_cell x1 x2 M = some out) : lc_MIW S l yL_cell cL_cell 5 (some .int) [(0, 10, 13, 28), (0, 10, 17, 13)] rm_L_cell [.ref (lc_ad S 194), .int x1, .int x2, .ref (lc_ad S 206)] M out.1 out.2 := by
  refine lc_mkW (own := RL) pn_RL rfl (Nat.le_of_ble_eq_true rfl) (lo := [(0, .ref (lc_ad S 194)), (1, .int x1), (2, .int x2), (3, .ref (lc_ad S 206))]) rfl (fun X hX C ht => ?_)
  rw [P_L_cell] at h
  subst hX
  refine lc_aload_n C (pc' := 1) 3 dL_cell_0 rfl rfl ?_
  refine lc_iconst C (pc' := 2) (v := (0 : Int32)) dL_cell_1 (by decide) rfl ?_
  refine lc_aload_n C (pc' := 3) 0 dL_cell_2 rfl rfl ?_
  refine lc_iload_n C (pc' := 4) 1 dL_cell_3 rfl rfl ?_
  refine lc_iload_n C (pc' := 5) 2 dL_cell_4 rfl rfl ?_
  obtain ⟨e, r, M1, h0, h⟩ := lc_bd3e h
  refine lc_cvx C (pc' := 8) (e := e) (r := r) (M' := M1) (As := [.int x1, .int x2]) (rest := [.int (0 : Int32), .ref (lc_ad S 206)]) (c_X3_cell S X.2.1 hl x1 x2 M (e, r, M1) h0) kl_RL_24 (lc_at194 S _) rfl rfl rfl rfl (Nat.le_of_ble_eq_true rfl) ⟨Nat.le_of_ble_eq_true rfl, Nat.le_of_ble_eq_true rfl⟩ ⟨Nat.le_refl _, Nat.le_refl _⟩ dL_cell_5 rfl (fun he => ?_) (fun E q9 hex => ?_)
  · subst he
    have h := (lc_if2 h).1 rfl
    obtain ⟨M2, e2, h⟩ := lc_let2 h
    obtain rfl := Option.some.inj h
    refine lc_i2l C (pc' := 9) dL_cell_8 rfl ?_
    refine lc_lst C (pc' := 10) (M' := M2) e2 dL_cell_9 rfl ?_
    refine lc_goto C (tgt := 21) dL_cell_10 (by decide) ?_
    refine lc_iconst C (pc' := 22) (v := (0 : Int32)) dL_cell_21 (by decide) rfl ?_
    exact lc_iret C rfl dL_cell_22
  · rcases hex with ⟨rfl, rfl⟩ | ⟨rfl, rfl⟩ | ⟨rfl, rfl⟩
    · have h := (lc_if2 h).2 (by decide)
      have h := (lc_if2 h).2 (by decide)
      have h := (lc_if2 h).1 rfl
      obtain rfl := Option.some.inj h
      refine lc_catch C (pc' := 17) (hh := [(0, 10, 13, 28), (0, 10, 17, 13)]) (pre := [(0, 10, 13, 28)]) (z := (0, 10, 17, 13)) (suf := []) ht rfl (fun w hw => by rcases List.mem_singleton.mp hw with rfl; exact ⟨by decide, _, lc_cl28, fun U hU => hU.2.2.2.1⟩) (by decide) (by decide) (by decide) lc_cl13 (fun U hU => hU.2.1.1) rfl ?_
      refine lc_astore C (pc' := 19) (lo' := [(4, .ref q9), (0, .ref (lc_ad S 194)), (1, .int x1), (2, .int x2), (3, .ref (lc_ad S 206))]) dL_cell_17 (Nat.le_of_ble_eq_true rfl) rfl rfl ?_
      refine lc_iconst C (pc' := 20) (v := (2 : Int32)) dL_cell_19 (by decide) rfl ?_
      exact lc_iret C rfl dL_cell_20
    · have h := (lc_if2 h).2 (by decide)
      have h := (lc_if2 h).2 (by decide)
      have h := (lc_if2 h).2 (by decide)
      cases h
    · have h := (lc_if2 h).2 (by decide)
      have h := (lc_if2 h).1 rfl
      obtain rfl := Option.some.inj h
      refine lc_catch C (pc' := 13) (hh := [(0, 10, 13, 28), (0, 10, 17, 13)]) (pre := []) (z := (0, 10, 13, 28)) (suf := [(0, 10, 17, 13)]) ht rfl (fun w hw => by cases hw) (by decide) (by decide) (by decide) lc_cl28 (fun U hU => hU.2.1.2.2) rfl ?_
      refine lc_astore C (pc' := 15) (lo' := [(4, .ref q9), (0, .ref (lc_ad S 194)), (1, .int x1), (2, .int x2), (3, .ref (lc_ad S 206))]) dL_cell_13 (Nat.le_of_ble_eq_true rfl) rfl rfl ?_
      refine lc_iconst C (pc' := 16) (v := (1 : Int32)) dL_cell_15 (by decide) rfl ?_
      exact lc_iret C rfl dL_cell_16
abbrev rm_L_loan : Room := { frames := 7, cells := 1, slots := 6, locals := 117 }
def P_L_loan (x1 : Int32) (x2 : Int32) (M : lc_MM) : Option (Int32 × lc_MM) :=
  lc_bd3 (P_X3_loan x1 x2 M) (fun e r M1 => if e = 0 then lc_let (va_up M1 23 (lc_ss (M1 23) 0 0 r)) (fun M2 => some (0, M2)) else if e = 3 then some (1, M1) else if e = 1 then some (2, M1) else none)
theorem kw_L_loan : lc_kW RL 120 yL_loan cL_loan 5 (some .int) [(0, 10, 13, 28), (0, 10, 17, 13)] 4 := ⟨⟨lc_in (List.mem_of_getElem? (i := 518) (by decide +kernel)) rfl, lc_in (List.mem_of_getElem? (i := 519) (by decide +kernel)) rfl, lc_in (List.mem_of_getElem? (i := 54) (by decide +kernel)) rfl, lc_in (List.mem_of_getElem? (i := 520) (by decide +kernel)) rfl⟩, by decide +kernel, by decide +kernel, by decide +kernel⟩
set_option maxRecDepth 100000 in
set_option maxHeartbeats 4000000 in
theorem c_L_loan (S : lc_Se) (l : Launch) (hl : l.stackTraces = false) (x1 : Int32) (x2 : Int32) (M : lc_MM) (out : Int32 × lc_MM) (h : P_L_loan x1 x2 M = some out) : lc_MIW S l yL_loan cL_loan 5 (some .int) [(0, 10, 13, 28), (0, 10, 17, 13)] rm_L_loan [.ref (lc_ad S 194), .int x1, .int x2, .ref (lc_ad S 206)] M out.1 out.2 := by
  refine lc_mkW (own := RL) pn_RL rfl (Nat.le_of_ble_eq_true rfl) (lo := [(0, .ref (lc_ad S 194)), (1, .int x1), (2, .int x2), (3, .ref (lc_ad S 206))]) rfl (fun X hX C ht => ?_)
  rw [P_L_loan] at h
  subst hX
  refine lc_aload_n C (pc' := 1) 3 dL_loan_0 rfl rfl ?_
  refine lc_iconst C (pc' := 2) (v := (0 : Int32)) dL_loan_1 (by decide) rfl ?_
  refine lc_aload_n C (pc' := 3) 0 dL_loan_2 rfl rfl ?_
  refine lc_iload_n C (pc' := 4) 1 dL_loan_3 rfl rfl ?_
  refine lc_iload_n C (pc' := 5) 2 dL_loan_4 rfl rfl ?_
  obtain ⟨e, r, M1, h0, h⟩ := lc_bd3e h
  refine lc_cvx C (pc' := 8) (e := e) (r := r) (M' := M1) (As := [.int x1, .int x2]) (rest := [.int (0 : Int32), .ref (lc_ad S 206)]) (c_X3_loan S X.2.1 hl x1 x2 M (e, r, M1) h0) kl_RL_30 (lc_at194 S _) rfl rfl rfl rfl (Nat.le_of_ble_eq_true rfl) ⟨Nat.le_of_ble_eq_true rfl, Nat.le_of_ble_eq_true rfl⟩ ⟨Nat.le_refl _, Nat.le_refl _⟩ dL_loan_5 rfl (fun he => ?_) (fun E q9 hex => ?_)
  · subst he
    have h := (lc_if2 h).1 rfl
    obtain ⟨M2, e2, h⟩ := lc_let2 h
    obtain rfl := Option.some.inj h
    refine lc_i2l C (pc' := 9) dL_loan_8 rfl ?_
    refine lc_lst C (pc' := 10) (M' := M2) e2 dL_loan_9 rfl ?_
    refine lc_goto C (tgt := 21) dL_loan_10 (by decide) ?_
    refine lc_iconst C (pc' := 22) (v := (0 : Int32)) dL_loan_21 (by decide) rfl ?_
    exact lc_iret C rfl dL_loan_22
  · rcases hex with ⟨rfl, rfl⟩ | ⟨rfl, rfl⟩ | ⟨rfl, rfl⟩
    · have h := (lc_if2 h).2 (by decide)
      have h := (lc_if2 h).2 (by decide)
      have h := (lc_if2 h).1 rfl
      obtain rfl := Option.some.inj h
      refine lc_catch C (pc' := 17) (hh := [(0, 10, 13, 28), (0, 10, 17, 13)]) (pre := [(0, 10, 13, 28)]) (z := (0, 10, 17, 13)) (suf := []) ht rfl (fun w hw => by rcases List.mem_singleton.mp hw with rfl; exact ⟨by decide, _, lc_cl28, fun U hU => hU.2.2.2.1⟩) (by decide) (by decide) (by decide) lc_cl13 (fun U hU => hU.2.1.1) rfl ?_
      refine lc_astore C (pc' := 19) (lo' := [(4, .ref q9), (0, .ref (lc_ad S 194)), (1, .int x1), (2, .int x2), (3, .ref (lc_ad S 206))]) dL_loan_17 (Nat.le_of_ble_eq_true rfl) rfl rfl ?_
      refine lc_iconst C (pc' := 20) (v := (2 : Int32)) dL_loan_19 (by decide) rfl ?_
      exact lc_iret C rfl dL_loan_20
    · have h := (lc_if2 h).2 (by decide)
      have h := (lc_if2 h).2 (by decide)
      have h := (lc_if2 h).2 (by decide)
      cases h
    · have h := (lc_if2 h).2 (by decide)
      have h := (lc_if2 h).1 rfl
      obtain rfl := Option.some.inj h
      refine lc_catch C (pc' := 13) (hh := [(0, 10, 13, 28), (0, 10, 17, 13)]) (pre := []) (z := (0, 10, 13, 28)) (suf := [(0, 10, 17, 13)]) ht rfl (fun w hw => by cases hw) (by decide) (by decide) (by decide) lc_cl28 (fun U hU => hU.2.1.2.2) rfl ?_
      refine lc_astore C (pc' := 15) (lo' := [(4, .ref q9), (0, .ref (lc_ad S 194)), (1, .int x1), (2, .int x2), (3, .ref (lc_ad S 206))]) dL_loan_13 (Nat.le_of_ble_eq_true rfl) rfl rfl ?_
      refine lc_iconst C (pc' := 16) (v := (1 : Int32)) dL_loan_15 (by decide) rfl ?_
      exact lc_iret C rfl dL_loan_16
abbrev rm_L_order : Room := { frames := 7, cells := 1, slots := 6, locals := 116 }
def P_L_order (x1 : Int32) (M : lc_MM) : Option (Int32 × lc_MM) :=
  lc_bd3 (P_X3_order x1 M) (fun e r M1 => if e = 0 then lc_let (va_up M1 23 (lc_ss (M1 23) 0 0 r)) (fun M2 => some (0, M2)) else if e = 1 then some (1, M1) else none)
theorem kw_L_order : lc_kW RL 123 yL_order cL_order 4 (some .int) [(0, 9, 12, 13)] 3 := ⟨⟨lc_in (List.mem_of_getElem? (i := 529) (by decide +kernel)) rfl, lc_in (List.mem_of_getElem? (i := 530) (by decide +kernel)) rfl, lc_in (List.mem_of_getElem? (i := 54) (by decide +kernel)) rfl, lc_in (List.mem_of_getElem? (i := 531) (by decide +kernel)) rfl⟩, by decide +kernel, by decide +kernel, by decide +kernel⟩
set_option maxRecDepth 100000 in
set_option maxHeartbeats 4000000 in
theorem c_L_order (S : lc_Se) (l : Launch) (hl : l.stackTraces = false) (x1 : Int32) (M : lc_MM) (out : Int32 × lc_MM) (h : P_L_order x1 M = some out) : lc_MIW S l yL_order cL_order 4 (some .int) [(0, 9, 12, 13)] rm_L_order [.ref (lc_ad S 194), .int x1, .ref (lc_ad S 206)] M out.1 out.2 := by
  refine lc_mkW (own := RL) pn_RL rfl (Nat.le_of_ble_eq_true rfl) (lo := [(0, .ref (lc_ad S 194)), (1, .int x1), (2, .ref (lc_ad S 206))]) rfl (fun X hX C ht => ?_)
  rw [P_L_order] at h
  subst hX
  refine lc_aload_n C (pc' := 1) 2 dL_order_0 rfl rfl ?_
  refine lc_iconst C (pc' := 2) (v := (0 : Int32)) dL_order_1 (by decide) rfl ?_
  refine lc_aload_n C (pc' := 3) 0 dL_order_2 rfl rfl ?_
  refine lc_iload_n C (pc' := 4) 1 dL_order_3 rfl rfl ?_
  obtain ⟨e, r, M1, h0, h⟩ := lc_bd3e h
  refine lc_cvx C (pc' := 7) (e := e) (r := r) (M' := M1) (As := [.int x1]) (rest := [.int (0 : Int32), .ref (lc_ad S 206)]) (c_X3_order S X.2.1 hl x1 M (e, r, M1) h0) kl_RL_33 (lc_at194 S _) rfl rfl rfl rfl (Nat.le_of_ble_eq_true rfl) ⟨Nat.le_of_ble_eq_true rfl, Nat.le_of_ble_eq_true rfl⟩ ⟨Nat.le_refl _, Nat.le_refl _⟩ dL_order_4 rfl (fun he => ?_) (fun E q9 hex => ?_)
  · subst he
    have h := (lc_if2 h).1 rfl
    obtain ⟨M2, e2, h⟩ := lc_let2 h
    obtain rfl := Option.some.inj h
    refine lc_i2l C (pc' := 8) dL_order_7 rfl ?_
    refine lc_lst C (pc' := 9) (M' := M2) e2 dL_order_8 rfl ?_
    refine lc_goto C (tgt := 15) dL_order_9 (by decide) ?_
    refine lc_iconst C (pc' := 16) (v := (0 : Int32)) dL_order_15 (by decide) rfl ?_
    exact lc_iret C rfl dL_order_16
  · rcases hex with ⟨rfl, rfl⟩ | ⟨rfl, rfl⟩ | ⟨rfl, rfl⟩
    · have h := (lc_if2 h).2 (by decide)
      have h := (lc_if2 h).1 rfl
      obtain rfl := Option.some.inj h
      refine lc_catch C (pc' := 12) (hh := [(0, 9, 12, 13)]) (pre := []) (z := (0, 9, 12, 13)) (suf := []) ht rfl (fun w hw => by cases hw) (by decide) (by decide) (by decide) lc_cl13 (fun U hU => hU.2.1.1) rfl ?_
      refine lc_astore_n C (pc' := 13) (lo' := [(3, .ref q9), (0, .ref (lc_ad S 194)), (1, .int x1), (2, .ref (lc_ad S 206))]) dL_order_12 (Nat.le_of_ble_eq_true rfl) rfl rfl ?_
      refine lc_iconst C (pc' := 14) (v := (1 : Int32)) dL_order_13 (by decide) rfl ?_
      exact lc_iret C rfl dL_order_14
    · have h := (lc_if2 h).2 (by decide)
      have h := (lc_if2 h).2 (by decide)
      cases h
    · have h := (lc_if2 h).2 (by decide)
      have h := (lc_if2 h).2 (by decide)
      cases h
abbrev rm_L_addCell : Room := { frames := 7, cells := 1, slots := 6, locals := 118 }
def P_L_addCell (x1 : Int32) (x2 : Int32) (x3 : Int32) (M : lc_MM) : Option (Int32 × lc_MM) :=
  lc_bd3 (P_X3_addCell x1 x2 x3 M) (fun e r M1 => if e = 0 then lc_let (va_up M1 23 (lc_ss (M1 23) 0 0 r)) (fun M2 => some (0, M2)) else if e = 1 then some (1, M1) else if e = 2 then some (2, M1) else none)
theorem kw_L_addCell : lc_kW RL 126 yL_addCell cL_addCell 6 (some .int) [(0, 12, 15, 13), (0, 12, 19, 15)] 5 := ⟨⟨lc_in (List.mem_of_getElem? (i := 545) (by decide +kernel)) rfl, lc_in (List.mem_of_getElem? (i := 546) (by decide +kernel)) rfl, lc_in (List.mem_of_getElem? (i := 54) (by decide +kernel)) rfl, lc_in (List.mem_of_getElem? (i := 547) (by decide +kernel)) rfl⟩, by decide +kernel, by decide +kernel, by decide +kernel⟩
set_option maxRecDepth 100000 in
set_option maxHeartbeats 4000000 in
theorem c_L_addCell (S : lc_Se) (l : Launch) (hl : l.stackTraces = false) (x1 : Int32) (x2 : Int32) (x3 : Int32) (M : lc_MM) (out : Int32 × lc_MM) (h : P_L_addCell x1 x2 x3 M = some out) : lc_MIW S l yL_addCell cL_addCell 6 (some .int) [(0, 12, 15, 13), (0, 12, 19, 15)] rm_L_addCell [.ref (lc_ad S 194), .int x1, .int x2, .int x3, .ref (lc_ad S 206)] M out.1 out.2 := by
  refine lc_mkW (own := RL) pn_RL rfl (Nat.le_of_ble_eq_true rfl) (lo := [(0, .ref (lc_ad S 194)), (1, .int x1), (2, .int x2), (3, .int x3), (4, .ref (lc_ad S 206))]) rfl (fun X hX C ht => ?_)
  rw [P_L_addCell] at h
  subst hX
  refine lc_aload C (pc' := 2) 4 dL_addCell_0 rfl rfl ?_
  refine lc_iconst C (pc' := 3) (v := (0 : Int32)) dL_addCell_2 (by decide) rfl ?_
  refine lc_aload_n C (pc' := 4) 0 dL_addCell_3 rfl rfl ?_
  refine lc_iload_n C (pc' := 5) 1 dL_addCell_4 rfl rfl ?_
  refine lc_iload_n C (pc' := 6) 2 dL_addCell_5 rfl rfl ?_
  refine lc_iload_n C (pc' := 7) 3 dL_addCell_6 rfl rfl ?_
  obtain ⟨e, r, M1, h0, h⟩ := lc_bd3e h
  refine lc_cvx C (pc' := 10) (e := e) (r := r) (M' := M1) (As := [.int x1, .int x2, .int x3]) (rest := [.int (0 : Int32), .ref (lc_ad S 206)]) (c_X3_addCell S X.2.1 hl x1 x2 x3 M (e, r, M1) h0) kl_RL_36 (lc_at194 S _) rfl rfl rfl rfl (Nat.le_of_ble_eq_true rfl) ⟨Nat.le_of_ble_eq_true rfl, Nat.le_of_ble_eq_true rfl⟩ ⟨Nat.le_refl _, Nat.le_refl _⟩ dL_addCell_7 rfl (fun he => ?_) (fun E q9 hex => ?_)
  · subst he
    have h := (lc_if2 h).1 rfl
    obtain ⟨M2, e2, h⟩ := lc_let2 h
    obtain rfl := Option.some.inj h
    refine lc_i2l C (pc' := 11) dL_addCell_10 rfl ?_
    refine lc_lst C (pc' := 12) (M' := M2) e2 dL_addCell_11 rfl ?_
    refine lc_goto C (tgt := 23) dL_addCell_12 (by decide) ?_
    refine lc_iconst C (pc' := 24) (v := (0 : Int32)) dL_addCell_23 (by decide) rfl ?_
    exact lc_iret C rfl dL_addCell_24
  · rcases hex with ⟨rfl, rfl⟩ | ⟨rfl, rfl⟩ | ⟨rfl, rfl⟩
    · have h := (lc_if2 h).2 (by decide)
      have h := (lc_if2 h).1 rfl
      obtain rfl := Option.some.inj h
      refine lc_catch C (pc' := 15) (hh := [(0, 12, 15, 13), (0, 12, 19, 15)]) (pre := []) (z := (0, 12, 15, 13)) (suf := [(0, 12, 19, 15)]) ht rfl (fun w hw => by cases hw) (by decide) (by decide) (by decide) lc_cl13 (fun U hU => hU.2.1.1) rfl ?_
      refine lc_astore C (pc' := 17) (lo' := [(5, .ref q9), (0, .ref (lc_ad S 194)), (1, .int x1), (2, .int x2), (3, .int x3), (4, .ref (lc_ad S 206))]) dL_addCell_15 (Nat.le_of_ble_eq_true rfl) rfl rfl ?_
      refine lc_iconst C (pc' := 18) (v := (1 : Int32)) dL_addCell_17 (by decide) rfl ?_
      exact lc_iret C rfl dL_addCell_18
    · have h := (lc_if2 h).2 (by decide)
      have h := (lc_if2 h).2 (by decide)
      have h := (lc_if2 h).1 rfl
      obtain rfl := Option.some.inj h
      refine lc_catch C (pc' := 19) (hh := [(0, 12, 15, 13), (0, 12, 19, 15)]) (pre := [(0, 12, 15, 13)]) (z := (0, 12, 19, 15)) (suf := []) ht rfl (fun w hw => by rcases List.mem_singleton.mp hw with rfl; exact ⟨by decide, _, lc_cl13, fun U hU => hU.2.2.2.2.1⟩) (by decide) (by decide) (by decide) lc_cl15 (fun U hU => hU.2.1.2.1) rfl ?_
      refine lc_astore C (pc' := 21) (lo' := [(5, .ref q9), (0, .ref (lc_ad S 194)), (1, .int x1), (2, .int x2), (3, .int x3), (4, .ref (lc_ad S 206))]) dL_addCell_19 (Nat.le_of_ble_eq_true rfl) rfl rfl ?_
      refine lc_iconst C (pc' := 22) (v := (2 : Int32)) dL_addCell_21 (by decide) rfl ?_
      exact lc_iret C rfl dL_addCell_22
    · have h := (lc_if2 h).2 (by decide)
      have h := (lc_if2 h).2 (by decide)
      have h := (lc_if2 h).2 (by decide)
      cases h
abbrev rm_L_lend : Room := { frames := 7, cells := 1, slots := 6, locals := 119 }
def P_L_lend (x1 : Int32) (x2 : Int32) (x3 : Int32) (x4 : Int32) (M : lc_MM) : Option (Int32 × lc_MM) :=
  lc_bd3 (P_X3_lend x1 x2 x3 x4 M) (fun e r M1 => if e = 0 then lc_let (va_up M1 23 (lc_ss (M1 23) 0 0 r)) (fun M2 => some (0, M2)) else if e = 3 then some (1, M1) else if e = 1 then some (2, M1) else if e = 2 then some (3, M1) else none)
theorem kw_L_lend : lc_kW RL 130 yL_lend cL_lend 7 (some .int) [(0, 14, 17, 28), (0, 14, 21, 13), (0, 14, 25, 15)] 6 := ⟨⟨lc_in (List.mem_of_getElem? (i := 560) (by decide +kernel)) rfl, lc_in (List.mem_of_getElem? (i := 561) (by decide +kernel)) rfl, lc_in (List.mem_of_getElem? (i := 54) (by decide +kernel)) rfl, lc_in (List.mem_of_getElem? (i := 562) (by decide +kernel)) rfl⟩, by decide +kernel, by decide +kernel, by decide +kernel⟩
set_option maxRecDepth 100000 in
set_option maxHeartbeats 4000000 in
theorem c_L_lend (S : lc_Se) (l : Launch) (hl : l.stackTraces = false) (x1 : Int32) (x2 : Int32) (x3 : Int32) (x4 : Int32) (M : lc_MM) (out : Int32 × lc_MM) (h : P_L_lend x1 x2 x3 x4 M = some out) : lc_MIW S l yL_lend cL_lend 7 (some .int) [(0, 14, 17, 28), (0, 14, 21, 13), (0, 14, 25, 15)] rm_L_lend [.ref (lc_ad S 194), .int x1, .int x2, .int x3, .int x4, .ref (lc_ad S 206)] M out.1 out.2 := by
  refine lc_mkW (own := RL) pn_RL rfl (Nat.le_of_ble_eq_true rfl) (lo := [(0, .ref (lc_ad S 194)), (1, .int x1), (2, .int x2), (3, .int x3), (4, .int x4), (5, .ref (lc_ad S 206))]) rfl (fun X hX C ht => ?_)
  rw [P_L_lend] at h
  subst hX
  refine lc_aload C (pc' := 2) 5 dL_lend_0 rfl rfl ?_
  refine lc_iconst C (pc' := 3) (v := (0 : Int32)) dL_lend_2 (by decide) rfl ?_
  refine lc_aload_n C (pc' := 4) 0 dL_lend_3 rfl rfl ?_
  refine lc_iload_n C (pc' := 5) 1 dL_lend_4 rfl rfl ?_
  refine lc_iload_n C (pc' := 6) 2 dL_lend_5 rfl rfl ?_
  refine lc_iload_n C (pc' := 7) 3 dL_lend_6 rfl rfl ?_
  refine lc_iload C (pc' := 9) 4 dL_lend_7 rfl rfl ?_
  obtain ⟨e, r, M1, h0, h⟩ := lc_bd3e h
  refine lc_cvx C (pc' := 12) (e := e) (r := r) (M' := M1) (As := [.int x1, .int x2, .int x3, .int x4]) (rest := [.int (0 : Int32), .ref (lc_ad S 206)]) (c_X3_lend S X.2.1 hl x1 x2 x3 x4 M (e, r, M1) h0) kl_RL_40 (lc_at194 S _) rfl rfl rfl rfl (Nat.le_of_ble_eq_true rfl) ⟨Nat.le_of_ble_eq_true rfl, Nat.le_of_ble_eq_true rfl⟩ ⟨Nat.le_refl _, Nat.le_refl _⟩ dL_lend_9 rfl (fun he => ?_) (fun E q9 hex => ?_)
  · subst he
    have h := (lc_if2 h).1 rfl
    obtain ⟨M2, e2, h⟩ := lc_let2 h
    obtain rfl := Option.some.inj h
    refine lc_i2l C (pc' := 13) dL_lend_12 rfl ?_
    refine lc_lst C (pc' := 14) (M' := M2) e2 dL_lend_13 rfl ?_
    refine lc_goto C (tgt := 29) dL_lend_14 (by decide) ?_
    refine lc_iconst C (pc' := 30) (v := (0 : Int32)) dL_lend_29 (by decide) rfl ?_
    exact lc_iret C rfl dL_lend_30
  · rcases hex with ⟨rfl, rfl⟩ | ⟨rfl, rfl⟩ | ⟨rfl, rfl⟩
    · have h := (lc_if2 h).2 (by decide)
      have h := (lc_if2 h).2 (by decide)
      have h := (lc_if2 h).1 rfl
      obtain rfl := Option.some.inj h
      refine lc_catch C (pc' := 21) (hh := [(0, 14, 17, 28), (0, 14, 21, 13), (0, 14, 25, 15)]) (pre := [(0, 14, 17, 28)]) (z := (0, 14, 21, 13)) (suf := [(0, 14, 25, 15)]) ht rfl (fun w hw => by rcases List.mem_singleton.mp hw with rfl; exact ⟨by decide, _, lc_cl28, fun U hU => hU.2.2.2.1⟩) (by decide) (by decide) (by decide) lc_cl13 (fun U hU => hU.2.1.1) rfl ?_
      refine lc_astore C (pc' := 23) (lo' := [(6, .ref q9), (0, .ref (lc_ad S 194)), (1, .int x1), (2, .int x2), (3, .int x3), (4, .int x4), (5, .ref (lc_ad S 206))]) dL_lend_21 (Nat.le_of_ble_eq_true rfl) rfl rfl ?_
      refine lc_iconst C (pc' := 24) (v := (2 : Int32)) dL_lend_23 (by decide) rfl ?_
      exact lc_iret C rfl dL_lend_24
    · have h := (lc_if2 h).2 (by decide)
      have h := (lc_if2 h).2 (by decide)
      have h := (lc_if2 h).2 (by decide)
      have h := (lc_if2 h).1 rfl
      obtain rfl := Option.some.inj h
      refine lc_catch C (pc' := 25) (hh := [(0, 14, 17, 28), (0, 14, 21, 13), (0, 14, 25, 15)]) (pre := [(0, 14, 17, 28), (0, 14, 21, 13)]) (z := (0, 14, 25, 15)) (suf := []) ht rfl (fun w hw => by rcases List.mem_cons.mp hw with rfl | hw; (· exact ⟨by decide, _, lc_cl28, fun U hU => hU.2.2.2.2.2.1⟩); rcases List.mem_singleton.mp hw with rfl; exact ⟨by decide, _, lc_cl13, fun U hU => hU.2.2.2.2.1⟩) (by decide) (by decide) (by decide) lc_cl15 (fun U hU => hU.2.1.2.1) rfl ?_
      refine lc_astore C (pc' := 27) (lo' := [(6, .ref q9), (0, .ref (lc_ad S 194)), (1, .int x1), (2, .int x2), (3, .int x3), (4, .int x4), (5, .ref (lc_ad S 206))]) dL_lend_25 (Nat.le_of_ble_eq_true rfl) rfl rfl ?_
      refine lc_iconst C (pc' := 28) (v := (3 : Int32)) dL_lend_27 (by decide) rfl ?_
      exact lc_iret C rfl dL_lend_28
    · have h := (lc_if2 h).2 (by decide)
      have h := (lc_if2 h).1 rfl
      obtain rfl := Option.some.inj h
      refine lc_catch C (pc' := 17) (hh := [(0, 14, 17, 28), (0, 14, 21, 13), (0, 14, 25, 15)]) (pre := []) (z := (0, 14, 17, 28)) (suf := [(0, 14, 21, 13), (0, 14, 25, 15)]) ht rfl (fun w hw => by cases hw) (by decide) (by decide) (by decide) lc_cl28 (fun U hU => hU.2.1.2.2) rfl ?_
      refine lc_astore C (pc' := 19) (lo' := [(6, .ref q9), (0, .ref (lc_ad S 194)), (1, .int x1), (2, .int x2), (3, .int x3), (4, .int x4), (5, .ref (lc_ad S 206))]) dL_lend_17 (Nat.le_of_ble_eq_true rfl) rfl rfl ?_
      refine lc_iconst C (pc' := 20) (v := (1 : Int32)) dL_lend_19 (by decide) rfl ?_
      exact lc_iret C rfl dL_lend_20
abbrev rm_L_repay : Room := { frames := 7, cells := 1, slots := 6, locals := 117 }
def P_L_repay (x1 : Int32) (x2 : Int32) (M : lc_MM) : Option (Int32 × lc_MM) :=
  lc_bd3 (P_X3_repay x1 x2 M) (fun e r M1 => if e = 0 then lc_let (va_up M1 23 (lc_ss (M1 23) 0 0 r)) (fun M2 => some (0, M2)) else if e = 3 then some (1, M1) else if e = 1 then some (2, M1) else if e = 2 then some (3, M1) else none)
theorem kw_L_repay : lc_kW RL 134 yL_repay cL_repay 5 (some .int) [(0, 10, 13, 28), (0, 10, 17, 13), (0, 10, 21, 15)] 4 := ⟨⟨lc_in (List.mem_of_getElem? (i := 574) (by decide +kernel)) rfl, lc_in (List.mem_of_getElem? (i := 575) (by decide +kernel)) rfl, lc_in (List.mem_of_getElem? (i := 54) (by decide +kernel)) rfl, lc_in (List.mem_of_getElem? (i := 576) (by decide +kernel)) rfl⟩, by decide +kernel, by decide +kernel, by decide +kernel⟩
set_option maxRecDepth 100000 in
set_option maxHeartbeats 4000000 in
theorem c_L_repay (S : lc_Se) (l : Launch) (hl : l.stackTraces = false) (x1 : Int32) (x2 : Int32) (M : lc_MM) (out : Int32 × lc_MM) (h : P_L_repay x1 x2 M = some out) : lc_MIW S l yL_repay cL_repay 5 (some .int) [(0, 10, 13, 28), (0, 10, 17, 13), (0, 10, 21, 15)] rm_L_repay [.ref (lc_ad S 194), .int x1, .int x2, .ref (lc_ad S 206)] M out.1 out.2 := by
  refine lc_mkW (own := RL) pn_RL rfl (Nat.le_of_ble_eq_true rfl) (lo := [(0, .ref (lc_ad S 194)), (1, .int x1), (2, .int x2), (3, .ref (lc_ad S 206))]) rfl (fun X hX C ht => ?_)
  rw [P_L_repay] at h
  subst hX
  refine lc_aload_n C (pc' := 1) 3 dL_repay_0 rfl rfl ?_
  refine lc_iconst C (pc' := 2) (v := (0 : Int32)) dL_repay_1 (by decide) rfl ?_
  refine lc_aload_n C (pc' := 3) 0 dL_repay_2 rfl rfl ?_
  refine lc_iload_n C (pc' := 4) 1 dL_repay_3 rfl rfl ?_
  refine lc_iload_n C (pc' := 5) 2 dL_repay_4 rfl rfl ?_
  obtain ⟨e, r, M1, h0, h⟩ := lc_bd3e h
  refine lc_cvx C (pc' := 8) (e := e) (r := r) (M' := M1) (As := [.int x1, .int x2]) (rest := [.int (0 : Int32), .ref (lc_ad S 206)]) (c_X3_repay S X.2.1 hl x1 x2 M (e, r, M1) h0) kl_RL_44 (lc_at194 S _) rfl rfl rfl rfl (Nat.le_of_ble_eq_true rfl) ⟨Nat.le_of_ble_eq_true rfl, Nat.le_of_ble_eq_true rfl⟩ ⟨Nat.le_refl _, Nat.le_refl _⟩ dL_repay_5 rfl (fun he => ?_) (fun E q9 hex => ?_)
  · subst he
    have h := (lc_if2 h).1 rfl
    obtain ⟨M2, e2, h⟩ := lc_let2 h
    obtain rfl := Option.some.inj h
    refine lc_i2l C (pc' := 9) dL_repay_8 rfl ?_
    refine lc_lst C (pc' := 10) (M' := M2) e2 dL_repay_9 rfl ?_
    refine lc_goto C (tgt := 25) dL_repay_10 (by decide) ?_
    refine lc_iconst C (pc' := 26) (v := (0 : Int32)) dL_repay_25 (by decide) rfl ?_
    exact lc_iret C rfl dL_repay_26
  · rcases hex with ⟨rfl, rfl⟩ | ⟨rfl, rfl⟩ | ⟨rfl, rfl⟩
    · have h := (lc_if2 h).2 (by decide)
      have h := (lc_if2 h).2 (by decide)
      have h := (lc_if2 h).1 rfl
      obtain rfl := Option.some.inj h
      refine lc_catch C (pc' := 17) (hh := [(0, 10, 13, 28), (0, 10, 17, 13), (0, 10, 21, 15)]) (pre := [(0, 10, 13, 28)]) (z := (0, 10, 17, 13)) (suf := [(0, 10, 21, 15)]) ht rfl (fun w hw => by rcases List.mem_singleton.mp hw with rfl; exact ⟨by decide, _, lc_cl28, fun U hU => hU.2.2.2.1⟩) (by decide) (by decide) (by decide) lc_cl13 (fun U hU => hU.2.1.1) rfl ?_
      refine lc_astore C (pc' := 19) (lo' := [(4, .ref q9), (0, .ref (lc_ad S 194)), (1, .int x1), (2, .int x2), (3, .ref (lc_ad S 206))]) dL_repay_17 (Nat.le_of_ble_eq_true rfl) rfl rfl ?_
      refine lc_iconst C (pc' := 20) (v := (2 : Int32)) dL_repay_19 (by decide) rfl ?_
      exact lc_iret C rfl dL_repay_20
    · have h := (lc_if2 h).2 (by decide)
      have h := (lc_if2 h).2 (by decide)
      have h := (lc_if2 h).2 (by decide)
      have h := (lc_if2 h).1 rfl
      obtain rfl := Option.some.inj h
      refine lc_catch C (pc' := 21) (hh := [(0, 10, 13, 28), (0, 10, 17, 13), (0, 10, 21, 15)]) (pre := [(0, 10, 13, 28), (0, 10, 17, 13)]) (z := (0, 10, 21, 15)) (suf := []) ht rfl (fun w hw => by rcases List.mem_cons.mp hw with rfl | hw; (· exact ⟨by decide, _, lc_cl28, fun U hU => hU.2.2.2.2.2.1⟩); rcases List.mem_singleton.mp hw with rfl; exact ⟨by decide, _, lc_cl13, fun U hU => hU.2.2.2.2.1⟩) (by decide) (by decide) (by decide) lc_cl15 (fun U hU => hU.2.1.2.1) rfl ?_
      refine lc_astore C (pc' := 23) (lo' := [(4, .ref q9), (0, .ref (lc_ad S 194)), (1, .int x1), (2, .int x2), (3, .ref (lc_ad S 206))]) dL_repay_21 (Nat.le_of_ble_eq_true rfl) rfl rfl ?_
      refine lc_iconst C (pc' := 24) (v := (3 : Int32)) dL_repay_23 (by decide) rfl ?_
      exact lc_iret C rfl dL_repay_24
    · have h := (lc_if2 h).2 (by decide)
      have h := (lc_if2 h).1 rfl
      obtain rfl := Option.some.inj h
      refine lc_catch C (pc' := 13) (hh := [(0, 10, 13, 28), (0, 10, 17, 13), (0, 10, 21, 15)]) (pre := []) (z := (0, 10, 13, 28)) (suf := [(0, 10, 17, 13), (0, 10, 21, 15)]) ht rfl (fun w hw => by cases hw) (by decide) (by decide) (by decide) lc_cl28 (fun U hU => hU.2.1.2.2) rfl ?_
      refine lc_astore C (pc' := 15) (lo' := [(4, .ref q9), (0, .ref (lc_ad S 194)), (1, .int x1), (2, .int x2), (3, .ref (lc_ad S 206))]) dL_repay_13 (Nat.le_of_ble_eq_true rfl) rfl rfl ?_
      refine lc_iconst C (pc' := 16) (v := (1 : Int32)) dL_repay_15 (by decide) rfl ?_
      exact lc_iret C rfl dL_repay_16
abbrev rm_L_setLeak : Room := { frames := 7, cells := 1, slots := 6, locals := 118 }
def P_L_setLeak (x1 : Int32) (x2 : Int32) (M : lc_MM) : Option (Int32 × lc_MM) :=
  lc_bd3 (P_X3_setLeak x1 x2 M) (fun e r M1 => if e = 0 then lc_let (va_up M1 23 (lc_ss (M1 23) 0 0 r)) (fun M2 => some (0, M2)) else if e = 3 then some (1, M1) else if e = 1 then some (2, M1) else none)
theorem kw_L_setLeak : lc_kW RL 137 yL_setLeak cL_setLeak 5 (some .int) [(0, 10, 13, 28), (0, 10, 17, 13)] 4 := ⟨⟨lc_in (List.mem_of_getElem? (i := 596) (by decide +kernel)) rfl, lc_in (List.mem_of_getElem? (i := 597) (by decide +kernel)) rfl, lc_in (List.mem_of_getElem? (i := 54) (by decide +kernel)) rfl, lc_in (List.mem_of_getElem? (i := 598) (by decide +kernel)) rfl⟩, by decide +kernel, by decide +kernel, by decide +kernel⟩
set_option maxRecDepth 100000 in
set_option maxHeartbeats 4000000 in
theorem c_L_setLeak (S : lc_Se) (l : Launch) (hl : l.stackTraces = false) (x1 : Int32) (x2 : Int32) (M : lc_MM) (out : Int32 × lc_MM) (h : P_L_setLeak x1 x2 M = some out) : lc_MIW S l yL_setLeak cL_setLeak 5 (some .int) [(0, 10, 13, 28), (0, 10, 17, 13)] rm_L_setLeak [.ref (lc_ad S 194), .int x1, .int x2, .ref (lc_ad S 206)] M out.1 out.2 := by
  refine lc_mkW (own := RL) pn_RL rfl (Nat.le_of_ble_eq_true rfl) (lo := [(0, .ref (lc_ad S 194)), (1, .int x1), (2, .int x2), (3, .ref (lc_ad S 206))]) rfl (fun X hX C ht => ?_)
  rw [P_L_setLeak] at h
  subst hX
  refine lc_aload_n C (pc' := 1) 3 dL_setLeak_0 rfl rfl ?_
  refine lc_iconst C (pc' := 2) (v := (0 : Int32)) dL_setLeak_1 (by decide) rfl ?_
  refine lc_aload_n C (pc' := 3) 0 dL_setLeak_2 rfl rfl ?_
  refine lc_iload_n C (pc' := 4) 1 dL_setLeak_3 rfl rfl ?_
  refine lc_iload_n C (pc' := 5) 2 dL_setLeak_4 rfl rfl ?_
  obtain ⟨e, r, M1, h0, h⟩ := lc_bd3e h
  refine lc_cvx C (pc' := 8) (e := e) (r := r) (M' := M1) (As := [.int x1, .int x2]) (rest := [.int (0 : Int32), .ref (lc_ad S 206)]) (c_X3_setLeak S X.2.1 hl x1 x2 M (e, r, M1) h0) kl_RL_47 (lc_at194 S _) rfl rfl rfl rfl (Nat.le_of_ble_eq_true rfl) ⟨Nat.le_of_ble_eq_true rfl, Nat.le_of_ble_eq_true rfl⟩ ⟨Nat.le_refl _, Nat.le_refl _⟩ dL_setLeak_5 rfl (fun he => ?_) (fun E q9 hex => ?_)
  · subst he
    have h := (lc_if2 h).1 rfl
    obtain ⟨M2, e2, h⟩ := lc_let2 h
    obtain rfl := Option.some.inj h
    refine lc_i2l C (pc' := 9) dL_setLeak_8 rfl ?_
    refine lc_lst C (pc' := 10) (M' := M2) e2 dL_setLeak_9 rfl ?_
    refine lc_goto C (tgt := 21) dL_setLeak_10 (by decide) ?_
    refine lc_iconst C (pc' := 22) (v := (0 : Int32)) dL_setLeak_21 (by decide) rfl ?_
    exact lc_iret C rfl dL_setLeak_22
  · rcases hex with ⟨rfl, rfl⟩ | ⟨rfl, rfl⟩ | ⟨rfl, rfl⟩
    · have h := (lc_if2 h).2 (by decide)
      have h := (lc_if2 h).2 (by decide)
      have h := (lc_if2 h).1 rfl
      obtain rfl := Option.some.inj h
      refine lc_catch C (pc' := 17) (hh := [(0, 10, 13, 28), (0, 10, 17, 13)]) (pre := [(0, 10, 13, 28)]) (z := (0, 10, 17, 13)) (suf := []) ht rfl (fun w hw => by rcases List.mem_singleton.mp hw with rfl; exact ⟨by decide, _, lc_cl28, fun U hU => hU.2.2.2.1⟩) (by decide) (by decide) (by decide) lc_cl13 (fun U hU => hU.2.1.1) rfl ?_
      refine lc_astore C (pc' := 19) (lo' := [(4, .ref q9), (0, .ref (lc_ad S 194)), (1, .int x1), (2, .int x2), (3, .ref (lc_ad S 206))]) dL_setLeak_17 (Nat.le_of_ble_eq_true rfl) rfl rfl ?_
      refine lc_iconst C (pc' := 20) (v := (2 : Int32)) dL_setLeak_19 (by decide) rfl ?_
      exact lc_iret C rfl dL_setLeak_20
    · have h := (lc_if2 h).2 (by decide)
      have h := (lc_if2 h).2 (by decide)
      have h := (lc_if2 h).2 (by decide)
      cases h
    · have h := (lc_if2 h).2 (by decide)
      have h := (lc_if2 h).1 rfl
      obtain rfl := Option.some.inj h
      refine lc_catch C (pc' := 13) (hh := [(0, 10, 13, 28), (0, 10, 17, 13)]) (pre := []) (z := (0, 10, 13, 28)) (suf := [(0, 10, 17, 13)]) ht rfl (fun w hw => by cases hw) (by decide) (by decide) (by decide) lc_cl28 (fun U hU => hU.2.1.2.2) rfl ?_
      refine lc_astore C (pc' := 15) (lo' := [(4, .ref q9), (0, .ref (lc_ad S 194)), (1, .int x1), (2, .int x2), (3, .ref (lc_ad S 206))]) dL_setLeak_13 (Nat.le_of_ble_eq_true rfl) rfl rfl ?_
      refine lc_iconst C (pc' := 16) (v := (1 : Int32)) dL_setLeak_15 (by decide) rfl ?_
      exact lc_iret C rfl dL_setLeak_16
abbrev rm_L_charge : Room := { frames := 7, cells := 1, slots := 6, locals := 116 }
def P_L_charge (x1 : Int32) (M : lc_MM) : Option (Int32 × lc_MM) :=
  lc_bd3 (P_X3_charge x1 M) (fun e r M1 => if e = 0 then lc_let (va_up M1 23 (lc_ss (M1 23) 0 0 r)) (fun M2 => some (0, M2)) else if e = 1 then some (1, M1) else none)
theorem kw_L_charge : lc_kW RL 140 yL_charge cL_charge 4 (some .int) [(0, 9, 12, 13)] 3 := ⟨⟨lc_in (List.mem_of_getElem? (i := 604) (by decide +kernel)) rfl, lc_in (List.mem_of_getElem? (i := 605) (by decide +kernel)) rfl, lc_in (List.mem_of_getElem? (i := 54) (by decide +kernel)) rfl, lc_in (List.mem_of_getElem? (i := 606) (by decide +kernel)) rfl⟩, by decide +kernel, by decide +kernel, by decide +kernel⟩
set_option maxRecDepth 100000 in
set_option maxHeartbeats 4000000 in
theorem c_L_charge (S : lc_Se) (l : Launch) (hl : l.stackTraces = false) (x1 : Int32) (M : lc_MM) (out : Int32 × lc_MM) (h : P_L_charge x1 M = some out) : lc_MIW S l yL_charge cL_charge 4 (some .int) [(0, 9, 12, 13)] rm_L_charge [.ref (lc_ad S 194), .int x1, .ref (lc_ad S 206)] M out.1 out.2 := by
  refine lc_mkW (own := RL) pn_RL rfl (Nat.le_of_ble_eq_true rfl) (lo := [(0, .ref (lc_ad S 194)), (1, .int x1), (2, .ref (lc_ad S 206))]) rfl (fun X hX C ht => ?_)
  rw [P_L_charge] at h
  subst hX
  refine lc_aload_n C (pc' := 1) 2 dL_charge_0 rfl rfl ?_
  refine lc_iconst C (pc' := 2) (v := (0 : Int32)) dL_charge_1 (by decide) rfl ?_
  refine lc_aload_n C (pc' := 3) 0 dL_charge_2 rfl rfl ?_
  refine lc_iload_n C (pc' := 4) 1 dL_charge_3 rfl rfl ?_
  obtain ⟨e, r, M1, h0, h⟩ := lc_bd3e h
  refine lc_cvx C (pc' := 7) (e := e) (r := r) (M' := M1) (As := [.int x1]) (rest := [.int (0 : Int32), .ref (lc_ad S 206)]) (c_X3_charge S X.2.1 hl x1 M (e, r, M1) h0) kl_RL_50 (lc_at194 S _) rfl rfl rfl rfl (Nat.le_of_ble_eq_true rfl) ⟨Nat.le_of_ble_eq_true rfl, Nat.le_of_ble_eq_true rfl⟩ ⟨Nat.le_refl _, Nat.le_refl _⟩ dL_charge_4 rfl (fun he => ?_) (fun E q9 hex => ?_)
  · subst he
    have h := (lc_if2 h).1 rfl
    obtain ⟨M2, e2, h⟩ := lc_let2 h
    obtain rfl := Option.some.inj h
    refine lc_i2l C (pc' := 8) dL_charge_7 rfl ?_
    refine lc_lst C (pc' := 9) (M' := M2) e2 dL_charge_8 rfl ?_
    refine lc_goto C (tgt := 15) dL_charge_9 (by decide) ?_
    refine lc_iconst C (pc' := 16) (v := (0 : Int32)) dL_charge_15 (by decide) rfl ?_
    exact lc_iret C rfl dL_charge_16
  · rcases hex with ⟨rfl, rfl⟩ | ⟨rfl, rfl⟩ | ⟨rfl, rfl⟩
    · have h := (lc_if2 h).2 (by decide)
      have h := (lc_if2 h).1 rfl
      obtain rfl := Option.some.inj h
      refine lc_catch C (pc' := 12) (hh := [(0, 9, 12, 13)]) (pre := []) (z := (0, 9, 12, 13)) (suf := []) ht rfl (fun w hw => by cases hw) (by decide) (by decide) (by decide) lc_cl13 (fun U hU => hU.2.1.1) rfl ?_
      refine lc_astore_n C (pc' := 13) (lo' := [(3, .ref q9), (0, .ref (lc_ad S 194)), (1, .int x1), (2, .ref (lc_ad S 206))]) dL_charge_12 (Nat.le_of_ble_eq_true rfl) rfl rfl ?_
      refine lc_iconst C (pc' := 14) (v := (1 : Int32)) dL_charge_13 (by decide) rfl ?_
      exact lc_iret C rfl dL_charge_14
    · have h := (lc_if2 h).2 (by decide)
      have h := (lc_if2 h).2 (by decide)
      cases h
    · have h := (lc_if2 h).2 (by decide)
      have h := (lc_if2 h).2 (by decide)
      cases h
abbrev rm_L_draw : Room := { frames := 7, cells := 1, slots := 6, locals := 159 }
def P_L_draw (x1 : Int32) (M : lc_MM) : Option (Int32 × lc_MM) :=
  lc_bd3 (P_X3_draw x1 M) (fun e r M1 => if e = 0 then lc_let (va_up M1 23 (lc_ss (M1 23) 0 0 r)) (fun M2 => some (0, M2)) else if e = 1 then some (1, M1) else if e = 2 then some (2, M1) else none)
theorem kw_L_draw : lc_kW RL 143 yL_draw cL_draw 4 (some .int) [(0, 9, 12, 13), (0, 9, 15, 15)] 3 := ⟨⟨lc_in (List.mem_of_getElem? (i := 618) (by decide +kernel)) rfl, lc_in (List.mem_of_getElem? (i := 619) (by decide +kernel)) rfl, lc_in (List.mem_of_getElem? (i := 54) (by decide +kernel)) rfl, lc_in (List.mem_of_getElem? (i := 620) (by decide +kernel)) rfl⟩, by decide +kernel, by decide +kernel, by decide +kernel⟩
set_option maxRecDepth 100000 in
set_option maxHeartbeats 4000000 in
theorem c_L_draw (S : lc_Se) (l : Launch) (hl : l.stackTraces = false) (x1 : Int32) (M : lc_MM) (out : Int32 × lc_MM) (h : P_L_draw x1 M = some out) : lc_MIW S l yL_draw cL_draw 4 (some .int) [(0, 9, 12, 13), (0, 9, 15, 15)] rm_L_draw [.ref (lc_ad S 194), .int x1, .ref (lc_ad S 206)] M out.1 out.2 := by
  refine lc_mkW (own := RL) pn_RL rfl (Nat.le_of_ble_eq_true rfl) (lo := [(0, .ref (lc_ad S 194)), (1, .int x1), (2, .ref (lc_ad S 206))]) rfl (fun X hX C ht => ?_)
  rw [P_L_draw] at h
  subst hX
  refine lc_aload_n C (pc' := 1) 2 dL_draw_0 rfl rfl ?_
  refine lc_iconst C (pc' := 2) (v := (0 : Int32)) dL_draw_1 (by decide) rfl ?_
  refine lc_aload_n C (pc' := 3) 0 dL_draw_2 rfl rfl ?_
  refine lc_iload_n C (pc' := 4) 1 dL_draw_3 rfl rfl ?_
  obtain ⟨e, r, M1, h0, h⟩ := lc_bd3e h
  refine lc_cvx C (pc' := 7) (e := e) (r := r) (M' := M1) (As := [.int x1]) (rest := [.int (0 : Int32), .ref (lc_ad S 206)]) (c_X3_draw S X.2.1 hl x1 M (e, r, M1) h0) kl_RL_53 (lc_at194 S _) rfl rfl rfl rfl (Nat.le_of_ble_eq_true rfl) ⟨Nat.le_of_ble_eq_true rfl, Nat.le_of_ble_eq_true rfl⟩ ⟨Nat.le_refl _, Nat.le_refl _⟩ dL_draw_4 rfl (fun he => ?_) (fun E q9 hex => ?_)
  · subst he
    have h := (lc_if2 h).1 rfl
    obtain ⟨M2, e2, h⟩ := lc_let2 h
    obtain rfl := Option.some.inj h
    refine lc_i2l C (pc' := 8) dL_draw_7 rfl ?_
    refine lc_lst C (pc' := 9) (M' := M2) e2 dL_draw_8 rfl ?_
    refine lc_goto C (tgt := 18) dL_draw_9 (by decide) ?_
    refine lc_iconst C (pc' := 19) (v := (0 : Int32)) dL_draw_18 (by decide) rfl ?_
    exact lc_iret C rfl dL_draw_19
  · rcases hex with ⟨rfl, rfl⟩ | ⟨rfl, rfl⟩ | ⟨rfl, rfl⟩
    · have h := (lc_if2 h).2 (by decide)
      have h := (lc_if2 h).1 rfl
      obtain rfl := Option.some.inj h
      refine lc_catch C (pc' := 12) (hh := [(0, 9, 12, 13), (0, 9, 15, 15)]) (pre := []) (z := (0, 9, 12, 13)) (suf := [(0, 9, 15, 15)]) ht rfl (fun w hw => by cases hw) (by decide) (by decide) (by decide) lc_cl13 (fun U hU => hU.2.1.1) rfl ?_
      refine lc_astore_n C (pc' := 13) (lo' := [(3, .ref q9), (0, .ref (lc_ad S 194)), (1, .int x1), (2, .ref (lc_ad S 206))]) dL_draw_12 (Nat.le_of_ble_eq_true rfl) rfl rfl ?_
      refine lc_iconst C (pc' := 14) (v := (1 : Int32)) dL_draw_13 (by decide) rfl ?_
      exact lc_iret C rfl dL_draw_14
    · have h := (lc_if2 h).2 (by decide)
      have h := (lc_if2 h).2 (by decide)
      have h := (lc_if2 h).1 rfl
      obtain rfl := Option.some.inj h
      refine lc_catch C (pc' := 15) (hh := [(0, 9, 12, 13), (0, 9, 15, 15)]) (pre := [(0, 9, 12, 13)]) (z := (0, 9, 15, 15)) (suf := []) ht rfl (fun w hw => by rcases List.mem_singleton.mp hw with rfl; exact ⟨by decide, _, lc_cl13, fun U hU => hU.2.2.2.2.1⟩) (by decide) (by decide) (by decide) lc_cl15 (fun U hU => hU.2.1.2.1) rfl ?_
      refine lc_astore_n C (pc' := 16) (lo' := [(3, .ref q9), (0, .ref (lc_ad S 194)), (1, .int x1), (2, .ref (lc_ad S 206))]) dL_draw_15 (Nat.le_of_ble_eq_true rfl) rfl rfl ?_
      refine lc_iconst C (pc' := 17) (v := (2 : Int32)) dL_draw_16 (by decide) rfl ?_
      exact lc_iret C rfl dL_draw_17
    · have h := (lc_if2 h).2 (by decide)
      have h := (lc_if2 h).2 (by decide)
      have h := (lc_if2 h).2 (by decide)
      cases h
abbrev rm_L_pass : Room := { frames := 7, cells := 1, slots := 6, locals := 160 }
def P_L_pass (x1 : Int32) (M : lc_MM) : Option (Int32 × lc_MM) :=
  lc_bd3 (P_X3_pass x1 M) (fun e r M1 => if e = 0 then lc_let (va_up M1 23 (lc_ss (M1 23) 0 0 r)) (fun M2 => some (0, M2)) else if e = 1 then some (1, M1) else none)
theorem kw_L_pass : lc_kW RL 146 yL_pass cL_pass 4 (some .int) [(0, 9, 12, 13)] 3 := ⟨⟨lc_in (List.mem_of_getElem? (i := 626) (by decide +kernel)) rfl, lc_in (List.mem_of_getElem? (i := 627) (by decide +kernel)) rfl, lc_in (List.mem_of_getElem? (i := 54) (by decide +kernel)) rfl, lc_in (List.mem_of_getElem? (i := 628) (by decide +kernel)) rfl⟩, by decide +kernel, by decide +kernel, by decide +kernel⟩
set_option maxRecDepth 100000 in
set_option maxHeartbeats 4000000 in
theorem c_L_pass (S : lc_Se) (l : Launch) (hl : l.stackTraces = false) (x1 : Int32) (M : lc_MM) (out : Int32 × lc_MM) (h : P_L_pass x1 M = some out) : lc_MIW S l yL_pass cL_pass 4 (some .int) [(0, 9, 12, 13)] rm_L_pass [.ref (lc_ad S 194), .int x1, .ref (lc_ad S 206)] M out.1 out.2 := by
  refine lc_mkW (own := RL) pn_RL rfl (Nat.le_of_ble_eq_true rfl) (lo := [(0, .ref (lc_ad S 194)), (1, .int x1), (2, .ref (lc_ad S 206))]) rfl (fun X hX C ht => ?_)
  rw [P_L_pass] at h
  subst hX
  refine lc_aload_n C (pc' := 1) 2 dL_pass_0 rfl rfl ?_
  refine lc_iconst C (pc' := 2) (v := (0 : Int32)) dL_pass_1 (by decide) rfl ?_
  refine lc_aload_n C (pc' := 3) 0 dL_pass_2 rfl rfl ?_
  refine lc_iload_n C (pc' := 4) 1 dL_pass_3 rfl rfl ?_
  obtain ⟨e, r, M1, h0, h⟩ := lc_bd3e h
  refine lc_cvx C (pc' := 7) (e := e) (r := r) (M' := M1) (As := [.int x1]) (rest := [.int (0 : Int32), .ref (lc_ad S 206)]) (c_X3_pass S X.2.1 hl x1 M (e, r, M1) h0) kl_RL_56 (lc_at194 S _) rfl rfl rfl rfl (Nat.le_of_ble_eq_true rfl) ⟨Nat.le_of_ble_eq_true rfl, Nat.le_of_ble_eq_true rfl⟩ ⟨Nat.le_refl _, Nat.le_refl _⟩ dL_pass_4 rfl (fun he => ?_) (fun E q9 hex => ?_)
  · subst he
    have h := (lc_if2 h).1 rfl
    obtain ⟨M2, e2, h⟩ := lc_let2 h
    obtain rfl := Option.some.inj h
    refine lc_i2l C (pc' := 8) dL_pass_7 rfl ?_
    refine lc_lst C (pc' := 9) (M' := M2) e2 dL_pass_8 rfl ?_
    refine lc_goto C (tgt := 15) dL_pass_9 (by decide) ?_
    refine lc_iconst C (pc' := 16) (v := (0 : Int32)) dL_pass_15 (by decide) rfl ?_
    exact lc_iret C rfl dL_pass_16
  · rcases hex with ⟨rfl, rfl⟩ | ⟨rfl, rfl⟩ | ⟨rfl, rfl⟩
    · have h := (lc_if2 h).2 (by decide)
      have h := (lc_if2 h).1 rfl
      obtain rfl := Option.some.inj h
      refine lc_catch C (pc' := 12) (hh := [(0, 9, 12, 13)]) (pre := []) (z := (0, 9, 12, 13)) (suf := []) ht rfl (fun w hw => by cases hw) (by decide) (by decide) (by decide) lc_cl13 (fun U hU => hU.2.1.1) rfl ?_
      refine lc_astore_n C (pc' := 13) (lo' := [(3, .ref q9), (0, .ref (lc_ad S 194)), (1, .int x1), (2, .ref (lc_ad S 206))]) dL_pass_12 (Nat.le_of_ble_eq_true rfl) rfl rfl ?_
      refine lc_iconst C (pc' := 14) (v := (1 : Int32)) dL_pass_13 (by decide) rfl ?_
      exact lc_iret C rfl dL_pass_14
    · have h := (lc_if2 h).2 (by decide)
      have h := (lc_if2 h).2 (by decide)
      cases h
    · have h := (lc_if2 h).2 (by decide)
      have h := (lc_if2 h).2 (by decide)
      cases h
abbrev rm_L_undo : Room := { frames := 7, cells := 1, slots := 6, locals := 115 }
def P_L_undo  (M : lc_MM) : Option (Int32 × lc_MM) :=
  lc_bd3 (P_X3_undo  M) (fun e r M1 => if e = 0 then lc_let (va_up M1 23 (lc_ss (M1 23) 0 0 r)) (fun M2 => some (0, M2)) else if e = 2 then some (1, M1) else none)
theorem kw_L_undo : lc_kW RL 149 yL_undo cL_undo 3 (some .int) [(0, 8, 11, 15)] 2 := ⟨⟨lc_in (List.mem_of_getElem? (i := 666) (by decide +kernel)) rfl, lc_in (List.mem_of_getElem? (i := 667) (by decide +kernel)) rfl, lc_in (List.mem_of_getElem? (i := 54) (by decide +kernel)) rfl, lc_in (List.mem_of_getElem? (i := 668) (by decide +kernel)) rfl⟩, by decide +kernel, by decide +kernel, by decide +kernel⟩
set_option maxRecDepth 100000 in
set_option maxHeartbeats 4000000 in
theorem c_L_undo (S : lc_Se) (l : Launch) (hl : l.stackTraces = false)  (M : lc_MM) (out : Int32 × lc_MM) (h : P_L_undo  M = some out) : lc_MIW S l yL_undo cL_undo 3 (some .int) [(0, 8, 11, 15)] rm_L_undo [.ref (lc_ad S 194), .ref (lc_ad S 206)] M out.1 out.2 := by
  refine lc_mkW (own := RL) pn_RL rfl (Nat.le_of_ble_eq_true rfl) (lo := [(0, .ref (lc_ad S 194)), (1, .ref (lc_ad S 206))]) rfl (fun X hX C ht => ?_)
  rw [P_L_undo] at h
  subst hX
  refine lc_aload_n C (pc' := 1) 1 dL_undo_0 rfl rfl ?_
  refine lc_iconst C (pc' := 2) (v := (0 : Int32)) dL_undo_1 (by decide) rfl ?_
  refine lc_aload_n C (pc' := 3) 0 dL_undo_2 rfl rfl ?_
  obtain ⟨e, r, M1, h0, h⟩ := lc_bd3e h
  refine lc_cvx C (pc' := 6) (e := e) (r := r) (M' := M1) (As := []) (rest := [.int (0 : Int32), .ref (lc_ad S 206)]) (c_X3_undo S X.2.1 hl  M (e, r, M1) h0) kl_RL_59 (lc_at194 S _) rfl rfl rfl rfl (Nat.le_of_ble_eq_true rfl) ⟨Nat.le_of_ble_eq_true rfl, Nat.le_of_ble_eq_true rfl⟩ ⟨Nat.le_refl _, Nat.le_refl _⟩ dL_undo_3 rfl (fun he => ?_) (fun E q9 hex => ?_)
  · subst he
    have h := (lc_if2 h).1 rfl
    obtain ⟨M2, e2, h⟩ := lc_let2 h
    obtain rfl := Option.some.inj h
    refine lc_i2l C (pc' := 7) dL_undo_6 rfl ?_
    refine lc_lst C (pc' := 8) (M' := M2) e2 dL_undo_7 rfl ?_
    refine lc_goto C (tgt := 14) dL_undo_8 (by decide) ?_
    refine lc_iconst C (pc' := 15) (v := (0 : Int32)) dL_undo_14 (by decide) rfl ?_
    exact lc_iret C rfl dL_undo_15
  · rcases hex with ⟨rfl, rfl⟩ | ⟨rfl, rfl⟩ | ⟨rfl, rfl⟩
    · have h := (lc_if2 h).2 (by decide)
      have h := (lc_if2 h).2 (by decide)
      cases h
    · have h := (lc_if2 h).2 (by decide)
      have h := (lc_if2 h).1 rfl
      obtain rfl := Option.some.inj h
      refine lc_catch C (pc' := 11) (hh := [(0, 8, 11, 15)]) (pre := []) (z := (0, 8, 11, 15)) (suf := []) ht rfl (fun w hw => by cases hw) (by decide) (by decide) (by decide) lc_cl15 (fun U hU => hU.2.1.2.1) rfl ?_
      refine lc_astore_n C (pc' := 12) (lo' := [(2, .ref q9), (0, .ref (lc_ad S 194)), (1, .ref (lc_ad S 206))]) dL_undo_11 (Nat.le_of_ble_eq_true rfl) rfl rfl ?_
      refine lc_iconst C (pc' := 13) (v := (1 : Int32)) dL_undo_12 (by decide) rfl ?_
      exact lc_iret C rfl dL_undo_13
    · have h := (lc_if2 h).2 (by decide)
      have h := (lc_if2 h).2 (by decide)
      cases h
abbrev rm_L_holds : Room := { frames := 7, cells := 1, slots := 6, locals := 138 }
def P_L_holds (x1 : Int32) (M : lc_MM) : Option (Int32 × lc_MM) :=
  lc_bd3 (P_X3_holds x1 M) (fun e r M1 => if e = 0 then lc_let (va_up M1 23 (lc_ss (M1 23) 0 0 r)) (fun M2 => some (0, M2)) else if e = 3 then some (1, M1) else none)
theorem kw_L_holds : lc_kW RL 152 yL_holds cL_holds 4 (some .int) [(0, 9, 12, 28)] 3 := ⟨⟨lc_in (List.mem_of_getElem? (i := 678) (by decide +kernel)) rfl, lc_in (List.mem_of_getElem? (i := 679) (by decide +kernel)) rfl, lc_in (List.mem_of_getElem? (i := 54) (by decide +kernel)) rfl, lc_in (List.mem_of_getElem? (i := 680) (by decide +kernel)) rfl⟩, by decide +kernel, by decide +kernel, by decide +kernel⟩
set_option maxRecDepth 100000 in
set_option maxHeartbeats 4000000 in
theorem c_L_holds (S : lc_Se) (l : Launch) (hl : l.stackTraces = false) (x1 : Int32) (M : lc_MM) (out : Int32 × lc_MM) (h : P_L_holds x1 M = some out) : lc_MIW S l yL_holds cL_holds 4 (some .int) [(0, 9, 12, 28)] rm_L_holds [.ref (lc_ad S 194), .int x1, .ref (lc_ad S 206)] M out.1 out.2 := by
  refine lc_mkW (own := RL) pn_RL rfl (Nat.le_of_ble_eq_true rfl) (lo := [(0, .ref (lc_ad S 194)), (1, .int x1), (2, .ref (lc_ad S 206))]) rfl (fun X hX C ht => ?_)
  rw [P_L_holds] at h
  subst hX
  refine lc_aload_n C (pc' := 1) 2 dL_holds_0 rfl rfl ?_
  refine lc_iconst C (pc' := 2) (v := (0 : Int32)) dL_holds_1 (by decide) rfl ?_
  refine lc_aload_n C (pc' := 3) 0 dL_holds_2 rfl rfl ?_
  refine lc_iload_n C (pc' := 4) 1 dL_holds_3 rfl rfl ?_
  obtain ⟨e, r, M1, h0, h⟩ := lc_bd3e h
  refine lc_cvx C (pc' := 7) (e := e) (r := r) (M' := M1) (As := [.int x1]) (rest := [.int (0 : Int32), .ref (lc_ad S 206)]) (c_X3_holds S X.2.1 hl x1 M (e, r, M1) h0) kl_RL_62 (lc_at194 S _) rfl rfl rfl rfl (Nat.le_of_ble_eq_true rfl) ⟨Nat.le_of_ble_eq_true rfl, Nat.le_of_ble_eq_true rfl⟩ ⟨Nat.le_refl _, Nat.le_refl _⟩ dL_holds_4 rfl (fun he => ?_) (fun E q9 hex => ?_)
  · subst he
    have h := (lc_if2 h).1 rfl
    obtain ⟨M2, e2, h⟩ := lc_let2 h
    obtain rfl := Option.some.inj h
    refine lc_i2l C (pc' := 8) dL_holds_7 rfl ?_
    refine lc_lst C (pc' := 9) (M' := M2) e2 dL_holds_8 rfl ?_
    refine lc_goto C (tgt := 15) dL_holds_9 (by decide) ?_
    refine lc_iconst C (pc' := 16) (v := (0 : Int32)) dL_holds_15 (by decide) rfl ?_
    exact lc_iret C rfl dL_holds_16
  · rcases hex with ⟨rfl, rfl⟩ | ⟨rfl, rfl⟩ | ⟨rfl, rfl⟩
    · have h := (lc_if2 h).2 (by decide)
      have h := (lc_if2 h).2 (by decide)
      cases h
    · have h := (lc_if2 h).2 (by decide)
      have h := (lc_if2 h).2 (by decide)
      cases h
    · have h := (lc_if2 h).2 (by decide)
      have h := (lc_if2 h).1 rfl
      obtain rfl := Option.some.inj h
      refine lc_catch C (pc' := 12) (hh := [(0, 9, 12, 28)]) (pre := []) (z := (0, 9, 12, 28)) (suf := []) ht rfl (fun w hw => by cases hw) (by decide) (by decide) (by decide) lc_cl28 (fun U hU => hU.2.1.2.2) rfl ?_
      refine lc_astore_n C (pc' := 13) (lo' := [(3, .ref q9), (0, .ref (lc_ad S 194)), (1, .int x1), (2, .ref (lc_ad S 206))]) dL_holds_12 (Nat.le_of_ble_eq_true rfl) rfl rfl ?_
      refine lc_iconst C (pc' := 14) (v := (1 : Int32)) dL_holds_13 (by decide) rfl ?_
      exact lc_iret C rfl dL_holds_14
abbrev rm_L_draws : Room := { frames := 7, cells := 1, slots := 6, locals := 159 }
def P_L_draws (x1 : Int32) (M : lc_MM) : Option (Int32 × lc_MM) :=
  lc_bd3 (P_X3_draws x1 M) (fun e r M1 => if e = 0 then lc_let (va_up M1 23 (lc_ss (M1 23) 0 0 r)) (fun M2 => some (0, M2)) else if e = 1 then some (1, M1) else none)
theorem kw_L_draws : lc_kW RL 155 yL_draws cL_draws 4 (some .int) [(0, 9, 12, 13)] 3 := ⟨⟨lc_in (List.mem_of_getElem? (i := 687) (by decide +kernel)) rfl, lc_in (List.mem_of_getElem? (i := 688) (by decide +kernel)) rfl, lc_in (List.mem_of_getElem? (i := 54) (by decide +kernel)) rfl, lc_in (List.mem_of_getElem? (i := 689) (by decide +kernel)) rfl⟩, by decide +kernel, by decide +kernel, by decide +kernel⟩
set_option maxRecDepth 100000 in
set_option maxHeartbeats 4000000 in
theorem c_L_draws (S : lc_Se) (l : Launch) (hl : l.stackTraces = false) (x1 : Int32) (M : lc_MM) (out : Int32 × lc_MM) (h : P_L_draws x1 M = some out) : lc_MIW S l yL_draws cL_draws 4 (some .int) [(0, 9, 12, 13)] rm_L_draws [.ref (lc_ad S 194), .int x1, .ref (lc_ad S 206)] M out.1 out.2 := by
  refine lc_mkW (own := RL) pn_RL rfl (Nat.le_of_ble_eq_true rfl) (lo := [(0, .ref (lc_ad S 194)), (1, .int x1), (2, .ref (lc_ad S 206))]) rfl (fun X hX C ht => ?_)
  rw [P_L_draws] at h
  subst hX
  refine lc_aload_n C (pc' := 1) 2 dL_draws_0 rfl rfl ?_
  refine lc_iconst C (pc' := 2) (v := (0 : Int32)) dL_draws_1 (by decide) rfl ?_
  refine lc_aload_n C (pc' := 3) 0 dL_draws_2 rfl rfl ?_
  refine lc_iload_n C (pc' := 4) 1 dL_draws_3 rfl rfl ?_
  obtain ⟨e, r, M1, h0, h⟩ := lc_bd3e h
  refine lc_cvx C (pc' := 7) (e := e) (r := r) (M' := M1) (As := [.int x1]) (rest := [.int (0 : Int32), .ref (lc_ad S 206)]) (c_X3_draws S X.2.1 hl x1 M (e, r, M1) h0) kl_RL_65 (lc_at194 S _) rfl rfl rfl rfl (Nat.le_of_ble_eq_true rfl) ⟨Nat.le_of_ble_eq_true rfl, Nat.le_of_ble_eq_true rfl⟩ ⟨Nat.le_refl _, Nat.le_refl _⟩ dL_draws_4 rfl (fun he => ?_) (fun E q9 hex => ?_)
  · subst he
    have h := (lc_if2 h).1 rfl
    obtain ⟨M2, e2, h⟩ := lc_let2 h
    obtain rfl := Option.some.inj h
    refine lc_i2l C (pc' := 8) dL_draws_7 rfl ?_
    refine lc_lst C (pc' := 9) (M' := M2) e2 dL_draws_8 rfl ?_
    refine lc_goto C (tgt := 15) dL_draws_9 (by decide) ?_
    refine lc_iconst C (pc' := 16) (v := (0 : Int32)) dL_draws_15 (by decide) rfl ?_
    exact lc_iret C rfl dL_draws_16
  · rcases hex with ⟨rfl, rfl⟩ | ⟨rfl, rfl⟩ | ⟨rfl, rfl⟩
    · have h := (lc_if2 h).2 (by decide)
      have h := (lc_if2 h).1 rfl
      obtain rfl := Option.some.inj h
      refine lc_catch C (pc' := 12) (hh := [(0, 9, 12, 13)]) (pre := []) (z := (0, 9, 12, 13)) (suf := []) ht rfl (fun w hw => by cases hw) (by decide) (by decide) (by decide) lc_cl13 (fun U hU => hU.2.1.1) rfl ?_
      refine lc_astore_n C (pc' := 13) (lo' := [(3, .ref q9), (0, .ref (lc_ad S 194)), (1, .int x1), (2, .ref (lc_ad S 206))]) dL_draws_12 (Nat.le_of_ble_eq_true rfl) rfl rfl ?_
      refine lc_iconst C (pc' := 14) (v := (1 : Int32)) dL_draws_13 (by decide) rfl ?_
      exact lc_iret C rfl dL_draws_14
    · have h := (lc_if2 h).2 (by decide)
      have h := (lc_if2 h).2 (by decide)
      cases h
    · have h := (lc_if2 h).2 (by decide)
      have h := (lc_if2 h).2 (by decide)
      cases h
abbrev rm_L_bestLender : Room := { frames := 7, cells := 1, slots := 6, locals := 117 }
def P_L_bestLender (x1 : Int32) (x2 : Int32) (M : lc_MM) : Option (Int32 × lc_MM) :=
  lc_bd3 (P_X3_bestLender x1 x2 M) (fun e r M1 => if e = 0 then lc_let (va_up M1 23 (lc_ss (M1 23) 0 0 r)) (fun M2 => some (0, M2)) else if e = 3 then some (1, M1) else if e = 1 then some (2, M1) else none)
theorem kw_L_bestLender : lc_kW RL 162 yL_bestLender cL_bestLender 5 (some .int) [(0, 10, 13, 28), (0, 10, 17, 13)] 4 := ⟨⟨lc_in (List.mem_of_getElem? (i := 694) (by decide +kernel)) rfl, lc_in (List.mem_of_getElem? (i := 695) (by decide +kernel)) rfl, lc_in (List.mem_of_getElem? (i := 54) (by decide +kernel)) rfl, lc_in (List.mem_of_getElem? (i := 696) (by decide +kernel)) rfl⟩, by decide +kernel, by decide +kernel, by decide +kernel⟩
set_option maxRecDepth 100000 in
set_option maxHeartbeats 4000000 in
theorem c_L_bestLender (S : lc_Se) (l : Launch) (hl : l.stackTraces = false) (x1 : Int32) (x2 : Int32) (M : lc_MM) (out : Int32 × lc_MM) (h : P_L_bestLender x1 x2 M = some out) : lc_MIW S l yL_bestLender cL_bestLender 5 (some .int) [(0, 10, 13, 28), (0, 10, 17, 13)] rm_L_bestLender [.ref (lc_ad S 194), .int x1, .int x2, .ref (lc_ad S 206)] M out.1 out.2 := by
  refine lc_mkW (own := RL) pn_RL rfl (Nat.le_of_ble_eq_true rfl) (lo := [(0, .ref (lc_ad S 194)), (1, .int x1), (2, .int x2), (3, .ref (lc_ad S 206))]) rfl (fun X hX C ht => ?_)
  rw [P_L_bestLender] at h
  subst hX
  refine lc_aload_n C (pc' := 1) 3 dL_bestLender_0 rfl rfl ?_
  refine lc_iconst C (pc' := 2) (v := (0 : Int32)) dL_bestLender_1 (by decide) rfl ?_
  refine lc_aload_n C (pc' := 3) 0 dL_bestLender_2 rfl rfl ?_
  refine lc_iload_n C (pc' := 4) 1 dL_bestLender_3 rfl rfl ?_
  refine lc_iload_n C (pc' := 5) 2 dL_bestLender_4 rfl rfl ?_
  obtain ⟨e, r, M1, h0, h⟩ := lc_bd3e h
  refine lc_cvx C (pc' := 8) (e := e) (r := r) (M' := M1) (As := [.int x1, .int x2]) (rest := [.int (0 : Int32), .ref (lc_ad S 206)]) (c_X3_bestLender S X.2.1 hl x1 x2 M (e, r, M1) h0) kl_RL_68 (lc_at194 S _) rfl rfl rfl rfl (Nat.le_of_ble_eq_true rfl) ⟨Nat.le_of_ble_eq_true rfl, Nat.le_of_ble_eq_true rfl⟩ ⟨Nat.le_refl _, Nat.le_refl _⟩ dL_bestLender_5 rfl (fun he => ?_) (fun E q9 hex => ?_)
  · subst he
    have h := (lc_if2 h).1 rfl
    obtain ⟨M2, e2, h⟩ := lc_let2 h
    obtain rfl := Option.some.inj h
    refine lc_i2l C (pc' := 9) dL_bestLender_8 rfl ?_
    refine lc_lst C (pc' := 10) (M' := M2) e2 dL_bestLender_9 rfl ?_
    refine lc_goto C (tgt := 21) dL_bestLender_10 (by decide) ?_
    refine lc_iconst C (pc' := 22) (v := (0 : Int32)) dL_bestLender_21 (by decide) rfl ?_
    exact lc_iret C rfl dL_bestLender_22
  · rcases hex with ⟨rfl, rfl⟩ | ⟨rfl, rfl⟩ | ⟨rfl, rfl⟩
    · have h := (lc_if2 h).2 (by decide)
      have h := (lc_if2 h).2 (by decide)
      have h := (lc_if2 h).1 rfl
      obtain rfl := Option.some.inj h
      refine lc_catch C (pc' := 17) (hh := [(0, 10, 13, 28), (0, 10, 17, 13)]) (pre := [(0, 10, 13, 28)]) (z := (0, 10, 17, 13)) (suf := []) ht rfl (fun w hw => by rcases List.mem_singleton.mp hw with rfl; exact ⟨by decide, _, lc_cl28, fun U hU => hU.2.2.2.1⟩) (by decide) (by decide) (by decide) lc_cl13 (fun U hU => hU.2.1.1) rfl ?_
      refine lc_astore C (pc' := 19) (lo' := [(4, .ref q9), (0, .ref (lc_ad S 194)), (1, .int x1), (2, .int x2), (3, .ref (lc_ad S 206))]) dL_bestLender_17 (Nat.le_of_ble_eq_true rfl) rfl rfl ?_
      refine lc_iconst C (pc' := 20) (v := (2 : Int32)) dL_bestLender_19 (by decide) rfl ?_
      exact lc_iret C rfl dL_bestLender_20
    · have h := (lc_if2 h).2 (by decide)
      have h := (lc_if2 h).2 (by decide)
      have h := (lc_if2 h).2 (by decide)
      cases h
    · have h := (lc_if2 h).2 (by decide)
      have h := (lc_if2 h).1 rfl
      obtain rfl := Option.some.inj h
      refine lc_catch C (pc' := 13) (hh := [(0, 10, 13, 28), (0, 10, 17, 13)]) (pre := []) (z := (0, 10, 13, 28)) (suf := [(0, 10, 17, 13)]) ht rfl (fun w hw => by cases hw) (by decide) (by decide) (by decide) lc_cl28 (fun U hU => hU.2.1.2.2) rfl ?_
      refine lc_astore C (pc' := 15) (lo' := [(4, .ref q9), (0, .ref (lc_ad S 194)), (1, .int x1), (2, .int x2), (3, .ref (lc_ad S 206))]) dL_bestLender_13 (Nat.le_of_ble_eq_true rfl) rfl rfl ?_
      refine lc_iconst C (pc' := 16) (v := (1 : Int32)) dL_bestLender_15 (by decide) rfl ?_
      exact lc_iret C rfl dL_bestLender_16
abbrev rm_L_costs : Room := { frames := 7, cells := 1, slots := 6, locals := 161 }
def P_L_costs (x1 : Int32) (x2 : Int32) (M : lc_MM) : Option (Int32 × lc_MM) :=
  lc_bd3 (P_X3_costs x1 x2 M) (fun e r M1 => if e = 0 then lc_let (va_up M1 23 (lc_ss (M1 23) 0 0 r)) (fun M2 => some (0, M2)) else if e = 3 then some (1, M1) else if e = 1 then some (2, M1) else none)
theorem kw_L_costs : lc_kW RL 165 yL_costs cL_costs 5 (some .int) [(0, 10, 13, 28), (0, 10, 17, 13)] 4 := ⟨⟨lc_in (List.mem_of_getElem? (i := 705) (by decide +kernel)) rfl, lc_in (List.mem_of_getElem? (i := 706) (by decide +kernel)) rfl, lc_in (List.mem_of_getElem? (i := 54) (by decide +kernel)) rfl, lc_in (List.mem_of_getElem? (i := 707) (by decide +kernel)) rfl⟩, by decide +kernel, by decide +kernel, by decide +kernel⟩
set_option maxRecDepth 100000 in
set_option maxHeartbeats 4000000 in
theorem c_L_costs (S : lc_Se) (l : Launch) (hl : l.stackTraces = false) (x1 : Int32) (x2 : Int32) (M : lc_MM) (out : Int32 × lc_MM) (h : P_L_costs x1 x2 M = some out) : lc_MIW S l yL_costs cL_costs 5 (some .int) [(0, 10, 13, 28), (0, 10, 17, 13)] rm_L_costs [.ref (lc_ad S 194), .int x1, .int x2, .ref (lc_ad S 206)] M out.1 out.2 := by
  refine lc_mkW (own := RL) pn_RL rfl (Nat.le_of_ble_eq_true rfl) (lo := [(0, .ref (lc_ad S 194)), (1, .int x1), (2, .int x2), (3, .ref (lc_ad S 206))]) rfl (fun X hX C ht => ?_)
  rw [P_L_costs] at h
  subst hX
  refine lc_aload_n C (pc' := 1) 3 dL_costs_0 rfl rfl ?_
  refine lc_iconst C (pc' := 2) (v := (0 : Int32)) dL_costs_1 (by decide) rfl ?_
  refine lc_aload_n C (pc' := 3) 0 dL_costs_2 rfl rfl ?_
  refine lc_iload_n C (pc' := 4) 1 dL_costs_3 rfl rfl ?_
  refine lc_iload_n C (pc' := 5) 2 dL_costs_4 rfl rfl ?_
  obtain ⟨e, r, M1, h0, h⟩ := lc_bd3e h
  refine lc_cvx C (pc' := 8) (e := e) (r := r) (M' := M1) (As := [.int x1, .int x2]) (rest := [.int (0 : Int32), .ref (lc_ad S 206)]) (c_X3_costs S X.2.1 hl x1 x2 M (e, r, M1) h0) kl_RL_71 (lc_at194 S _) rfl rfl rfl rfl (Nat.le_of_ble_eq_true rfl) ⟨Nat.le_of_ble_eq_true rfl, Nat.le_of_ble_eq_true rfl⟩ ⟨Nat.le_refl _, Nat.le_refl _⟩ dL_costs_5 rfl (fun he => ?_) (fun E q9 hex => ?_)
  · subst he
    have h := (lc_if2 h).1 rfl
    obtain ⟨M2, e2, h⟩ := lc_let2 h
    obtain rfl := Option.some.inj h
    refine lc_i2l C (pc' := 9) dL_costs_8 rfl ?_
    refine lc_lst C (pc' := 10) (M' := M2) e2 dL_costs_9 rfl ?_
    refine lc_goto C (tgt := 21) dL_costs_10 (by decide) ?_
    refine lc_iconst C (pc' := 22) (v := (0 : Int32)) dL_costs_21 (by decide) rfl ?_
    exact lc_iret C rfl dL_costs_22
  · rcases hex with ⟨rfl, rfl⟩ | ⟨rfl, rfl⟩ | ⟨rfl, rfl⟩
    · have h := (lc_if2 h).2 (by decide)
      have h := (lc_if2 h).2 (by decide)
      have h := (lc_if2 h).1 rfl
      obtain rfl := Option.some.inj h
      refine lc_catch C (pc' := 17) (hh := [(0, 10, 13, 28), (0, 10, 17, 13)]) (pre := [(0, 10, 13, 28)]) (z := (0, 10, 17, 13)) (suf := []) ht rfl (fun w hw => by rcases List.mem_singleton.mp hw with rfl; exact ⟨by decide, _, lc_cl28, fun U hU => hU.2.2.2.1⟩) (by decide) (by decide) (by decide) lc_cl13 (fun U hU => hU.2.1.1) rfl ?_
      refine lc_astore C (pc' := 19) (lo' := [(4, .ref q9), (0, .ref (lc_ad S 194)), (1, .int x1), (2, .int x2), (3, .ref (lc_ad S 206))]) dL_costs_17 (Nat.le_of_ble_eq_true rfl) rfl rfl ?_
      refine lc_iconst C (pc' := 20) (v := (2 : Int32)) dL_costs_19 (by decide) rfl ?_
      exact lc_iret C rfl dL_costs_20
    · have h := (lc_if2 h).2 (by decide)
      have h := (lc_if2 h).2 (by decide)
      have h := (lc_if2 h).2 (by decide)
      cases h
    · have h := (lc_if2 h).2 (by decide)
      have h := (lc_if2 h).1 rfl
      obtain rfl := Option.some.inj h
      refine lc_catch C (pc' := 13) (hh := [(0, 10, 13, 28), (0, 10, 17, 13)]) (pre := []) (z := (0, 10, 13, 28)) (suf := [(0, 10, 17, 13)]) ht rfl (fun w hw => by cases hw) (by decide) (by decide) (by decide) lc_cl28 (fun U hU => hU.2.1.2.2) rfl ?_
      refine lc_astore C (pc' := 15) (lo' := [(4, .ref q9), (0, .ref (lc_ad S 194)), (1, .int x1), (2, .int x2), (3, .ref (lc_ad S 206))]) dL_costs_13 (Nat.le_of_ble_eq_true rfl) rfl rfl ?_
      refine lc_iconst C (pc' := 16) (v := (1 : Int32)) dL_costs_15 (by decide) rfl ?_
      exact lc_iret C rfl dL_costs_16
abbrev rm_L_runScript : Room := { frames := 8, cells := 1, slots := 6, locals := 191 }
def P_L_runScript (x1 : Int32) (x2 : Int64) (M : lc_MM) : Option (Int32 × lc_MM) :=
  lc_bd3 (P_X3_runScript x1 x2 M) (fun e r M1 => if e = 0 then lc_let (va_up M1 23 (lc_ss (M1 23) 0 0 r)) (fun M2 => some (0, M2)) else if e = 1 then some (1, M1) else none)
theorem kw_L_runScript : lc_kW RL 170 yL_runScript cL_runScript 6 (some .int) [(0, 11, 14, 13)] 4 := ⟨⟨lc_in (List.mem_of_getElem? (i := 712) (by decide +kernel)) rfl, lc_in (List.mem_of_getElem? (i := 713) (by decide +kernel)) rfl, lc_in (List.mem_of_getElem? (i := 54) (by decide +kernel)) rfl, lc_in (List.mem_of_getElem? (i := 714) (by decide +kernel)) rfl⟩, by decide +kernel, by decide +kernel, by decide +kernel⟩
set_option maxRecDepth 100000 in
set_option maxHeartbeats 4000000 in
theorem c_L_runScript (S : lc_Se) (l : Launch) (hl : l.stackTraces = false) (x1 : Int32) (x2 : Int64) (M : lc_MM) (out : Int32 × lc_MM) (h : P_L_runScript x1 x2 M = some out) : lc_MIW S l yL_runScript cL_runScript 6 (some .int) [(0, 11, 14, 13)] rm_L_runScript [.ref (lc_ad S 194), .int x1, .long x2, .ref (lc_ad S 206)] M out.1 out.2 := by
  refine lc_mkW (own := RL) pn_RL rfl (Nat.le_of_ble_eq_true rfl) (lo := [(0, .ref (lc_ad S 194)), (1, .int x1), (2, .long x2), (4, .ref (lc_ad S 206))]) rfl (fun X hX C ht => ?_)
  rw [P_L_runScript] at h
  subst hX
  refine lc_aload C (pc' := 2) 3 dL_runScript_0 rfl rfl ?_
  refine lc_iconst C (pc' := 3) (v := (0 : Int32)) dL_runScript_2 (by decide) rfl ?_
  refine lc_aload_n C (pc' := 4) 0 dL_runScript_3 rfl rfl ?_
  refine lc_iload_n C (pc' := 5) 1 dL_runScript_4 rfl rfl ?_
  refine lc_lload_n C (pc' := 6) 2 dL_runScript_5 rfl rfl ?_
  obtain ⟨e, r, M1, h0, h⟩ := lc_bd3e h
  refine lc_cvx C (pc' := 9) (e := e) (r := r) (M' := M1) (As := [.int x1, .long x2]) (rest := [.int (0 : Int32), .ref (lc_ad S 206)]) (c_X3_runScript S X.2.1 hl x1 x2 M (e, r, M1) h0) kl_RL_74 (lc_at194 S _) rfl rfl rfl rfl (Nat.le_of_ble_eq_true rfl) ⟨Nat.le_of_ble_eq_true rfl, Nat.le_of_ble_eq_true rfl⟩ ⟨Nat.le_refl _, Nat.le_refl _⟩ dL_runScript_6 rfl (fun he => ?_) (fun E q9 hex => ?_)
  · subst he
    have h := (lc_if2 h).1 rfl
    obtain ⟨M2, e2, h⟩ := lc_let2 h
    obtain rfl := Option.some.inj h
    refine lc_i2l C (pc' := 10) dL_runScript_9 rfl ?_
    refine lc_lst C (pc' := 11) (M' := M2) e2 dL_runScript_10 rfl ?_
    refine lc_goto C (tgt := 18) dL_runScript_11 (by decide) ?_
    refine lc_iconst C (pc' := 19) (v := (0 : Int32)) dL_runScript_18 (by decide) rfl ?_
    exact lc_iret C rfl dL_runScript_19
  · rcases hex with ⟨rfl, rfl⟩ | ⟨rfl, rfl⟩ | ⟨rfl, rfl⟩
    · have h := (lc_if2 h).2 (by decide)
      have h := (lc_if2 h).1 rfl
      obtain rfl := Option.some.inj h
      refine lc_catch C (pc' := 14) (hh := [(0, 11, 14, 13)]) (pre := []) (z := (0, 11, 14, 13)) (suf := []) ht rfl (fun w hw => by cases hw) (by decide) (by decide) (by decide) lc_cl13 (fun U hU => hU.2.1.1) rfl ?_
      refine lc_astore C (pc' := 16) (lo' := [(5, .ref q9), (0, .ref (lc_ad S 194)), (1, .int x1), (2, .long x2), (4, .ref (lc_ad S 206))]) dL_runScript_14 (Nat.le_of_ble_eq_true rfl) rfl rfl ?_
      refine lc_iconst C (pc' := 17) (v := (1 : Int32)) dL_runScript_16 (by decide) rfl ?_
      exact lc_iret C rfl dL_runScript_17
    · have h := (lc_if2 h).2 (by decide)
      have h := (lc_if2 h).2 (by decide)
      cases h
    · have h := (lc_if2 h).2 (by decide)
      have h := (lc_if2 h).2 (by decide)
      cases h
abbrev rm_L_simulate : Room := { frames := 8, cells := 1, slots := 6, locals := 187 }
def P_L_simulate (x1 : Int64) (x3 : Int32) (M : lc_MM) : Option (Int32 × lc_MM) :=
  lc_bd3 (P_X3_simulate x1 x3 M) (fun e r M1 => if e = 0 then lc_let (va_up M1 23 (lc_ss (M1 23) 0 0 r)) (fun M2 => some (0, M2)) else if e = 1 then some (1, M1) else none)
theorem kw_L_simulate : lc_kW RL 174 yL_simulate cL_simulate 6 (some .int) [(0, 11, 14, 13)] 4 := ⟨⟨lc_in (List.mem_of_getElem? (i := 735) (by decide +kernel)) rfl, lc_in (List.mem_of_getElem? (i := 736) (by decide +kernel)) rfl, lc_in (List.mem_of_getElem? (i := 54) (by decide +kernel)) rfl, lc_in (List.mem_of_getElem? (i := 737) (by decide +kernel)) rfl⟩, by decide +kernel, by decide +kernel, by decide +kernel⟩
set_option maxRecDepth 100000 in
set_option maxHeartbeats 4000000 in
theorem c_L_simulate (S : lc_Se) (l : Launch) (hl : l.stackTraces = false) (x1 : Int64) (x3 : Int32) (M : lc_MM) (out : Int32 × lc_MM) (h : P_L_simulate x1 x3 M = some out) : lc_MIW S l yL_simulate cL_simulate 6 (some .int) [(0, 11, 14, 13)] rm_L_simulate [.ref (lc_ad S 194), .long x1, .int x3, .ref (lc_ad S 206)] M out.1 out.2 := by
  refine lc_mkW (own := RL) pn_RL rfl (Nat.le_of_ble_eq_true rfl) (lo := [(0, .ref (lc_ad S 194)), (1, .long x1), (3, .int x3), (4, .ref (lc_ad S 206))]) rfl (fun X hX C ht => ?_)
  rw [P_L_simulate] at h
  subst hX
  refine lc_aload C (pc' := 2) 3 dL_simulate_0 rfl rfl ?_
  refine lc_iconst C (pc' := 3) (v := (0 : Int32)) dL_simulate_2 (by decide) rfl ?_
  refine lc_aload_n C (pc' := 4) 0 dL_simulate_3 rfl rfl ?_
  refine lc_lload_n C (pc' := 5) 1 dL_simulate_4 rfl rfl ?_
  refine lc_iload_n C (pc' := 6) 2 dL_simulate_5 rfl rfl ?_
  obtain ⟨e, r, M1, h0, h⟩ := lc_bd3e h
  refine lc_cvx C (pc' := 9) (e := e) (r := r) (M' := M1) (As := [.long x1, .int x3]) (rest := [.int (0 : Int32), .ref (lc_ad S 206)]) (c_X3_simulate S X.2.1 hl x1 x3 M (e, r, M1) h0) kl_RL_78 (lc_at194 S _) rfl rfl rfl rfl (Nat.le_of_ble_eq_true rfl) ⟨Nat.le_of_ble_eq_true rfl, Nat.le_of_ble_eq_true rfl⟩ ⟨Nat.le_refl _, Nat.le_refl _⟩ dL_simulate_6 rfl (fun he => ?_) (fun E q9 hex => ?_)
  · subst he
    have h := (lc_if2 h).1 rfl
    obtain ⟨M2, e2, h⟩ := lc_let2 h
    obtain rfl := Option.some.inj h
    refine lc_i2l C (pc' := 10) dL_simulate_9 rfl ?_
    refine lc_lst C (pc' := 11) (M' := M2) e2 dL_simulate_10 rfl ?_
    refine lc_goto C (tgt := 18) dL_simulate_11 (by decide) ?_
    refine lc_iconst C (pc' := 19) (v := (0 : Int32)) dL_simulate_18 (by decide) rfl ?_
    exact lc_iret C rfl dL_simulate_19
  · rcases hex with ⟨rfl, rfl⟩ | ⟨rfl, rfl⟩ | ⟨rfl, rfl⟩
    · have h := (lc_if2 h).2 (by decide)
      have h := (lc_if2 h).1 rfl
      obtain rfl := Option.some.inj h
      refine lc_catch C (pc' := 14) (hh := [(0, 11, 14, 13)]) (pre := []) (z := (0, 11, 14, 13)) (suf := []) ht rfl (fun w hw => by cases hw) (by decide) (by decide) (by decide) lc_cl13 (fun U hU => hU.2.1.1) rfl ?_
      refine lc_astore C (pc' := 16) (lo' := [(5, .ref q9), (0, .ref (lc_ad S 194)), (1, .long x1), (3, .int x3), (4, .ref (lc_ad S 206))]) dL_simulate_14 (Nat.le_of_ble_eq_true rfl) rfl rfl ?_
      refine lc_iconst C (pc' := 17) (v := (1 : Int32)) dL_simulate_16 (by decide) rfl ?_
      exact lc_iret C rfl dL_simulate_17
    · have h := (lc_if2 h).2 (by decide)
      have h := (lc_if2 h).2 (by decide)
      cases h
    · have h := (lc_if2 h).2 (by decide)
      have h := (lc_if2 h).2 (by decide)
      cases h
abbrev rm_L_save : Room := { frames := 7, cells := 1, slots := 6, locals := 116 }
def P_L_save (x1 : Int32) (M : lc_MM) : Option (Int32 × lc_MM) :=
  lc_bd3 (P_X3_save x1 M) (fun e r M1 => if e = 0 then lc_let (va_up M1 23 (lc_ss (M1 23) 0 0 r)) (fun M2 => some (0, M2)) else if e = 3 then some (1, M1) else none)
theorem kw_L_save : lc_kW RL 178 yL_save cL_save 4 (some .int) [(0, 9, 12, 28)] 3 := ⟨⟨lc_in (List.mem_of_getElem? (i := 750) (by decide +kernel)) rfl, lc_in (List.mem_of_getElem? (i := 751) (by decide +kernel)) rfl, lc_in (List.mem_of_getElem? (i := 54) (by decide +kernel)) rfl, lc_in (List.mem_of_getElem? (i := 752) (by decide +kernel)) rfl⟩, by decide +kernel, by decide +kernel, by decide +kernel⟩
set_option maxRecDepth 100000 in
set_option maxHeartbeats 4000000 in
theorem c_L_save (S : lc_Se) (l : Launch) (hl : l.stackTraces = false) (x1 : Int32) (M : lc_MM) (out : Int32 × lc_MM) (h : P_L_save x1 M = some out) : lc_MIW S l yL_save cL_save 4 (some .int) [(0, 9, 12, 28)] rm_L_save [.ref (lc_ad S 194), .int x1, .ref (lc_ad S 206)] M out.1 out.2 := by
  refine lc_mkW (own := RL) pn_RL rfl (Nat.le_of_ble_eq_true rfl) (lo := [(0, .ref (lc_ad S 194)), (1, .int x1), (2, .ref (lc_ad S 206))]) rfl (fun X hX C ht => ?_)
  rw [P_L_save] at h
  subst hX
  refine lc_aload_n C (pc' := 1) 2 dL_save_0 rfl rfl ?_
  refine lc_iconst C (pc' := 2) (v := (0 : Int32)) dL_save_1 (by decide) rfl ?_
  refine lc_aload_n C (pc' := 3) 0 dL_save_2 rfl rfl ?_
  refine lc_iload_n C (pc' := 4) 1 dL_save_3 rfl rfl ?_
  obtain ⟨e, r, M1, h0, h⟩ := lc_bd3e h
  refine lc_cvx C (pc' := 7) (e := e) (r := r) (M' := M1) (As := [.int x1]) (rest := [.int (0 : Int32), .ref (lc_ad S 206)]) (c_X3_save S X.2.1 hl x1 M (e, r, M1) h0) kl_RL_82 (lc_at194 S _) rfl rfl rfl rfl (Nat.le_of_ble_eq_true rfl) ⟨Nat.le_of_ble_eq_true rfl, Nat.le_of_ble_eq_true rfl⟩ ⟨Nat.le_refl _, Nat.le_refl _⟩ dL_save_4 rfl (fun he => ?_) (fun E q9 hex => ?_)
  · subst he
    have h := (lc_if2 h).1 rfl
    obtain ⟨M2, e2, h⟩ := lc_let2 h
    obtain rfl := Option.some.inj h
    refine lc_i2l C (pc' := 8) dL_save_7 rfl ?_
    refine lc_lst C (pc' := 9) (M' := M2) e2 dL_save_8 rfl ?_
    refine lc_goto C (tgt := 15) dL_save_9 (by decide) ?_
    refine lc_iconst C (pc' := 16) (v := (0 : Int32)) dL_save_15 (by decide) rfl ?_
    exact lc_iret C rfl dL_save_16
  · rcases hex with ⟨rfl, rfl⟩ | ⟨rfl, rfl⟩ | ⟨rfl, rfl⟩
    · have h := (lc_if2 h).2 (by decide)
      have h := (lc_if2 h).2 (by decide)
      cases h
    · have h := (lc_if2 h).2 (by decide)
      have h := (lc_if2 h).2 (by decide)
      cases h
    · have h := (lc_if2 h).2 (by decide)
      have h := (lc_if2 h).1 rfl
      obtain rfl := Option.some.inj h
      refine lc_catch C (pc' := 12) (hh := [(0, 9, 12, 28)]) (pre := []) (z := (0, 9, 12, 28)) (suf := []) ht rfl (fun w hw => by cases hw) (by decide) (by decide) (by decide) lc_cl28 (fun U hU => hU.2.1.2.2) rfl ?_
      refine lc_astore_n C (pc' := 13) (lo' := [(3, .ref q9), (0, .ref (lc_ad S 194)), (1, .int x1), (2, .ref (lc_ad S 206))]) dL_save_12 (Nat.le_of_ble_eq_true rfl) rfl rfl ?_
      refine lc_iconst C (pc' := 14) (v := (1 : Int32)) dL_save_13 (by decide) rfl ?_
      exact lc_iret C rfl dL_save_14
abbrev rm_L_restore : Room := { frames := 7, cells := 1, slots := 6, locals := 116 }
def P_L_restore (x1 : Int32) (M : lc_MM) : Option (Int32 × lc_MM) :=
  lc_bd3 (P_X3_restore x1 M) (fun e r M1 => if e = 0 then lc_let (va_up M1 23 (lc_ss (M1 23) 0 0 r)) (fun M2 => some (0, M2)) else if e = 3 then some (1, M1) else if e = 2 then some (2, M1) else none)
theorem kw_L_restore : lc_kW RL 181 yL_restore cL_restore 4 (some .int) [(0, 9, 12, 28), (0, 9, 15, 15)] 3 := ⟨⟨lc_in (List.mem_of_getElem? (i := 758) (by decide +kernel)) rfl, lc_in (List.mem_of_getElem? (i := 759) (by decide +kernel)) rfl, lc_in (List.mem_of_getElem? (i := 54) (by decide +kernel)) rfl, lc_in (List.mem_of_getElem? (i := 760) (by decide +kernel)) rfl⟩, by decide +kernel, by decide +kernel, by decide +kernel⟩
set_option maxRecDepth 100000 in
set_option maxHeartbeats 4000000 in
theorem c_L_restore (S : lc_Se) (l : Launch) (hl : l.stackTraces = false) (x1 : Int32) (M : lc_MM) (out : Int32 × lc_MM) (h : P_L_restore x1 M = some out) : lc_MIW S l yL_restore cL_restore 4 (some .int) [(0, 9, 12, 28), (0, 9, 15, 15)] rm_L_restore [.ref (lc_ad S 194), .int x1, .ref (lc_ad S 206)] M out.1 out.2 := by
  refine lc_mkW (own := RL) pn_RL rfl (Nat.le_of_ble_eq_true rfl) (lo := [(0, .ref (lc_ad S 194)), (1, .int x1), (2, .ref (lc_ad S 206))]) rfl (fun X hX C ht => ?_)
  rw [P_L_restore] at h
  subst hX
  refine lc_aload_n C (pc' := 1) 2 dL_restore_0 rfl rfl ?_
  refine lc_iconst C (pc' := 2) (v := (0 : Int32)) dL_restore_1 (by decide) rfl ?_
  refine lc_aload_n C (pc' := 3) 0 dL_restore_2 rfl rfl ?_
  refine lc_iload_n C (pc' := 4) 1 dL_restore_3 rfl rfl ?_
  obtain ⟨e, r, M1, h0, h⟩ := lc_bd3e h
  refine lc_cvx C (pc' := 7) (e := e) (r := r) (M' := M1) (As := [.int x1]) (rest := [.int (0 : Int32), .ref (lc_ad S 206)]) (c_X3_restore S X.2.1 hl x1 M (e, r, M1) h0) kl_RL_85 (lc_at194 S _) rfl rfl rfl rfl (Nat.le_of_ble_eq_true rfl) ⟨Nat.le_of_ble_eq_true rfl, Nat.le_of_ble_eq_true rfl⟩ ⟨Nat.le_refl _, Nat.le_refl _⟩ dL_restore_4 rfl (fun he => ?_) (fun E q9 hex => ?_)
  · subst he
    have h := (lc_if2 h).1 rfl
    obtain ⟨M2, e2, h⟩ := lc_let2 h
    obtain rfl := Option.some.inj h
    refine lc_i2l C (pc' := 8) dL_restore_7 rfl ?_
    refine lc_lst C (pc' := 9) (M' := M2) e2 dL_restore_8 rfl ?_
    refine lc_goto C (tgt := 18) dL_restore_9 (by decide) ?_
    refine lc_iconst C (pc' := 19) (v := (0 : Int32)) dL_restore_18 (by decide) rfl ?_
    exact lc_iret C rfl dL_restore_19
  · rcases hex with ⟨rfl, rfl⟩ | ⟨rfl, rfl⟩ | ⟨rfl, rfl⟩
    · have h := (lc_if2 h).2 (by decide)
      have h := (lc_if2 h).2 (by decide)
      have h := (lc_if2 h).2 (by decide)
      cases h
    · have h := (lc_if2 h).2 (by decide)
      have h := (lc_if2 h).2 (by decide)
      have h := (lc_if2 h).1 rfl
      obtain rfl := Option.some.inj h
      refine lc_catch C (pc' := 15) (hh := [(0, 9, 12, 28), (0, 9, 15, 15)]) (pre := [(0, 9, 12, 28)]) (z := (0, 9, 15, 15)) (suf := []) ht rfl (fun w hw => by rcases List.mem_singleton.mp hw with rfl; exact ⟨by decide, _, lc_cl28, fun U hU => hU.2.2.2.2.2.1⟩) (by decide) (by decide) (by decide) lc_cl15 (fun U hU => hU.2.1.2.1) rfl ?_
      refine lc_astore_n C (pc' := 16) (lo' := [(3, .ref q9), (0, .ref (lc_ad S 194)), (1, .int x1), (2, .ref (lc_ad S 206))]) dL_restore_15 (Nat.le_of_ble_eq_true rfl) rfl rfl ?_
      refine lc_iconst C (pc' := 17) (v := (2 : Int32)) dL_restore_16 (by decide) rfl ?_
      exact lc_iret C rfl dL_restore_17
    · have h := (lc_if2 h).2 (by decide)
      have h := (lc_if2 h).1 rfl
      obtain rfl := Option.some.inj h
      refine lc_catch C (pc' := 12) (hh := [(0, 9, 12, 28), (0, 9, 15, 15)]) (pre := []) (z := (0, 9, 12, 28)) (suf := [(0, 9, 15, 15)]) ht rfl (fun w hw => by cases hw) (by decide) (by decide) (by decide) lc_cl28 (fun U hU => hU.2.1.2.2) rfl ?_
      refine lc_astore_n C (pc' := 13) (lo' := [(3, .ref q9), (0, .ref (lc_ad S 194)), (1, .int x1), (2, .ref (lc_ad S 206))]) dL_restore_12 (Nat.le_of_ble_eq_true rfl) rfl rfl ?_
      refine lc_iconst C (pc' := 14) (v := (1 : Int32)) dL_restore_13 (by decide) rfl ?_
      exact lc_iret C rfl dL_restore_14
