/-! ===== methods with a table of handlers ===== -/
abbrev lc_wsW (y : MethodName) (b : ByteArray) (n : Nat) (r : Option FieldType) (hh : List (Nat × Nat × Nat × Nat)) : List Cond := .codeWith y b n r hh :: lc_T
def lc_MIW (S : lc_Se) (l : Launch) (y : MethodName) (b : ByteArray) (mL : Nat) (ret : Option FieldType) (hh : List (Nat × Nat × Nat × Nat)) (rm : Room) (av : List Value) (M : lc_MM) (r : Int32) (M' : lc_MM) : Prop :=
  Met l y (lc_wsW y b mL ret hh) rm (va_Pc av (lc_B S M)) (va_Qi (fun (x : Int32) (_ : Unit) => x = r) (fun _ t => lc_B S M' t) (lc_A S)) rm.cells rm.slots (lc_A S)
theorem lc_ofWH {l : Launch} {y : MethodName} {ws ws' : List Cond} {rm : Room} {Pc : Array Value → State → Prop} {Qc : Array Value → State → Outcome → State → Prop} {mc ms : Nat} {free : Addr → Prop} {cc : ByteArray} {maxL : Nat} {ret : Option FieldType} {hh : List (Nat × Nat × Nat × Nat)}
    (hy : plainName y.cls = true) (hw : ws = Cond.codeWith y cc maxL ret hh :: ws')
    (body : ∀ p e s m args below meth c s₁, BodyLoose p l y (headSpec ws rm) cc maxL ret e s m args below meth c s₁ → c.maxLocals = maxL → Pc args s →
      W p l e (headSpec ws rm).room s m args below meth c s.heap [] 0 0 (MQ below Qc args s mc ms free) (entryFrame m args maxL)) : Met l y ws rm Pc Qc mc ms free := by
  refine MetFree.of_bodyS (code := cc) (maxLocals := maxL) (ret := ret) hy ?_ ?_
  · intro args s m h hn
    obtain ⟨m9, meth, c, hn9, h1, h2, h3, h4, -, h5, h6, -⟩ := Cond.codeWith_spec (atoms_spec (ws := ws) h _ (by rw [hw]; exact List.mem_cons_self))
    cases hn.symm.trans hn9
    exact ⟨meth, c, h1, h2, h3, h4, h5, h6⟩
  · intro p e s m args below meth c s₁ B hml hP _
    have hh0 : s₁.heap = s.heap := by rw [B.state]; rfl
    obtain ⟨t, a1, o, b1, b2, b3⟩ := body p e s m args below meth c s₁ B hml hP s₁ hh0 (Stand.of_body B)
    exact ⟨t, o, a1, b1, b2, ⟨b3.1, b3.2⟩⟩
theorem lc_mkW {S : lc_Se} {l : Launch} {y : MethodName} {b : ByteArray} {mL : Nat} {ret : Option FieldType} {hh : List (Nat × Nat × Nat × Nat)} {rm : Room} {av : List Value} {M M' : lc_MM} {lo : List (Nat × Value)} {own : String} {r : Int32} (hy : plainName y.cls = true) (hown : y.cls = own) (hlen : (lg_sl av).length ≤ mL) (hlo : lv_args 0 av = lo) (body : ∀ X : lc_X, X.2.1 = l → lc_C X b own mL ret rm → X.2.2.2.2.2.2.2.2.2.exceptionTable.toList = tableOf hh → lc_J S X mL 0 0 (lc_QI S X rm.cells rm.slots r M') 0 lo [] M) : lc_MIW S l y b mL ret hh rm av M r M' := by
  refine lc_ofWH (cc := b) (maxL := mL) (ret := ret) (hh := hh) hy rfl ?_
  intro p e s m args below meth c s₁ B hml hv
  obtain ⟨rfl, hB⟩ := hv
  have hts := atoms_spec (ws := lc_wsW y b mL ret hh) B.pre
  have hl := lv_entry av hlen
  rw [lg_entry_eq]
  rw [hlo] at hl
  exact body (p, l, e, (headSpec (lc_wsW y b mL ret hh) rm).room, s, m, av.toArray, below, meth, c) rfl ⟨B.exec, B.bytes, hml, hown ▸ findClass_of_methodNamed B.named, fun w hw => hts w (List.mem_cons_of_mem _ hw), B.notSynchronized, B.returns, rfl⟩ (vx_table (x := y) B (hts _ List.mem_cons_self)) s.heap [] _ (lc_BG hB) hl
def lc_kW (own : String) (ix : Nat) (y : MethodName) (b : ByteArray) (mL : Nat) (ret : Option FieldType) (hh : List (Nat × Nat × Nat × Nat)) (nA : Nat) : Prop :=
  (Cond.methodLink own ix y ∈ lc_T ∧ Cond.static y ∈ lc_T ∧ Cond.initialized y.cls ∈ lc_T ∧ Cond.codeWith y b mL ret hh ∈ lc_T) ∧ y.cls ≠ "java/lang/invoke/MethodHandle" ∧ y.cls ≠ "java/lang/invoke/VarHandle" ∧ (parseMethodDescriptor y.desc).map (fun d => d.parameters.length) = some nA
def lc_JX (S : lc_Se) (X : lc_X) (n k j : Nat) (Q : State → Prop) (pc : Nat) (lo : List (Nat × Value)) (st : List Value) (M : lc_MM) (E : String) (q : Nat) : Prop :=
  ∀ (H : Heap) (locs : List Loc) (ls : Array Slot) (ce : Cell), lc_G S M (lc_Xs X) H locs → lv_has ls n lo → H[q]? = some ce → ce.vm = .none → (lc_Xs X).vm.findClass E = some ce.cls → vx_W X.1 X.2.1 X.2.2.1 (lc_Xr X) (lc_Xs X) X.2.2.2.2.2.1 X.2.2.2.2.2.2.1 X.2.2.2.2.2.2.2.1 X.2.2.2.2.2.2.2.2.1 X.2.2.2.2.2.2.2.2.2 H locs k j Q (F0 X.2.2.2.2.2.1 pc ls st) q
section LCW
variable {S : lc_Se} {X : lc_X} {cc : ByteArray} {own : String} {rt : Option FieldType} {rm : Room} {n k j : Nat} {Q : State → Prop} {pc pc' : Nat} {lo lo' : List (Nat × Value)} {st : List Value} {M M' : lc_MM}
theorem lc_cvx (C : lc_C X cc own n rt rm) {ix mL nA a q0 ci : Nat} {y : MethodName} {b : ByteArray} {ret : Option FieldType} {R' : Room} {As rest : List Value} {fs : List Value} {cq : vw_C} {e : Nat} {r : Int32} (hM : lc_MX S X.2.1 y b mL ret R' (.ref a :: As) M e r M') (hf : lc_kV own ix y b mL ret nA) (he : (lc_w S M)[q0]? = some (a, .inr (ci, fs))) (hc : vwCl[ci]? = some cq) (hq1 : cq.1 = y.cls) (hn : As.length = nA) (hst : st = As.reverse ++ .ref a :: rest) (hcat : (rest.map fun v => v.category).sum ≤ 8) (hR : R'.frames + 1 ≤ rm.frames ∧ 8 + (mL + 11) + R'.locals ≤ rm.locals) (hcs : k + R'.cells ≤ rm.cells ∧ j + R'.slots ≤ rm.slots) (d : decode cc pc = .ok (.invokevirtual ix, 3)) (hq : pc + 3 = pc') (kk : e = 0 → lc_J S X n (k + R'.cells) (j + R'.slots) Q pc' lo (.int r :: rest) M') (kx : ∀ (E : String) (q9 : Nat), lc_ex e E → lc_JX S X n (k + R'.cells) (j + R'.slots) Q pc lo rest M' E q9) : lc_J S X n k j Q pc lo st M := by
  subst hq; subst hst
  have hr := C.2.2.2.2.2.2.2
  intro H locs ls hG h
  have hA1 : ∀ q : Nat, lc_A S q → lc_A S q := fun _ z => z
  refine vx_calli (vx_runV (C := y.cls) (lc_fix C) hM ⟨lc_cB C hf.1.1 hf.1.2.2.2.1 hf.1.2.2.2.2 hf.2 hR, C.2.2.2.2.1 _ hf.1.2.1, C.2.2.2.2.1 _ hf.1.2.2.1⟩ ⟨lc_blind S M _, hq1 ▸ va_recv hG.1 hG.2.1 hc he, fun U hU hW => ⟨rfl, lc_GB hG hU hW⟩⟩ rfl hn h.1 rfl (lv_room hcat) d (by rw [hr]; exact hcs)) hG.2.2.2.1 (fun q _ z => z) hA1 (fun q _ z => z)
    (fun E ce q9 u t H1 l1 ht hal hp hB hz hk hS hce hcv hcl => ?_) (fun x u t H1 l1 ht hvm hp hB hz hk hS => ?_)
  · exact kx E q9 hB.1 H1 l1 ls ce ⟨va_K.moved hal.symm hB.2.2.2.1, ht ▸ hB.2.2.1, hB.2.2.2.2, hS, hG.2.2.2.2⟩ h hce hcv hcl
  · obtain ⟨h0, rfl⟩ := hp
    exact kk h0 H1 l1 ls (lc_back (base := 0) hG.2.2.2.2 ht hvm hB hS) h
theorem lc_catch (C : lc_C X cc own n rt rm) {hh pre suf : List (Nat × Nat × Nat × Nat)} {z : Nat × Nat × Nat × Nat} {E : String} {q : Nat} (ht : X.2.2.2.2.2.2.2.2.2.exceptionTable.toList = tableOf hh) (hsp : hh = pre ++ z :: suf) (hpass : ∀ w ∈ pre, w.2.2.2 ≠ 0 ∧ ∃ nm : String, Cond.classLink own w.2.2.2 nm ∈ lc_T ∧ ∀ U, lc_N2 U → va_Nc E nm U) (hx1 : z.1 ≤ pc) (hx2 : pc < z.2.1) (h0 : z.2.2.2 ≠ 0) (hlink : Cond.classLink own z.2.2.2 E ∈ lc_T) (hcast : ∀ U, lc_N2 U → va_Nw (.castable E E) U) (hh2 : z.2.2.1 = pc') (kk : lc_J S X n k j Q pc' lo [.ref q] M) : lc_JX S X n k j Q pc lo st M E q := by
  subst hh2
  intro H locs ls ce hG h hce hcv hcl
  refine vx_catch (own := own) (name := E) C.2.2.2.1 (tableOf pre) ⟨z.1, z.2.1, z.2.2.1, z.2.2.2⟩ (tableOf suf) (by rw [ht, hsp]; simp [tableOf]) (fun v hv => ?_) (by simp [covers, hx1, hx2]) h0 (C.2.2.2.2.1 _ hlink) (va_Nw.use rfl (hcast _ hG.2.2.2.2.2.2.1)) hce hcv hcl (kk H locs ls hG h)
  obtain ⟨w, hw, rfl⟩ := List.mem_map.mp hv
  obtain ⟨g0, nm, g1, g2⟩ := hpass w hw
  exact Or.inr ⟨g0, nm, C.2.2.2.2.1 _ g1, g2 _ hG.2.2.2.2.2.2.1⟩
theorem lc_csW (C : lc_C X cc own n rt rm) {ix mL nA : Nat} {y : MethodName} {b : ByteArray} {ret : Option FieldType} {hh : List (Nat × Nat × Nat × Nat)} {R' : Room} {As rest : List Value} {r : Int32} (hM : lc_MIW S X.2.1 y b mL ret hh R' As M r M') (hf : lc_kW own ix y b mL ret hh nA) (hn : As.length = nA) (hst : st = As.reverse ++ rest) (hcat : (rest.map fun v => v.category).sum ≤ 8) (hR : R'.frames + 1 ≤ rm.frames ∧ 8 + (mL + 11) + R'.locals ≤ rm.locals) (hcs : k + R'.cells ≤ rm.cells ∧ j + R'.slots ≤ rm.slots) (d : decode cc pc = .ok (.invokestatic ix, 3)) (hq : pc + 3 = pc') (kk : lc_J S X n (k + R'.cells) (j + R'.slots) Q pc' lo (.int r :: rest) M') : lc_J S X n k j Q pc lo st M := by
  subst hq; subst hst
  have hr := C.2.2.2.2.2.2.2
  intro H locs ls hG h
  have hA1 : ∀ q : Nat, lc_A S q → lc_A S q := fun _ z => z
  have hin : ∀ w ∈ lc_wsW y b mL ret hh, w ∈ lc_T := fun w hw => by
    rcases List.mem_cons.mp hw with rfl | hw
    · exact hf.1.2.2.2
    · exact hw
  exact va_calli (vx_runSW (hh := hh) (lc_fix C) hM ⟨⟨rfl, rfl, by rw [hr]; exact hR.1, by rw [hr]; exact hR.2, pay_in C.2.2.2.2.1 (lc_good hin), List.mem_cons_self⟩, C.2.2.2.2.1 _ hf.1.2.2.2, C.2.2.2.2.1 _ hf.1.2.2.1, ⟨hf.2.1, hf.2.2.1⟩, fun sig hs => by have h2 := hf.2.2.2; rw [hs] at h2; exact (Option.some.inj h2).symm, C.2.2.2.2.1 _ hf.1.1, C.2.2.2.2.1 _ hf.1.2.1⟩ ⟨lc_blind S M _, fun U hU hW => ⟨rfl, lc_GB hG hU hW⟩⟩ rfl hn h.1 rfl (lv_room hcat) d (by rw [hr]; exact hcs)) hG.2.2.2.1 (fun q _ z => z) hA1 (fun x u t H1 l1 ht hvm hp hB hz hk hS => by subst hp; exact kk H1 l1 ls (lc_back (base := 0) hG.2.2.2.2 ht hvm hB hS) h)
end LCW
theorem pn_RL : plainName RL = true := by decide +kernel
theorem lc_cl15 : Cond.classLink RL 15 lc_E3 ∈ lc_T := lc_in (List.mem_of_getElem? (i := 168) (by decide +kernel)) rfl
theorem lc_cl17 : Cond.classLink RL 17 lc_E1 ∈ lc_T := lc_in (List.mem_of_getElem? (i := 169) (by decide +kernel)) rfl
theorem lc_cl19 : Cond.classLink RL 19 lc_E2 ∈ lc_T := lc_in (List.mem_of_getElem? (i := 170) (by decide +kernel)) rfl
abbrev rm_L_lend : Room := { frames := 7, cells := 1, slots := 6, locals := 119 }
def P_L_lend (x1 : Int32) (x2 : Int32) (x3 : Int32) (x4 : Int32) (M : lc_MM) : Option (Int32 × lc_MM) :=
  lc_bd3 (P_X3_lend x1 x2 x3 x4 M) (fun e r M1 => if e = 0 then lc_let (va_up M1 24 (lc_ss (M1 24) 0 0 r)) (fun M2 => some (0, M2)) else if e = 3 then some (1, M1) else if e = 1 then some (2, M1) else if e = 2 then some (3, M1) else none)
theorem kw_L_lend : lc_kW RL 86 yL_lend cL_lend 7 (some .int) [(0, 13, 16, 15), (0, 13, 20, 17), (0, 13, 24, 19)] 6 := ⟨⟨lc_in (List.mem_of_getElem? (i := 165) (by decide +kernel)) rfl, lc_in (List.mem_of_getElem? (i := 166) (by decide +kernel)) rfl, lc_in (List.mem_of_getElem? (i := 1) (by decide +kernel)) rfl, lc_in (List.mem_of_getElem? (i := 167) (by decide +kernel)) rfl⟩, by decide +kernel, by decide +kernel, by decide +kernel⟩
set_option maxRecDepth 100000 in
set_option maxHeartbeats 4000000 in
theorem c_L_lend (S : lc_Se) (l : Launch) (hl : l.stackTraces = false) (x1 : Int32) (x2 : Int32) (x3 : Int32) (x4 : Int32) (M : lc_MM) (out : Int32 × lc_MM) (h : P_L_lend x1 x2 x3 x4 M = some out) : lc_MIW S l yL_lend cL_lend 7 (some .int) [(0, 13, 16, 15), (0, 13, 20, 17), (0, 13, 24, 19)] rm_L_lend [.ref (lc_ad S 194), .int x1, .int x2, .int x3, .int x4, .ref (lc_ad S 203)] M out.1 out.2 := by
  refine lc_mkW (own := RL) pn_RL rfl (Nat.le_of_ble_eq_true rfl) (lo := [(0, .ref (lc_ad S 194)), (1, .int x1), (2, .int x2), (3, .int x3), (4, .int x4), (5, .ref (lc_ad S 203))]) rfl (fun X hX C ht => ?_)
  rw [P_L_lend] at h
  subst hX
  refine lc_aload C (pc' := 2) 5 dL_lend_0 rfl rfl ?_
  refine lc_iconst C (pc' := 3) (v := (0 : Int32)) dL_lend_2 (by decide) rfl ?_
  refine lc_aload_n C (pc' := 4) 0 dL_lend_3 rfl rfl ?_
  refine lc_iload_n C (pc' := 5) 1 dL_lend_4 rfl rfl ?_
  refine lc_iload_n C (pc' := 6) 2 dL_lend_5 rfl rfl ?_
  refine lc_iload_n C (pc' := 7) 3 dL_lend_6 rfl rfl ?_
  refine lc_iload C (pc' := 9) 4 dL_lend_7 rfl rfl ?_
  obtain ⟨e, r, M1, h0, h⟩ := lc_bd3e h
  refine lc_cvx C (pc' := 12) (e := e) (r := r) (M' := M1) (As := [.int x1, .int x2, .int x3, .int x4]) (rest := [.int (0 : Int32), .ref (lc_ad S 203)]) (c_X3_lend S X.2.1 hl x1 x2 x3 x4 M (e, r, M1) h0) kl_RL_9 (lc_at194 S _) rfl rfl rfl rfl (Nat.le_of_ble_eq_true rfl) ⟨Nat.le_of_ble_eq_true rfl, Nat.le_of_ble_eq_true rfl⟩ ⟨Nat.le_refl _, Nat.le_refl _⟩ dL_lend_9 rfl (fun he => ?_) (fun E q9 hex => ?_)
  · subst he
    have h := (lc_if2 h).1 rfl
    obtain ⟨M2, e2, h⟩ := lc_let2 h
    obtain rfl := Option.some.inj h
    refine lc_sd203 C (pc' := 13) (jj := 0) (M' := M2) rfl (by decide) (by decide) rfl e2 dL_lend_12 rfl ?_
    refine lc_goto C (tgt := 28) dL_lend_13 (by decide) ?_
    refine lc_iconst C (pc' := 29) (v := (0 : Int32)) dL_lend_28 (by decide) rfl ?_
    exact lc_iret C rfl dL_lend_29
  · rcases hex with ⟨rfl, rfl⟩ | ⟨rfl, rfl⟩ | ⟨rfl, rfl⟩
    · have h := (lc_if2 h).2 (by decide)
      have h := (lc_if2 h).2 (by decide)
      have h := (lc_if2 h).1 rfl
      obtain rfl := Option.some.inj h
      refine lc_catch C (pc' := 20) (hh := [(0, 13, 16, 15), (0, 13, 20, 17), (0, 13, 24, 19)]) (pre := [(0, 13, 16, 15)]) (z := (0, 13, 20, 17)) (suf := [(0, 13, 24, 19)]) ht rfl (fun w hw => by rcases List.mem_singleton.mp hw with rfl; exact ⟨by decide, _, lc_cl15, fun U hU => hU.2.2.2.1⟩) (by decide) (by decide) (by decide) lc_cl17 (fun U hU => hU.2.1.1) rfl ?_
      refine lc_astore C (pc' := 22) (lo' := [(6, .ref q9), (0, .ref (lc_ad S 194)), (1, .int x1), (2, .int x2), (3, .int x3), (4, .int x4), (5, .ref (lc_ad S 203))]) dL_lend_20 (Nat.le_of_ble_eq_true rfl) rfl rfl ?_
      refine lc_iconst C (pc' := 23) (v := (2 : Int32)) dL_lend_22 (by decide) rfl ?_
      exact lc_iret C rfl dL_lend_23
    · have h := (lc_if2 h).2 (by decide)
      have h := (lc_if2 h).2 (by decide)
      have h := (lc_if2 h).2 (by decide)
      have h := (lc_if2 h).1 rfl
      obtain rfl := Option.some.inj h
      refine lc_catch C (pc' := 24) (hh := [(0, 13, 16, 15), (0, 13, 20, 17), (0, 13, 24, 19)]) (pre := [(0, 13, 16, 15), (0, 13, 20, 17)]) (z := (0, 13, 24, 19)) (suf := []) ht rfl (fun w hw => by rcases List.mem_cons.mp hw with rfl | hw; (· exact ⟨by decide, _, lc_cl15, fun U hU => hU.2.2.2.2.2.1⟩); rcases List.mem_singleton.mp hw with rfl; exact ⟨by decide, _, lc_cl17, fun U hU => hU.2.2.2.2.1⟩) (by decide) (by decide) (by decide) lc_cl19 (fun U hU => hU.2.1.2.1) rfl ?_
      refine lc_astore C (pc' := 26) (lo' := [(6, .ref q9), (0, .ref (lc_ad S 194)), (1, .int x1), (2, .int x2), (3, .int x3), (4, .int x4), (5, .ref (lc_ad S 203))]) dL_lend_24 (Nat.le_of_ble_eq_true rfl) rfl rfl ?_
      refine lc_iconst C (pc' := 27) (v := (3 : Int32)) dL_lend_26 (by decide) rfl ?_
      exact lc_iret C rfl dL_lend_27
    · have h := (lc_if2 h).2 (by decide)
      have h := (lc_if2 h).1 rfl
      obtain rfl := Option.some.inj h
      refine lc_catch C (pc' := 16) (hh := [(0, 13, 16, 15), (0, 13, 20, 17), (0, 13, 24, 19)]) (pre := []) (z := (0, 13, 16, 15)) (suf := [(0, 13, 20, 17), (0, 13, 24, 19)]) ht rfl (fun w hw => by cases hw) (by decide) (by decide) (by decide) lc_cl15 (fun U hU => hU.2.1.2.2) rfl ?_
      refine lc_astore C (pc' := 18) (lo' := [(6, .ref q9), (0, .ref (lc_ad S 194)), (1, .int x1), (2, .int x2), (3, .int x3), (4, .int x4), (5, .ref (lc_ad S 203))]) dL_lend_16 (Nat.le_of_ble_eq_true rfl) rfl rfl ?_
      refine lc_iconst C (pc' := 19) (v := (1 : Int32)) dL_lend_18 (by decide) rfl ?_
      exact lc_iret C rfl dL_lend_19
abbrev rm_L_setLeak : Room := { frames := 7, cells := 1, slots := 6, locals := 118 }
def P_L_setLeak (x1 : Int32) (x2 : Int32) (M : lc_MM) : Option (Int32 × lc_MM) :=
  lc_bd3 (P_X3_setLeak x1 x2 M) (fun e r M1 => if e = 0 then lc_let (va_up M1 24 (lc_ss (M1 24) 0 0 r)) (fun M2 => some (0, M2)) else if e = 3 then some (1, M1) else if e = 1 then some (2, M1) else none)
theorem kw_L_setLeak : lc_kW RL 128 yL_setLeak cL_setLeak 5 (some .int) [(0, 9, 12, 15), (0, 9, 16, 17)] 4 := ⟨⟨lc_in (List.mem_of_getElem? (i := 326) (by decide +kernel)) rfl, lc_in (List.mem_of_getElem? (i := 327) (by decide +kernel)) rfl, lc_in (List.mem_of_getElem? (i := 1) (by decide +kernel)) rfl, lc_in (List.mem_of_getElem? (i := 328) (by decide +kernel)) rfl⟩, by decide +kernel, by decide +kernel, by decide +kernel⟩
set_option maxRecDepth 100000 in
set_option maxHeartbeats 4000000 in
theorem c_L_setLeak (S : lc_Se) (l : Launch) (hl : l.stackTraces = false) (x1 : Int32) (x2 : Int32) (M : lc_MM) (out : Int32 × lc_MM) (h : P_L_setLeak x1 x2 M = some out) : lc_MIW S l yL_setLeak cL_setLeak 5 (some .int) [(0, 9, 12, 15), (0, 9, 16, 17)] rm_L_setLeak [.ref (lc_ad S 194), .int x1, .int x2, .ref (lc_ad S 203)] M out.1 out.2 := by
  refine lc_mkW (own := RL) pn_RL rfl (Nat.le_of_ble_eq_true rfl) (lo := [(0, .ref (lc_ad S 194)), (1, .int x1), (2, .int x2), (3, .ref (lc_ad S 203))]) rfl (fun X hX C ht => ?_)
  rw [P_L_setLeak] at h
  subst hX
  refine lc_aload_n C (pc' := 1) 3 dL_setLeak_0 rfl rfl ?_
  refine lc_iconst C (pc' := 2) (v := (0 : Int32)) dL_setLeak_1 (by decide) rfl ?_
  refine lc_aload_n C (pc' := 3) 0 dL_setLeak_2 rfl rfl ?_
  refine lc_iload_n C (pc' := 4) 1 dL_setLeak_3 rfl rfl ?_
  refine lc_iload_n C (pc' := 5) 2 dL_setLeak_4 rfl rfl ?_
  obtain ⟨e, r, M1, h0, h⟩ := lc_bd3e h
  refine lc_cvx C (pc' := 8) (e := e) (r := r) (M' := M1) (As := [.int x1, .int x2]) (rest := [.int (0 : Int32), .ref (lc_ad S 203)]) (c_X3_setLeak S X.2.1 hl x1 x2 M (e, r, M1) h0) kl_RL_25 (lc_at194 S _) rfl rfl rfl rfl (Nat.le_of_ble_eq_true rfl) ⟨Nat.le_of_ble_eq_true rfl, Nat.le_of_ble_eq_true rfl⟩ ⟨Nat.le_refl _, Nat.le_refl _⟩ dL_setLeak_5 rfl (fun he => ?_) (fun E q9 hex => ?_)
  · subst he
    have h := (lc_if2 h).1 rfl
    obtain ⟨M2, e2, h⟩ := lc_let2 h
    obtain rfl := Option.some.inj h
    refine lc_sd203 C (pc' := 9) (jj := 0) (M' := M2) rfl (by decide) (by decide) rfl e2 dL_setLeak_8 rfl ?_
    refine lc_goto C (tgt := 20) dL_setLeak_9 (by decide) ?_
    refine lc_iconst C (pc' := 21) (v := (0 : Int32)) dL_setLeak_20 (by decide) rfl ?_
    exact lc_iret C rfl dL_setLeak_21
  · rcases hex with ⟨rfl, rfl⟩ | ⟨rfl, rfl⟩ | ⟨rfl, rfl⟩
    · have h := (lc_if2 h).2 (by decide)
      have h := (lc_if2 h).2 (by decide)
      have h := (lc_if2 h).1 rfl
      obtain rfl := Option.some.inj h
      refine lc_catch C (pc' := 16) (hh := [(0, 9, 12, 15), (0, 9, 16, 17)]) (pre := [(0, 9, 12, 15)]) (z := (0, 9, 16, 17)) (suf := []) ht rfl (fun w hw => by rcases List.mem_singleton.mp hw with rfl; exact ⟨by decide, _, lc_cl15, fun U hU => hU.2.2.2.1⟩) (by decide) (by decide) (by decide) lc_cl17 (fun U hU => hU.2.1.1) rfl ?_
      refine lc_astore C (pc' := 18) (lo' := [(4, .ref q9), (0, .ref (lc_ad S 194)), (1, .int x1), (2, .int x2), (3, .ref (lc_ad S 203))]) dL_setLeak_16 (Nat.le_of_ble_eq_true rfl) rfl rfl ?_
      refine lc_iconst C (pc' := 19) (v := (2 : Int32)) dL_setLeak_18 (by decide) rfl ?_
      exact lc_iret C rfl dL_setLeak_19
    · have h := (lc_if2 h).2 (by decide)
      have h := (lc_if2 h).2 (by decide)
      have h := (lc_if2 h).2 (by decide)
      cases h
    · have h := (lc_if2 h).2 (by decide)
      have h := (lc_if2 h).1 rfl
      obtain rfl := Option.some.inj h
      refine lc_catch C (pc' := 12) (hh := [(0, 9, 12, 15), (0, 9, 16, 17)]) (pre := []) (z := (0, 9, 12, 15)) (suf := [(0, 9, 16, 17)]) ht rfl (fun w hw => by cases hw) (by decide) (by decide) (by decide) lc_cl15 (fun U hU => hU.2.1.2.2) rfl ?_
      refine lc_astore C (pc' := 14) (lo' := [(4, .ref q9), (0, .ref (lc_ad S 194)), (1, .int x1), (2, .int x2), (3, .ref (lc_ad S 203))]) dL_setLeak_12 (Nat.le_of_ble_eq_true rfl) rfl rfl ?_
      refine lc_iconst C (pc' := 15) (v := (1 : Int32)) dL_setLeak_14 (by decide) rfl ?_
      exact lc_iret C rfl dL_setLeak_15
abbrev rm_L_draw : Room := { frames := 7, cells := 1, slots := 6, locals := 159 }
def P_L_draw (x1 : Int32) (M : lc_MM) : Option (Int32 × lc_MM) :=
  lc_bd3 (P_X3_draw x1 M) (fun e r M1 => if e = 0 then lc_let (va_up M1 24 (lc_ss (M1 24) 0 0 r)) (fun M2 => some (0, M2)) else if e = 1 then some (1, M1) else if e = 2 then some (2, M1) else none)
theorem kw_L_draw : lc_kW RL 99 yL_draw cL_draw 4 (some .int) [(0, 8, 11, 17), (0, 8, 14, 19)] 3 := ⟨⟨lc_in (List.mem_of_getElem? (i := 334) (by decide +kernel)) rfl, lc_in (List.mem_of_getElem? (i := 335) (by decide +kernel)) rfl, lc_in (List.mem_of_getElem? (i := 1) (by decide +kernel)) rfl, lc_in (List.mem_of_getElem? (i := 336) (by decide +kernel)) rfl⟩, by decide +kernel, by decide +kernel, by decide +kernel⟩
set_option maxRecDepth 100000 in
set_option maxHeartbeats 4000000 in
theorem c_L_draw (S : lc_Se) (l : Launch) (hl : l.stackTraces = false) (x1 : Int32) (M : lc_MM) (out : Int32 × lc_MM) (h : P_L_draw x1 M = some out) : lc_MIW S l yL_draw cL_draw 4 (some .int) [(0, 8, 11, 17), (0, 8, 14, 19)] rm_L_draw [.ref (lc_ad S 194), .int x1, .ref (lc_ad S 203)] M out.1 out.2 := by
  refine lc_mkW (own := RL) pn_RL rfl (Nat.le_of_ble_eq_true rfl) (lo := [(0, .ref (lc_ad S 194)), (1, .int x1), (2, .ref (lc_ad S 203))]) rfl (fun X hX C ht => ?_)
  rw [P_L_draw] at h
  subst hX
  refine lc_aload_n C (pc' := 1) 2 dL_draw_0 rfl rfl ?_
  refine lc_iconst C (pc' := 2) (v := (0 : Int32)) dL_draw_1 (by decide) rfl ?_
  refine lc_aload_n C (pc' := 3) 0 dL_draw_2 rfl rfl ?_
  refine lc_iload_n C (pc' := 4) 1 dL_draw_3 rfl rfl ?_
  obtain ⟨e, r, M1, h0, h⟩ := lc_bd3e h
  refine lc_cvx C (pc' := 7) (e := e) (r := r) (M' := M1) (As := [.int x1]) (rest := [.int (0 : Int32), .ref (lc_ad S 203)]) (c_X3_draw S X.2.1 hl x1 M (e, r, M1) h0) kl_RL_32 (lc_at194 S _) rfl rfl rfl rfl (Nat.le_of_ble_eq_true rfl) ⟨Nat.le_of_ble_eq_true rfl, Nat.le_of_ble_eq_true rfl⟩ ⟨Nat.le_refl _, Nat.le_refl _⟩ dL_draw_4 rfl (fun he => ?_) (fun E q9 hex => ?_)
  · subst he
    have h := (lc_if2 h).1 rfl
    obtain ⟨M2, e2, h⟩ := lc_let2 h
    obtain rfl := Option.some.inj h
    refine lc_sd203 C (pc' := 8) (jj := 0) (M' := M2) rfl (by decide) (by decide) rfl e2 dL_draw_7 rfl ?_
    refine lc_goto C (tgt := 17) dL_draw_8 (by decide) ?_
    refine lc_iconst C (pc' := 18) (v := (0 : Int32)) dL_draw_17 (by decide) rfl ?_
    exact lc_iret C rfl dL_draw_18
  · rcases hex with ⟨rfl, rfl⟩ | ⟨rfl, rfl⟩ | ⟨rfl, rfl⟩
    · have h := (lc_if2 h).2 (by decide)
      have h := (lc_if2 h).1 rfl
      obtain rfl := Option.some.inj h
      refine lc_catch C (pc' := 11) (hh := [(0, 8, 11, 17), (0, 8, 14, 19)]) (pre := []) (z := (0, 8, 11, 17)) (suf := [(0, 8, 14, 19)]) ht rfl (fun w hw => by cases hw) (by decide) (by decide) (by decide) lc_cl17 (fun U hU => hU.2.1.1) rfl ?_
      refine lc_astore_n C (pc' := 12) (lo' := [(3, .ref q9), (0, .ref (lc_ad S 194)), (1, .int x1), (2, .ref (lc_ad S 203))]) dL_draw_11 (Nat.le_of_ble_eq_true rfl) rfl rfl ?_
      refine lc_iconst C (pc' := 13) (v := (1 : Int32)) dL_draw_12 (by decide) rfl ?_
      exact lc_iret C rfl dL_draw_13
    · have h := (lc_if2 h).2 (by decide)
      have h := (lc_if2 h).2 (by decide)
      have h := (lc_if2 h).1 rfl
      obtain rfl := Option.some.inj h
      refine lc_catch C (pc' := 14) (hh := [(0, 8, 11, 17), (0, 8, 14, 19)]) (pre := [(0, 8, 11, 17)]) (z := (0, 8, 14, 19)) (suf := []) ht rfl (fun w hw => by rcases List.mem_singleton.mp hw with rfl; exact ⟨by decide, _, lc_cl17, fun U hU => hU.2.2.2.2.1⟩) (by decide) (by decide) (by decide) lc_cl19 (fun U hU => hU.2.1.2.1) rfl ?_
      refine lc_astore_n C (pc' := 15) (lo' := [(3, .ref q9), (0, .ref (lc_ad S 194)), (1, .int x1), (2, .ref (lc_ad S 203))]) dL_draw_14 (Nat.le_of_ble_eq_true rfl) rfl rfl ?_
      refine lc_iconst C (pc' := 16) (v := (2 : Int32)) dL_draw_15 (by decide) rfl ?_
      exact lc_iret C rfl dL_draw_16
    · have h := (lc_if2 h).2 (by decide)
      have h := (lc_if2 h).2 (by decide)
      have h := (lc_if2 h).2 (by decide)
      cases h
abbrev rm_L_pass : Room := { frames := 7, cells := 1, slots := 6, locals := 160 }
def P_L_pass (x1 : Int32) (M : lc_MM) : Option (Int32 × lc_MM) :=
  lc_bd3 (P_X3_pass x1 M) (fun e r M1 => if e = 0 then lc_let (va_up M1 24 (lc_ss (M1 24) 0 0 r)) (fun M2 => some (0, M2)) else if e = 1 then some (1, M1) else none)
theorem kw_L_pass : lc_kW RL 105 yL_pass cL_pass 4 (some .int) [(0, 8, 11, 17)] 3 := ⟨⟨lc_in (List.mem_of_getElem? (i := 361) (by decide +kernel)) rfl, lc_in (List.mem_of_getElem? (i := 362) (by decide +kernel)) rfl, lc_in (List.mem_of_getElem? (i := 1) (by decide +kernel)) rfl, lc_in (List.mem_of_getElem? (i := 363) (by decide +kernel)) rfl⟩, by decide +kernel, by decide +kernel, by decide +kernel⟩
set_option maxRecDepth 100000 in
set_option maxHeartbeats 4000000 in
theorem c_L_pass (S : lc_Se) (l : Launch) (hl : l.stackTraces = false) (x1 : Int32) (M : lc_MM) (out : Int32 × lc_MM) (h : P_L_pass x1 M = some out) : lc_MIW S l yL_pass cL_pass 4 (some .int) [(0, 8, 11, 17)] rm_L_pass [.ref (lc_ad S 194), .int x1, .ref (lc_ad S 203)] M out.1 out.2 := by
  refine lc_mkW (own := RL) pn_RL rfl (Nat.le_of_ble_eq_true rfl) (lo := [(0, .ref (lc_ad S 194)), (1, .int x1), (2, .ref (lc_ad S 203))]) rfl (fun X hX C ht => ?_)
  rw [P_L_pass] at h
  subst hX
  refine lc_aload_n C (pc' := 1) 2 dL_pass_0 rfl rfl ?_
  refine lc_iconst C (pc' := 2) (v := (0 : Int32)) dL_pass_1 (by decide) rfl ?_
  refine lc_aload_n C (pc' := 3) 0 dL_pass_2 rfl rfl ?_
  refine lc_iload_n C (pc' := 4) 1 dL_pass_3 rfl rfl ?_
  obtain ⟨e, r, M1, h0, h⟩ := lc_bd3e h
  refine lc_cvx C (pc' := 7) (e := e) (r := r) (M' := M1) (As := [.int x1]) (rest := [.int (0 : Int32), .ref (lc_ad S 203)]) (c_X3_pass S X.2.1 hl x1 M (e, r, M1) h0) kl_RL_35 (lc_at194 S _) rfl rfl rfl rfl (Nat.le_of_ble_eq_true rfl) ⟨Nat.le_of_ble_eq_true rfl, Nat.le_of_ble_eq_true rfl⟩ ⟨Nat.le_refl _, Nat.le_refl _⟩ dL_pass_4 rfl (fun he => ?_) (fun E q9 hex => ?_)
  · subst he
    have h := (lc_if2 h).1 rfl
    obtain ⟨M2, e2, h⟩ := lc_let2 h
    obtain rfl := Option.some.inj h
    refine lc_sd203 C (pc' := 8) (jj := 0) (M' := M2) rfl (by decide) (by decide) rfl e2 dL_pass_7 rfl ?_
    refine lc_goto C (tgt := 14) dL_pass_8 (by decide) ?_
    refine lc_iconst C (pc' := 15) (v := (0 : Int32)) dL_pass_14 (by decide) rfl ?_
    exact lc_iret C rfl dL_pass_15
  · rcases hex with ⟨rfl, rfl⟩ | ⟨rfl, rfl⟩ | ⟨rfl, rfl⟩
    · have h := (lc_if2 h).2 (by decide)
      have h := (lc_if2 h).1 rfl
      obtain rfl := Option.some.inj h
      refine lc_catch C (pc' := 11) (hh := [(0, 8, 11, 17)]) (pre := []) (z := (0, 8, 11, 17)) (suf := []) ht rfl (fun w hw => by cases hw) (by decide) (by decide) (by decide) lc_cl17 (fun U hU => hU.2.1.1) rfl ?_
      refine lc_astore_n C (pc' := 12) (lo' := [(3, .ref q9), (0, .ref (lc_ad S 194)), (1, .int x1), (2, .ref (lc_ad S 203))]) dL_pass_11 (Nat.le_of_ble_eq_true rfl) rfl rfl ?_
      refine lc_iconst C (pc' := 13) (v := (1 : Int32)) dL_pass_12 (by decide) rfl ?_
      exact lc_iret C rfl dL_pass_13
    · have h := (lc_if2 h).2 (by decide)
      have h := (lc_if2 h).2 (by decide)
      cases h
    · have h := (lc_if2 h).2 (by decide)
      have h := (lc_if2 h).2 (by decide)
      cases h
abbrev rm_L_addCell : Room := { frames := 7, cells := 1, slots := 6, locals := 118 }
def P_L_addCell (x1 : Int32) (x2 : Int32) (x3 : Int32) (M : lc_MM) : Option (Int32 × lc_MM) :=
  lc_bd3 (P_X3_addCell x1 x2 x3 M) (fun e r M1 => if e = 0 then lc_let (va_up M1 24 (lc_ss (M1 24) 0 0 r)) (fun M2 => some (0, M2)) else if e = 1 then some (1, M1) else if e = 2 then some (2, M1) else none)
theorem kw_L_addCell : lc_kW RL 80 yL_addCell cL_addCell 6 (some .int) [(0, 11, 14, 17), (0, 11, 18, 19)] 5 := ⟨⟨lc_in (List.mem_of_getElem? (i := 475) (by decide +kernel)) rfl, lc_in (List.mem_of_getElem? (i := 476) (by decide +kernel)) rfl, lc_in (List.mem_of_getElem? (i := 1) (by decide +kernel)) rfl, lc_in (List.mem_of_getElem? (i := 477) (by decide +kernel)) rfl⟩, by decide +kernel, by decide +kernel, by decide +kernel⟩
set_option maxRecDepth 100000 in
set_option maxHeartbeats 4000000 in
theorem c_L_addCell (S : lc_Se) (l : Launch) (hl : l.stackTraces = false) (x1 : Int32) (x2 : Int32) (x3 : Int32) (M : lc_MM) (out : Int32 × lc_MM) (h : P_L_addCell x1 x2 x3 M = some out) : lc_MIW S l yL_addCell cL_addCell 6 (some .int) [(0, 11, 14, 17), (0, 11, 18, 19)] rm_L_addCell [.ref (lc_ad S 194), .int x1, .int x2, .int x3, .ref (lc_ad S 203)] M out.1 out.2 := by
  refine lc_mkW (own := RL) pn_RL rfl (Nat.le_of_ble_eq_true rfl) (lo := [(0, .ref (lc_ad S 194)), (1, .int x1), (2, .int x2), (3, .int x3), (4, .ref (lc_ad S 203))]) rfl (fun X hX C ht => ?_)
  rw [P_L_addCell] at h
  subst hX
  refine lc_aload C (pc' := 2) 4 dL_addCell_0 rfl rfl ?_
  refine lc_iconst C (pc' := 3) (v := (0 : Int32)) dL_addCell_2 (by decide) rfl ?_
  refine lc_aload_n C (pc' := 4) 0 dL_addCell_3 rfl rfl ?_
  refine lc_iload_n C (pc' := 5) 1 dL_addCell_4 rfl rfl ?_
  refine lc_iload_n C (pc' := 6) 2 dL_addCell_5 rfl rfl ?_
  refine lc_iload_n C (pc' := 7) 3 dL_addCell_6 rfl rfl ?_
  obtain ⟨e, r, M1, h0, h⟩ := lc_bd3e h
  refine lc_cvx C (pc' := 10) (e := e) (r := r) (M' := M1) (As := [.int x1, .int x2, .int x3]) (rest := [.int (0 : Int32), .ref (lc_ad S 203)]) (c_X3_addCell S X.2.1 hl x1 x2 x3 M (e, r, M1) h0) kl_RL_38 (lc_at194 S _) rfl rfl rfl rfl (Nat.le_of_ble_eq_true rfl) ⟨Nat.le_of_ble_eq_true rfl, Nat.le_of_ble_eq_true rfl⟩ ⟨Nat.le_refl _, Nat.le_refl _⟩ dL_addCell_7 rfl (fun he => ?_) (fun E q9 hex => ?_)
  · subst he
    have h := (lc_if2 h).1 rfl
    obtain ⟨M2, e2, h⟩ := lc_let2 h
    obtain rfl := Option.some.inj h
    refine lc_sd203 C (pc' := 11) (jj := 0) (M' := M2) rfl (by decide) (by decide) rfl e2 dL_addCell_10 rfl ?_
    refine lc_goto C (tgt := 22) dL_addCell_11 (by decide) ?_
    refine lc_iconst C (pc' := 23) (v := (0 : Int32)) dL_addCell_22 (by decide) rfl ?_
    exact lc_iret C rfl dL_addCell_23
  · rcases hex with ⟨rfl, rfl⟩ | ⟨rfl, rfl⟩ | ⟨rfl, rfl⟩
    · have h := (lc_if2 h).2 (by decide)
      have h := (lc_if2 h).1 rfl
      obtain rfl := Option.some.inj h
      refine lc_catch C (pc' := 14) (hh := [(0, 11, 14, 17), (0, 11, 18, 19)]) (pre := []) (z := (0, 11, 14, 17)) (suf := [(0, 11, 18, 19)]) ht rfl (fun w hw => by cases hw) (by decide) (by decide) (by decide) lc_cl17 (fun U hU => hU.2.1.1) rfl ?_
      refine lc_astore C (pc' := 16) (lo' := [(5, .ref q9), (0, .ref (lc_ad S 194)), (1, .int x1), (2, .int x2), (3, .int x3), (4, .ref (lc_ad S 203))]) dL_addCell_14 (Nat.le_of_ble_eq_true rfl) rfl rfl ?_
      refine lc_iconst C (pc' := 17) (v := (1 : Int32)) dL_addCell_16 (by decide) rfl ?_
      exact lc_iret C rfl dL_addCell_17
    · have h := (lc_if2 h).2 (by decide)
      have h := (lc_if2 h).2 (by decide)
      have h := (lc_if2 h).1 rfl
      obtain rfl := Option.some.inj h
      refine lc_catch C (pc' := 18) (hh := [(0, 11, 14, 17), (0, 11, 18, 19)]) (pre := [(0, 11, 14, 17)]) (z := (0, 11, 18, 19)) (suf := []) ht rfl (fun w hw => by rcases List.mem_singleton.mp hw with rfl; exact ⟨by decide, _, lc_cl17, fun U hU => hU.2.2.2.2.1⟩) (by decide) (by decide) (by decide) lc_cl19 (fun U hU => hU.2.1.2.1) rfl ?_
      refine lc_astore C (pc' := 20) (lo' := [(5, .ref q9), (0, .ref (lc_ad S 194)), (1, .int x1), (2, .int x2), (3, .int x3), (4, .ref (lc_ad S 203))]) dL_addCell_18 (Nat.le_of_ble_eq_true rfl) rfl rfl ?_
      refine lc_iconst C (pc' := 21) (v := (2 : Int32)) dL_addCell_20 (by decide) rfl ?_
      exact lc_iret C rfl dL_addCell_21
    · have h := (lc_if2 h).2 (by decide)
      have h := (lc_if2 h).2 (by decide)
      have h := (lc_if2 h).2 (by decide)
      cases h
abbrev rm_L_repay : Room := { frames := 7, cells := 1, slots := 6, locals := 117 }
def P_L_repay (x1 : Int32) (x2 : Int32) (M : lc_MM) : Option (Int32 × lc_MM) :=
  lc_bd3 (P_X3_repay x1 x2 M) (fun e r M1 => if e = 0 then lc_let (va_up M1 24 (lc_ss (M1 24) 0 0 r)) (fun M2 => some (0, M2)) else if e = 3 then some (1, M1) else if e = 1 then some (2, M1) else if e = 2 then some (3, M1) else none)
theorem kw_L_repay : lc_kW RL 89 yL_repay cL_repay 5 (some .int) [(0, 9, 12, 15), (0, 9, 16, 17), (0, 9, 20, 19)] 4 := ⟨⟨lc_in (List.mem_of_getElem? (i := 503) (by decide +kernel)) rfl, lc_in (List.mem_of_getElem? (i := 504) (by decide +kernel)) rfl, lc_in (List.mem_of_getElem? (i := 1) (by decide +kernel)) rfl, lc_in (List.mem_of_getElem? (i := 505) (by decide +kernel)) rfl⟩, by decide +kernel, by decide +kernel, by decide +kernel⟩
set_option maxRecDepth 100000 in
set_option maxHeartbeats 4000000 in
theorem c_L_repay (S : lc_Se) (l : Launch) (hl : l.stackTraces = false) (x1 : Int32) (x2 : Int32) (M : lc_MM) (out : Int32 × lc_MM) (h : P_L_repay x1 x2 M = some out) : lc_MIW S l yL_repay cL_repay 5 (some .int) [(0, 9, 12, 15), (0, 9, 16, 17), (0, 9, 20, 19)] rm_L_repay [.ref (lc_ad S 194), .int x1, .int x2, .ref (lc_ad S 203)] M out.1 out.2 := by
  refine lc_mkW (own := RL) pn_RL rfl (Nat.le_of_ble_eq_true rfl) (lo := [(0, .ref (lc_ad S 194)), (1, .int x1), (2, .int x2), (3, .ref (lc_ad S 203))]) rfl (fun X hX C ht => ?_)
  rw [P_L_repay] at h
  subst hX
  refine lc_aload_n C (pc' := 1) 3 dL_repay_0 rfl rfl ?_
  refine lc_iconst C (pc' := 2) (v := (0 : Int32)) dL_repay_1 (by decide) rfl ?_
  refine lc_aload_n C (pc' := 3) 0 dL_repay_2 rfl rfl ?_
  refine lc_iload_n C (pc' := 4) 1 dL_repay_3 rfl rfl ?_
  refine lc_iload_n C (pc' := 5) 2 dL_repay_4 rfl rfl ?_
  obtain ⟨e, r, M1, h0, h⟩ := lc_bd3e h
  refine lc_cvx C (pc' := 8) (e := e) (r := r) (M' := M1) (As := [.int x1, .int x2]) (rest := [.int (0 : Int32), .ref (lc_ad S 203)]) (c_X3_repay S X.2.1 hl x1 x2 M (e, r, M1) h0) kl_RL_21 (lc_at194 S _) rfl rfl rfl rfl (Nat.le_of_ble_eq_true rfl) ⟨Nat.le_of_ble_eq_true rfl, Nat.le_of_ble_eq_true rfl⟩ ⟨Nat.le_refl _, Nat.le_refl _⟩ dL_repay_5 rfl (fun he => ?_) (fun E q9 hex => ?_)
  · subst he
    have h := (lc_if2 h).1 rfl
    obtain ⟨M2, e2, h⟩ := lc_let2 h
    obtain rfl := Option.some.inj h
    refine lc_sd203 C (pc' := 9) (jj := 0) (M' := M2) rfl (by decide) (by decide) rfl e2 dL_repay_8 rfl ?_
    refine lc_goto C (tgt := 24) dL_repay_9 (by decide) ?_
    refine lc_iconst C (pc' := 25) (v := (0 : Int32)) dL_repay_24 (by decide) rfl ?_
    exact lc_iret C rfl dL_repay_25
  · rcases hex with ⟨rfl, rfl⟩ | ⟨rfl, rfl⟩ | ⟨rfl, rfl⟩
    · have h := (lc_if2 h).2 (by decide)
      have h := (lc_if2 h).2 (by decide)
      have h := (lc_if2 h).1 rfl
      obtain rfl := Option.some.inj h
      refine lc_catch C (pc' := 16) (hh := [(0, 9, 12, 15), (0, 9, 16, 17), (0, 9, 20, 19)]) (pre := [(0, 9, 12, 15)]) (z := (0, 9, 16, 17)) (suf := [(0, 9, 20, 19)]) ht rfl (fun w hw => by rcases List.mem_singleton.mp hw with rfl; exact ⟨by decide, _, lc_cl15, fun U hU => hU.2.2.2.1⟩) (by decide) (by decide) (by decide) lc_cl17 (fun U hU => hU.2.1.1) rfl ?_
      refine lc_astore C (pc' := 18) (lo' := [(4, .ref q9), (0, .ref (lc_ad S 194)), (1, .int x1), (2, .int x2), (3, .ref (lc_ad S 203))]) dL_repay_16 (Nat.le_of_ble_eq_true rfl) rfl rfl ?_
      refine lc_iconst C (pc' := 19) (v := (2 : Int32)) dL_repay_18 (by decide) rfl ?_
      exact lc_iret C rfl dL_repay_19
    · have h := (lc_if2 h).2 (by decide)
      have h := (lc_if2 h).2 (by decide)
      have h := (lc_if2 h).2 (by decide)
      have h := (lc_if2 h).1 rfl
      obtain rfl := Option.some.inj h
      refine lc_catch C (pc' := 20) (hh := [(0, 9, 12, 15), (0, 9, 16, 17), (0, 9, 20, 19)]) (pre := [(0, 9, 12, 15), (0, 9, 16, 17)]) (z := (0, 9, 20, 19)) (suf := []) ht rfl (fun w hw => by rcases List.mem_cons.mp hw with rfl | hw; (· exact ⟨by decide, _, lc_cl15, fun U hU => hU.2.2.2.2.2.1⟩); rcases List.mem_singleton.mp hw with rfl; exact ⟨by decide, _, lc_cl17, fun U hU => hU.2.2.2.2.1⟩) (by decide) (by decide) (by decide) lc_cl19 (fun U hU => hU.2.1.2.1) rfl ?_
      refine lc_astore C (pc' := 22) (lo' := [(4, .ref q9), (0, .ref (lc_ad S 194)), (1, .int x1), (2, .int x2), (3, .ref (lc_ad S 203))]) dL_repay_20 (Nat.le_of_ble_eq_true rfl) rfl rfl ?_
      refine lc_iconst C (pc' := 23) (v := (3 : Int32)) dL_repay_22 (by decide) rfl ?_
      exact lc_iret C rfl dL_repay_23
    · have h := (lc_if2 h).2 (by decide)
      have h := (lc_if2 h).1 rfl
      obtain rfl := Option.some.inj h
      refine lc_catch C (pc' := 12) (hh := [(0, 9, 12, 15), (0, 9, 16, 17), (0, 9, 20, 19)]) (pre := []) (z := (0, 9, 12, 15)) (suf := [(0, 9, 16, 17), (0, 9, 20, 19)]) ht rfl (fun w hw => by cases hw) (by decide) (by decide) (by decide) lc_cl15 (fun U hU => hU.2.1.2.2) rfl ?_
      refine lc_astore C (pc' := 14) (lo' := [(4, .ref q9), (0, .ref (lc_ad S 194)), (1, .int x1), (2, .int x2), (3, .ref (lc_ad S 203))]) dL_repay_12 (Nat.le_of_ble_eq_true rfl) rfl rfl ?_
      refine lc_iconst C (pc' := 15) (v := (1 : Int32)) dL_repay_14 (by decide) rfl ?_
      exact lc_iret C rfl dL_repay_15
abbrev rm_L_charge : Room := { frames := 7, cells := 1, slots := 6, locals := 116 }
def P_L_charge (x1 : Int32) (M : lc_MM) : Option (Int32 × lc_MM) :=
  lc_bd3 (P_X3_charge x1 M) (fun e r M1 => if e = 0 then lc_let (va_up M1 24 (lc_ss (M1 24) 0 0 r)) (fun M2 => some (0, M2)) else if e = 1 then some (1, M1) else none)
theorem kw_L_charge : lc_kW RL 92 yL_charge cL_charge 4 (some .int) [(0, 8, 11, 17)] 3 := ⟨⟨lc_in (List.mem_of_getElem? (i := 526) (by decide +kernel)) rfl, lc_in (List.mem_of_getElem? (i := 527) (by decide +kernel)) rfl, lc_in (List.mem_of_getElem? (i := 1) (by decide +kernel)) rfl, lc_in (List.mem_of_getElem? (i := 528) (by decide +kernel)) rfl⟩, by decide +kernel, by decide +kernel, by decide +kernel⟩
set_option maxRecDepth 100000 in
set_option maxHeartbeats 4000000 in
theorem c_L_charge (S : lc_Se) (l : Launch) (hl : l.stackTraces = false) (x1 : Int32) (M : lc_MM) (out : Int32 × lc_MM) (h : P_L_charge x1 M = some out) : lc_MIW S l yL_charge cL_charge 4 (some .int) [(0, 8, 11, 17)] rm_L_charge [.ref (lc_ad S 194), .int x1, .ref (lc_ad S 203)] M out.1 out.2 := by
  refine lc_mkW (own := RL) pn_RL rfl (Nat.le_of_ble_eq_true rfl) (lo := [(0, .ref (lc_ad S 194)), (1, .int x1), (2, .ref (lc_ad S 203))]) rfl (fun X hX C ht => ?_)
  rw [P_L_charge] at h
  subst hX
  refine lc_aload_n C (pc' := 1) 2 dL_charge_0 rfl rfl ?_
  refine lc_iconst C (pc' := 2) (v := (0 : Int32)) dL_charge_1 (by decide) rfl ?_
  refine lc_aload_n C (pc' := 3) 0 dL_charge_2 rfl rfl ?_
  refine lc_iload_n C (pc' := 4) 1 dL_charge_3 rfl rfl ?_
  obtain ⟨e, r, M1, h0, h⟩ := lc_bd3e h
  refine lc_cvx C (pc' := 7) (e := e) (r := r) (M' := M1) (As := [.int x1]) (rest := [.int (0 : Int32), .ref (lc_ad S 203)]) (c_X3_charge S X.2.1 hl x1 M (e, r, M1) h0) kl_RL_28 (lc_at194 S _) rfl rfl rfl rfl (Nat.le_of_ble_eq_true rfl) ⟨Nat.le_of_ble_eq_true rfl, Nat.le_of_ble_eq_true rfl⟩ ⟨Nat.le_refl _, Nat.le_refl _⟩ dL_charge_4 rfl (fun he => ?_) (fun E q9 hex => ?_)
  · subst he
    have h := (lc_if2 h).1 rfl
    obtain ⟨M2, e2, h⟩ := lc_let2 h
    obtain rfl := Option.some.inj h
    refine lc_sd203 C (pc' := 8) (jj := 0) (M' := M2) rfl (by decide) (by decide) rfl e2 dL_charge_7 rfl ?_
    refine lc_goto C (tgt := 14) dL_charge_8 (by decide) ?_
    refine lc_iconst C (pc' := 15) (v := (0 : Int32)) dL_charge_14 (by decide) rfl ?_
    exact lc_iret C rfl dL_charge_15
  · rcases hex with ⟨rfl, rfl⟩ | ⟨rfl, rfl⟩ | ⟨rfl, rfl⟩
    · have h := (lc_if2 h).2 (by decide)
      have h := (lc_if2 h).1 rfl
      obtain rfl := Option.some.inj h
      refine lc_catch C (pc' := 11) (hh := [(0, 8, 11, 17)]) (pre := []) (z := (0, 8, 11, 17)) (suf := []) ht rfl (fun w hw => by cases hw) (by decide) (by decide) (by decide) lc_cl17 (fun U hU => hU.2.1.1) rfl ?_
      refine lc_astore_n C (pc' := 12) (lo' := [(3, .ref q9), (0, .ref (lc_ad S 194)), (1, .int x1), (2, .ref (lc_ad S 203))]) dL_charge_11 (Nat.le_of_ble_eq_true rfl) rfl rfl ?_
      refine lc_iconst C (pc' := 13) (v := (1 : Int32)) dL_charge_12 (by decide) rfl ?_
      exact lc_iret C rfl dL_charge_13
    · have h := (lc_if2 h).2 (by decide)
      have h := (lc_if2 h).2 (by decide)
      cases h
    · have h := (lc_if2 h).2 (by decide)
      have h := (lc_if2 h).2 (by decide)
      cases h
