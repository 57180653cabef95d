/-! ===== the world: 204 cells by number; the state is a function unit -> row -> place ===== -/
abbrev lc_St : Type := Nat → Nat → Int32
abbrev lc_MM : Type := Nat → lc_St
def lc_ss (s : lc_St) (r i : Nat) (v : Int32) : lc_St := va_up s r (upd (s r) i v)
def lc_ms (M : lc_MM) (u r i : Nat) (v : Int32) : lc_MM := va_up M u (lc_ss (M u) r i v)
def lc_bo (S : lc_Se) (b : Nat) (g : Nat → Int32) : List Value := [.ref (lc_ad S (b + 1)), .ref (lc_ad S (b + 2)), .ref (lc_ad S (b + 3)), .ref (lc_ad S (b + 4)), .ref (lc_ad S (b + 5)), .ref (lc_ad S (b + 6)), .ref (lc_ad S (b + 7)), .ref (lc_ad S (b + 8)), .ref (lc_ad S (b + 9)), .int (g 0), .int (g 1), .int (g 2), .int (g 3), .int (g 4), .int (g 5), .int (g 6), .int (g 7), .int (g 8)]
def lc_bl (r : Nat) : Nat := if r ≤ 4 then 8 else 12
/-- the cell of that number, with the row g -/
def lc_el (S : lc_Se) (id : Nat) (g : Nat → Int32) : va_E :=
  if id < 190 then (if id % 10 = 0 then .inr (0, lc_bo S id g) else .inl (lc_cl S 1, lc_bl (id % 10), .inl g))
  else if id = 190 then .inr (2, [.ref (lc_ad S 191), .int (g 0), .int (g 1)])
  else if id = 191 then .inl (lc_cl S 0, 120, .inl g)
  else if id = 192 then .inr (1, [.ref (lc_ad S 193), .int (g 0), .int (g 1)])
  else if id = 193 then .inl (lc_cl S 3, 14, .inr (.inr (.inr (.inr (fun j => some (lc_ad S (10 * (5 + j))))))))
  else if id = 194 then .inr (3, [.ref (lc_ad S 190), .ref (lc_ad S 0), .ref (lc_ad S 192), .ref (lc_ad S 195), .ref (lc_ad S 196), .ref (lc_ad S 10), .ref (lc_ad S 20)])
  else if id = 195 then .inl (lc_cl S 3, 2, .inr (.inr (.inr (.inr (fun j => some (lc_ad S (10 * (3 + j))))))))
  else if id = 196 then .inl (lc_cl S 2, 2, .inl g)
  else if id = 197 then .inl (lc_cl S 1, 7, .inl g)
  else if id = 198 then .inl (lc_cl S 1, 30, .inl g)
  else if id = 199 then .inl (lc_cl S 1, 60, .inl g)
  else if id = 200 then .inl (lc_cl S 1, 7, .inl g)
  else if id = 201 then .inl (lc_cl S 1, 30, .inl g)
  else if id = 202 then .inl (lc_cl S 1, 60, .inl g)
  else .inl (lc_cl S 1, 1, .inl g)
def lc_un (id : Nat) : Nat := if id < 190 then id / 10 else if id < 192 then 19 else if id < 194 then 20 else if id < 197 then 21 else if id < 200 then 22 else if id < 203 then 23 else 24
def lc_ro (id : Nat) : Nat := if id < 190 then id % 10 else if id < 192 then id - 190 else if id < 194 then id - 192 else if id < 197 then id - 194 else if id < 200 then id - 197 else if id < 203 then id - 200 else 0
theorem lc_inj {a b : Nat} (ha : a < 204) (hb : b < 204) (h1 : lc_un a = lc_un b) (h2 : lc_ro a = lc_ro b) : a = b := by
  unfold lc_un at h1
  unfold lc_ro at h2
  split at h1 <;> split at h1 <;> simp_all <;> (try omega) <;> (repeat' split at h1) <;> simp_all <;> omega
def lc_w (S : lc_Se) (M : lc_MM) : va_W := (List.range 204).map (fun id => (lc_ad S id, lc_el S id (M (lc_un id) (lc_ro id))))
theorem lc_w_at (S : lc_Se) (M : lc_MM) {id : Nat} (h : id < 204) : (lc_w S M)[id]? = some (lc_ad S id, lc_el S id (M (lc_un id) (lc_ro id))) := by
  simp [lc_w, h]
theorem lc_w_set (S : lc_Se) (M : lc_MM) {id i : Nat} {v : Int32} (h : id < 204) : (lc_w S M).set id (lc_ad S id, lc_el S id (upd (M (lc_un id) (lc_ro id)) i v)) = lc_w S (lc_ms M (lc_un id) (lc_ro id) i v) := by
  apply List.ext_getElem?
  intro j
  by_cases hj : j < 204
  · by_cases hji : j = id
    · subst hji
      rw [List.getElem?_set_self (by simp [lc_w, h]), lc_w_at _ _ h]
      simp [lc_ms, lc_ss, va_up]
    · rw [List.getElem?_set_ne (Ne.symm hji), lc_w_at _ _ hj, lc_w_at _ _ hj]
      have hne : ¬ (lc_un j = lc_un id ∧ lc_ro j = lc_ro id) := fun q => hji (lc_inj hj h q.1 q.2)
      have e : lc_ms M (lc_un id) (lc_ro id) i v (lc_un j) (lc_ro j) = M (lc_un j) (lc_ro j) := by
        unfold lc_ms lc_ss va_up
        by_cases h1 : lc_un j = lc_un id
        · rw [if_pos h1, if_neg (fun q => hne ⟨h1, q⟩), h1]
        · rw [if_neg h1]
      rw [e]
  · rw [List.getElem?_eq_none (by simp [lc_w]; omega), List.getElem?_eq_none (by simp [lc_w]; omega)]
def lc_mg (M : lc_MM) (u r : Nat) (g : Nat → Int32) : lc_MM := va_up M u (va_up (M u) r g)
theorem lc_w_setg (S : lc_Se) (M : lc_MM) {id : Nat} (g : Nat → Int32) (h : id < 204) : (lc_w S M).set id (lc_ad S id, lc_el S id g) = lc_w S (lc_mg M (lc_un id) (lc_ro id) g) := by
  apply List.ext_getElem?
  intro j
  by_cases hj : j < 204
  · by_cases hji : j = id
    · subst hji
      rw [List.getElem?_set_self (by simp [lc_w, h]), lc_w_at _ _ h]
      simp [lc_mg, va_up]
    · rw [List.getElem?_set_ne (Ne.symm hji), lc_w_at _ _ hj, lc_w_at _ _ hj]
      have hne : ¬ (lc_un j = lc_un id ∧ lc_ro j = lc_ro id) := fun q => hji (lc_inj hj h q.1 q.2)
      have e : lc_mg M (lc_un id) (lc_ro id) g (lc_un j) (lc_ro j) = M (lc_un j) (lc_ro j) := by
        unfold lc_mg va_up
        by_cases h1 : lc_un j = lc_un id
        · rw [if_pos h1, if_neg (fun q => hne ⟨h1, q⟩), h1]
        · rw [if_neg h1]
      rw [e]
  · rw [List.getElem?_eq_none (by simp [lc_w]; omega), List.getElem?_eq_none (by simp [lc_w]; omega)]
def lc_ty (S : lc_Se) : List (ClassId × FieldType) := [(lc_cl S 0, .char), (lc_cl S 1, .int), (lc_cl S 2, .boolean), (lc_cl S 3, .object RX0)]
/-- the world inside a method -/
def lc_G (S : lc_Se) (M : lc_MM) (s : State) (H : Heap) (locs : List Loc) : Prop :=
  va_K S.1 vwCl (lc_ty S) s ∧ va_P S.1 vwCl (lc_w S M) H ∧ va_D (lc_A S) (lc_w S M) ∧ va_S (lc_A S) s.heap H locs ∧ lc_ba S ≤ s.heap.size ∧ lc_N S s
/-- the world between methods -/
def lc_B (S : lc_Se) (M : lc_MM) (U : State) : Prop :=
  lc_ba S ≤ U.heap.size ∧ va_P S.1 vwCl (lc_w S M) U.heap ∧ va_K S.1 vwCl (lc_ty S) U ∧ va_D (lc_A S) (lc_w S M) ∧ lc_N S U
theorem lc_up_self {α : Type} (M : Nat → α) (k : Nat) : va_up M k (M k) = M := by
  funext j
  unfold va_up
  by_cases h : j = k
  · rw [if_pos h, h]
  · rw [if_neg h]
theorem lc_up_up {α : Type} (M : Nat → α) (k : Nat) (a b : α) : va_up (va_up M k a) k b = va_up M k b := by
  funext j
  unfold va_up
  by_cases h : j = k
  · rw [if_pos h, if_pos h]
  · rw [if_neg h, if_neg h, if_neg h]
theorem lc_up_at {α : Type} (M : Nat → α) (k : Nat) (a : α) : va_up M k a k = a := if_pos rfl
theorem lc_up_off {α : Type} (M : Nat → α) {k j : Nat} (a : α) (h : j ≠ k) : va_up M k a j = M j := if_neg h
theorem lc_up_swap {α : Type} (M : Nat → α) {k j : Nat} (a b : α) (h : j ≠ k) : va_up (va_up M k a) j b = va_up (va_up M j b) k a := by
  funext i
  unfold va_up
  by_cases h1 : i = j
  · subst h1
    rw [if_pos rfl, if_neg h, if_pos rfl]
  · rw [if_neg h1, if_neg h1]


/-! ===== the judgement ===== -/
abbrev lc_X : Type := Program × Launch × Env × Room × State × MethodId × Array Value × List Frame × Method × Code
abbrev lc_Xs (X : lc_X) : State := X.2.2.2.2.1
abbrev lc_Xr (X : lc_X) : Room := X.2.2.2.1
/-- the method's own facts -/
def lc_C (X : lc_X) (cc : ByteArray) (own : String) (n : Nat) (rt : Option FieldType) (rm : Room) : Prop :=
  X.1.tables.exec = Jvm.exec ∧ X.2.2.2.2.2.2.2.2.2.code = cc ∧ X.2.2.2.2.2.2.2.2.2.maxLocals = n ∧ (lc_Xs X).vm.findClass own = some X.2.2.2.2.2.1.cls ∧ (∀ w ∈ lc_T, w.before X.2.2.2.2.2.2.1 (lc_Xs X) = true) ∧ X.2.2.2.2.2.2.2.2.1.locks = false ∧ X.2.2.2.2.2.2.2.2.1.sig.returnType = rt ∧ lc_Xr X = rm
def lc_J (S : lc_Se) (X : lc_X) (n k j : Nat) (Q : State → Prop) (pc : Nat) (lo : List (Nat × Value)) (st : List Value) (M : lc_MM) : Prop :=
  ∀ (H : Heap) (locs : List Loc) (ls : Array Slot), lc_G S M (lc_Xs X) H locs → lv_has ls n lo → W X.1 X.2.1 X.2.2.1 (lc_Xr X) (lc_Xs X) X.2.2.2.2.2.1 X.2.2.2.2.2.2.1 X.2.2.2.2.2.2.2.1 X.2.2.2.2.2.2.2.2.1 X.2.2.2.2.2.2.2.2.2 H locs k j Q (F0 X.2.2.2.2.2.1 pc ls st)
def lc_let {α β : Sort _} (x : α) (f : α → β) : β := f x
theorem lc_lete {α : Type} {β : Type} {x : α} {f : α → Option β} {o : Option β} (h : lc_let x f = o) : ∃ y, x = y ∧ f y = o := ⟨x, rfl, h⟩
def lc_if {α : Type} (c : Prop) [Decidable c] (x : Option α) : Option α := if c then x else none
theorem lc_ife {α : Type} {c : Prop} [Decidable c] {x : Option α} {o : α} (h : lc_if c x = some o) : c ∧ x = some o := by
  unfold lc_if at h
  split at h
  · exact ⟨by assumption, h⟩
  · cases h
def lc_bd {α β : Type} (x : Option α) (f : α → Option β) : Option β := x.bind f
theorem lc_bde {α β : Type} {x : Option α} {f : α → Option β} {o : β} (h : lc_bd x f = some o) : ∃ y, x = some y ∧ f y = some o := by
  cases x with
  | none => cases h
  | some y => exact ⟨y, rfl, h⟩
abbrev lc_ok (i : Int32) (n : Nat) : Prop := ¬ (i < 0 ∨ n ≤ i.toNatClampNeg)
section LCJ
variable {S : lc_Se} {X : lc_X} {cc : ByteArray} {own : String} {rt : Option FieldType} {rm : Room} {n k j : Nat} {Q : State → Prop} {pc pc' : Nat} {lo lo' : List (Nat × Value)} {st : List Value} {M M' : lc_MM}
theorem lc_sub (ks : List Nat) (hl : lv_pick lo ks = lo') (kk : lc_J S X n k j Q pc lo' st M) : lc_J S X n k j Q pc lo st M := fun H locs ls hG h => kk H locs ls hG (lv_sub h ks hl)
theorem lc_wid {k' j' : Nat} (h1 : k ≤ k') (h2 : j ≤ j') (kk : lc_J S X n k' j' Q pc lo st M) : lc_J S X n k j Q pc lo st M := fun H locs ls hG h => W.widen h1 h2 (kk H locs ls hG h)
theorem lc_meq (h : M = M') (kk : lc_J S X n k j Q pc lo st M') : lc_J S X n k j Q pc lo st M := h ▸ kk

theorem lc_iconst (C : lc_C X cc own n rt rm) {z : Int} {v : Int32} (d : decode cc pc = .ok (.iconst z, 1)) (hv : Int32.ofInt z = v) (hq : pc + 1 = pc') (kk : lc_J S X n k j Q pc' lo (.int v :: st) M) : lc_J S X n k j Q pc lo (st) M := by
  subst hq
  exact fun H locs ls hG h => lv_iconst C.1 C.2.1 d hv (kk H locs ls hG h)
theorem lc_bipush (C : lc_C X cc own n rt rm) {z : Int} {v : Int32} (d : decode cc pc = .ok (.bipush z, 2)) (hv : (Int8.ofInt z).toInt32 = v) (hq : pc + 2 = pc') (kk : lc_J S X n k j Q pc' lo (.int v :: st) M) : lc_J S X n k j Q pc lo (st) M := by
  subst hq
  exact fun H locs ls hG h => lv_bipush C.1 C.2.1 d hv (kk H locs ls hG h)
theorem lc_sipush (C : lc_C X cc own n rt rm) {z : Int} {v : Int32} (d : decode cc pc = .ok (.sipush z, 3)) (hv : (Int16.ofInt z).toInt32 = v) (hq : pc + 3 = pc') (kk : lc_J S X n k j Q pc' lo (.int v :: st) M) : lc_J S X n k j Q pc lo (st) M := by
  subst hq
  exact fun H locs ls hG h => lv_sipush C.1 C.2.1 d hv (kk H locs ls hG h)
theorem lc_lconst (C : lc_C X cc own n rt rm) {z : Fin 2} {v : Int64} (d : decode cc pc = .ok (.lconst z, 1)) (hv : Int64.ofNat (z : Nat) = v) (hq : pc + 1 = pc') (kk : lc_J S X n k j Q pc' lo (.long v :: st) M) : lc_J S X n k j Q pc lo (st) M := by
  subst hq
  exact fun H locs ls hG h => lv_lconst C.1 C.2.1 d hv (kk H locs ls hG h)
theorem lc_ldc (C : lc_C X cc own n rt rm) {ix : Nat} {v : Int32} (d : decode cc pc = .ok (.ldc ix, 2)) (hw : Jvm.Cond.constant own ix v ∈ lc_T) (hq : pc + 2 = pc') (kk : lc_J S X n k j Q pc' lo (.int v :: st) M) : lc_J S X n k j Q pc lo (st) M := by
  subst hq
  exact fun H locs ls hG h => lv_ldc C.1 C.2.1 C.2.2.2.1 (C.2.2.2.2.1 _ hw) d (kk H locs ls hG h)
theorem lc_ldcw (C : lc_C X cc own n rt rm) {ix : Nat} {v : Int32} (d : decode cc pc = .ok (.ldc_w ix, 3)) (hw : Jvm.Cond.constant own ix v ∈ lc_T) (hq : pc + 3 = pc') (kk : lc_J S X n k j Q pc' lo (.int v :: st) M) : lc_J S X n k j Q pc lo (st) M := by
  subst hq
  exact fun H locs ls hG h => lv_ldcw C.1 C.2.1 C.2.2.2.1 (C.2.2.2.2.1 _ hw) d (kk H locs ls hG h)
theorem lc_ldc2 (C : lc_C X cc own n rt rm) {ix : Nat} {v : Int64} (d : decode cc pc = .ok (.ldc2_w ix, 3)) (hw : Jvm.Cond.constantLong own ix v ∈ lc_T) (hq : pc + 3 = pc') (kk : lc_J S X n k j Q pc' lo (.long v :: st) M) : lc_J S X n k j Q pc lo (st) M := by
  subst hq
  exact fun H locs ls hG h => lv_ldc2 C.1 C.2.1 C.2.2.2.1 (C.2.2.2.2.1 _ hw) d (kk H locs ls hG h)
theorem lc_iload_n (C : lc_C X cc own n rt rm) {z : Fin 4} {v : Int32} (q : Nat) (d : decode cc pc = .ok (.iload_n z, 1)) (hv : lo[q]? = some ((z : Nat), .int v)) (hq : pc + 1 = pc') (kk : lc_J S X n k j Q pc' lo (.int v :: st) M) : lc_J S X n k j Q pc lo (st) M := by
  subst hq
  exact fun H locs ls hG h => lv_iload_n C.1 C.2.1 d rfl (lv_at h q hv) (kk H locs ls hG h)
theorem lc_iload (C : lc_C X cc own n rt rm) {z : Nat} {v : Int32} (q : Nat) (d : decode cc pc = .ok (.iload z, 2)) (hv : lo[q]? = some (z, .int v)) (hq : pc + 2 = pc') (kk : lc_J S X n k j Q pc' lo (.int v :: st) M) : lc_J S X n k j Q pc lo (st) M := by
  subst hq
  exact fun H locs ls hG h => lv_iload C.1 C.2.1 d (lv_at h q hv) (kk H locs ls hG h)
theorem lc_lload_n (C : lc_C X cc own n rt rm) {z : Fin 4} {v : Int64} (q : Nat) (d : decode cc pc = .ok (.lload_n z, 1)) (hv : lo[q]? = some ((z : Nat), .long v)) (hq : pc + 1 = pc') (kk : lc_J S X n k j Q pc' lo (.long v :: st) M) : lc_J S X n k j Q pc lo (st) M := by
  subst hq
  exact fun H locs ls hG h => lv_lload_n C.1 C.2.1 d rfl (lv_at h q hv) (kk H locs ls hG h)
theorem lc_lload (C : lc_C X cc own n rt rm) {z : Nat} {v : Int64} (q : Nat) (d : decode cc pc = .ok (.lload z, 2)) (hv : lo[q]? = some (z, .long v)) (hq : pc + 2 = pc') (kk : lc_J S X n k j Q pc' lo (.long v :: st) M) : lc_J S X n k j Q pc lo (st) M := by
  subst hq
  exact fun H locs ls hG h => lv_lload C.1 C.2.1 d (lv_at h q hv) (kk H locs ls hG h)
theorem lc_aload_n (C : lc_C X cc own n rt rm) {z : Fin 4} {v : Nat} (q : Nat) (d : decode cc pc = .ok (.aload_n z, 1)) (hv : lo[q]? = some ((z : Nat), .ref v)) (hq : pc + 1 = pc') (kk : lc_J S X n k j Q pc' lo (.ref v :: st) M) : lc_J S X n k j Q pc lo (st) M := by
  subst hq
  exact fun H locs ls hG h => lv_aload_n C.1 C.2.1 d rfl (lv_at h q hv) (kk H locs ls hG h)
theorem lc_aload (C : lc_C X cc own n rt rm) {z : Nat} {v : Nat} (q : Nat) (d : decode cc pc = .ok (.aload z, 2)) (hv : lo[q]? = some (z, .ref v)) (hq : pc + 2 = pc') (kk : lc_J S X n k j Q pc' lo (.ref v :: st) M) : lc_J S X n k j Q pc lo (st) M := by
  subst hq
  exact fun H locs ls hG h => lv_aload C.1 C.2.1 d (lv_at h q hv) (kk H locs ls hG h)
theorem lc_istore_n (C : lc_C X cc own n rt rm) {z : Fin 4} {v : Int32} (d : decode cc pc = .ok (.istore_n z, 1)) (hn : (z : Nat) < n) (hl : ((z : Nat), Value.int v) :: lo.filter (fun q => !(q.1 == (z : Nat)) && !(q.1 + 1 == (z : Nat) && q.2.category == 2)) = lo') (hq : pc + 1 = pc') (kk : lc_J S X n k j Q pc' lo' st M) : lc_J S X n k j Q pc lo (.int v :: st) M := by
  subst hq
  exact fun H locs ls hG h => lv_istore_n C.1 C.2.1 d rfl h hn hl (fun ls' h' => kk H locs ls' hG h')
theorem lc_istore (C : lc_C X cc own n rt rm) {z : Nat} {v : Int32} (d : decode cc pc = .ok (.istore z, 2)) (hn : z < n) (hl : (z, Value.int v) :: lo.filter (fun q => !(q.1 == z) && !(q.1 + 1 == z && q.2.category == 2)) = lo') (hq : pc + 2 = pc') (kk : lc_J S X n k j Q pc' lo' st M) : lc_J S X n k j Q pc lo (.int v :: st) M := by
  subst hq
  exact fun H locs ls hG h => lv_istore C.1 C.2.1 d h hn hl (fun ls' h' => kk H locs ls' hG h')
theorem lc_lstore_n (C : lc_C X cc own n rt rm) {z : Fin 4} {v : Int64} (d : decode cc pc = .ok (.lstore_n z, 1)) (hn : (z : Nat) + 1 < n) (hl : ((z : Nat), Value.long v) :: lo.filter (fun q => !(q.1 == (z : Nat)) && (!(q.1 == (z : Nat) + 1) && !(q.1 + 1 == (z : Nat) && q.2.category == 2))) = lo') (hq : pc + 1 = pc') (kk : lc_J S X n k j Q pc' lo' st M) : lc_J S X n k j Q pc lo (.long v :: st) M := by
  subst hq
  exact fun H locs ls hG h => lv_lstore_n C.1 C.2.1 d rfl h hn hl (fun ls' h' => kk H locs ls' hG h')
theorem lc_lstore (C : lc_C X cc own n rt rm) {z : Nat} {v : Int64} (d : decode cc pc = .ok (.lstore z, 2)) (hn : z + 1 < n) (hl : (z, Value.long v) :: lo.filter (fun q => !(q.1 == z) && (!(q.1 == z + 1) && !(q.1 + 1 == z && q.2.category == 2))) = lo') (hq : pc + 2 = pc') (kk : lc_J S X n k j Q pc' lo' st M) : lc_J S X n k j Q pc lo (.long v :: st) M := by
  subst hq
  exact fun H locs ls hG h => lv_lstore C.1 C.2.1 d h hn hl (fun ls' h' => kk H locs ls' hG h')
theorem lc_astore_n (C : lc_C X cc own n rt rm) {z : Fin 4} {v : Nat} (d : decode cc pc = .ok (.astore_n z, 1)) (hn : (z : Nat) < n) (hl : ((z : Nat), Value.ref v) :: lo.filter (fun q => !(q.1 == (z : Nat)) && !(q.1 + 1 == (z : Nat) && q.2.category == 2)) = lo') (hq : pc + 1 = pc') (kk : lc_J S X n k j Q pc' lo' st M) : lc_J S X n k j Q pc lo (.ref v :: st) M := by
  subst hq
  exact fun H locs ls hG h => lv_astore_n C.1 C.2.1 d rfl h hn hl (fun ls' h' => kk H locs ls' hG h')
theorem lc_astore (C : lc_C X cc own n rt rm) {z : Nat} {v : Nat} (d : decode cc pc = .ok (.astore z, 2)) (hn : z < n) (hl : (z, Value.ref v) :: lo.filter (fun q => !(q.1 == z) && !(q.1 + 1 == z && q.2.category == 2)) = lo') (hq : pc + 2 = pc') (kk : lc_J S X n k j Q pc' lo' st M) : lc_J S X n k j Q pc lo (.ref v :: st) M := by
  subst hq
  exact fun H locs ls hG h => lv_astore C.1 C.2.1 d h hn hl (fun ls' h' => kk H locs ls' hG h')
theorem lc_iinc (C : lc_C X cc own n rt rm) {i q : Nat} {z : Int} {x v : Int32} (d : decode cc pc = .ok (.iinc i z, 3)) (hk : lo[q]? = some (i, .int x)) (hv : x + Int32.ofInt z = v) (hn : i < n) (hl : (i, Value.int v) :: lo.filter (fun q => !(q.1 == i) && !(q.1 + 1 == i && q.2.category == 2)) = lo') (hq : pc + 3 = pc') (kk : lc_J S X n k j Q pc' lo' st M) : lc_J S X n k j Q pc lo st M := by
  subst hq
  exact fun H locs ls hG h => lv_iinc C.1 C.2.1 d h hk hv hn hl (fun ls' h' => kk H locs ls' hG h')
theorem lc_iadd (C : lc_C X cc own n rt rm) {x y : Int32} (d : decode cc pc = .ok (.iadd, 1)) (hq : pc + 1 = pc') (kk : lc_J S X n k j Q pc' lo (.int (x + y) :: st) M) : lc_J S X n k j Q pc lo (.int y :: .int x :: st) M := by
  subst hq
  exact fun H locs ls hG h => lv_iadd C.1 C.2.1 d (kk H locs ls hG h)
theorem lc_isub (C : lc_C X cc own n rt rm) {x y : Int32} (d : decode cc pc = .ok (.isub, 1)) (hq : pc + 1 = pc') (kk : lc_J S X n k j Q pc' lo (.int (x - y) :: st) M) : lc_J S X n k j Q pc lo (.int y :: .int x :: st) M := by
  subst hq
  exact fun H locs ls hG h => lv_isub C.1 C.2.1 d (kk H locs ls hG h)
theorem lc_imul (C : lc_C X cc own n rt rm) {x y : Int32} (d : decode cc pc = .ok (.imul, 1)) (hq : pc + 1 = pc') (kk : lc_J S X n k j Q pc' lo (.int (x * y) :: st) M) : lc_J S X n k j Q pc lo (.int y :: .int x :: st) M := by
  subst hq
  exact fun H locs ls hG h => lv_imul C.1 C.2.1 d (kk H locs ls hG h)
theorem lc_iand (C : lc_C X cc own n rt rm) {x y : Int32} (d : decode cc pc = .ok (.iand, 1)) (hq : pc + 1 = pc') (kk : lc_J S X n k j Q pc' lo (.int (x &&& y) :: st) M) : lc_J S X n k j Q pc lo (.int y :: .int x :: st) M := by
  subst hq
  exact fun H locs ls hG h => lv_iand C.1 C.2.1 d (kk H locs ls hG h)
theorem lc_ior (C : lc_C X cc own n rt rm) {x y : Int32} (d : decode cc pc = .ok (.ior, 1)) (hq : pc + 1 = pc') (kk : lc_J S X n k j Q pc' lo (.int (x ||| y) :: st) M) : lc_J S X n k j Q pc lo (.int y :: .int x :: st) M := by
  subst hq
  exact fun H locs ls hG h => lv_ior C.1 C.2.1 d (kk H locs ls hG h)
theorem lc_idiv (C : lc_C X cc own n rt rm) {x y : Int32} (d : decode cc pc = .ok (.idiv, 1)) (hy : ¬ y = 0) (hq : pc + 1 = pc') (kk : lc_J S X n k j Q pc' lo (.int (x / y) :: st) M) : lc_J S X n k j Q pc lo (.int y :: .int x :: st) M := by
  subst hq
  exact fun H locs ls hG h => lv_idiv C.1 C.2.1 d hy (kk H locs ls hG h)
theorem lc_irem (C : lc_C X cc own n rt rm) {x y : Int32} (d : decode cc pc = .ok (.irem, 1)) (hy : ¬ y = 0) (hq : pc + 1 = pc') (kk : lc_J S X n k j Q pc' lo (.int (x - x / y * y) :: st) M) : lc_J S X n k j Q pc lo (.int y :: .int x :: st) M := by
  subst hq
  exact fun H locs ls hG h => lv_irem C.1 C.2.1 d hy (kk H locs ls hG h)
theorem lc_ineg (C : lc_C X cc own n rt rm) {x : Int32} (d : decode cc pc = .ok (.ineg, 1)) (hq : pc + 1 = pc') (kk : lc_J S X n k j Q pc' lo (.int (-x) :: st) M) : lc_J S X n k j Q pc lo (.int x :: st) M := by
  subst hq
  exact fun H locs ls hG h => lv_ineg C.1 C.2.1 d (kk H locs ls hG h)
theorem lc_ladd (C : lc_C X cc own n rt rm) {x y : Int64} (d : decode cc pc = .ok (.ladd, 1)) (hq : pc + 1 = pc') (kk : lc_J S X n k j Q pc' lo (.long (x + y) :: st) M) : lc_J S X n k j Q pc lo (.long y :: .long x :: st) M := by
  subst hq
  exact fun H locs ls hG h => lv_ladd C.1 C.2.1 d (kk H locs ls hG h)
theorem lc_lmul (C : lc_C X cc own n rt rm) {x y : Int64} (d : decode cc pc = .ok (.lmul, 1)) (hq : pc + 1 = pc') (kk : lc_J S X n k j Q pc' lo (.long (x * y) :: st) M) : lc_J S X n k j Q pc lo (.long y :: .long x :: st) M := by
  subst hq
  exact fun H locs ls hG h => lv_lmul C.1 C.2.1 d (kk H locs ls hG h)
theorem lc_land (C : lc_C X cc own n rt rm) {x y : Int64} (d : decode cc pc = .ok (.land, 1)) (hq : pc + 1 = pc') (kk : lc_J S X n k j Q pc' lo (.long (x &&& y) :: st) M) : lc_J S X n k j Q pc lo (.long y :: .long x :: st) M := by
  subst hq
  exact fun H locs ls hG h => lv_land C.1 C.2.1 d (kk H locs ls hG h)
theorem lc_lor (C : lc_C X cc own n rt rm) {x y : Int64} (d : decode cc pc = .ok (.lor, 1)) (hq : pc + 1 = pc') (kk : lc_J S X n k j Q pc' lo (.long (x ||| y) :: st) M) : lc_J S X n k j Q pc lo (.long y :: .long x :: st) M := by
  subst hq
  exact fun H locs ls hG h => lv_lor C.1 C.2.1 d (kk H locs ls hG h)
theorem lc_ldiv (C : lc_C X cc own n rt rm) {x y : Int64} (d : decode cc pc = .ok (.ldiv, 1)) (hy : ¬ y = 0) (hq : pc + 1 = pc') (kk : lc_J S X n k j Q pc' lo (.long (x / y) :: st) M) : lc_J S X n k j Q pc lo (.long y :: .long x :: st) M := by
  subst hq
  exact fun H locs ls hG h => lv_ldiv C.1 C.2.1 d hy (kk H locs ls hG h)
theorem lc_lrem (C : lc_C X cc own n rt rm) {x y : Int64} (d : decode cc pc = .ok (.lrem, 1)) (hy : ¬ y = 0) (hq : pc + 1 = pc') (kk : lc_J S X n k j Q pc' lo (.long (x - x / y * y) :: st) M) : lc_J S X n k j Q pc lo (.long y :: .long x :: st) M := by
  subst hq
  exact fun H locs ls hG h => lv_lrem C.1 C.2.1 d hy (kk H locs ls hG h)
theorem lc_i2l (C : lc_C X cc own n rt rm) {x : Int32} (d : decode cc pc = .ok (.i2l, 1)) (hq : pc + 1 = pc') (kk : lc_J S X n k j Q pc' lo (.long x.toInt64 :: st) M) : lc_J S X n k j Q pc lo (.int x :: st) M := by
  subst hq
  exact fun H locs ls hG h => lv_i2l C.1 C.2.1 d rfl (kk H locs ls hG h)
theorem lc_l2i (C : lc_C X cc own n rt rm) {x : Int64} (d : decode cc pc = .ok (.l2i, 1)) (hq : pc + 1 = pc') (kk : lc_J S X n k j Q pc' lo (.int x.toInt32 :: st) M) : lc_J S X n k j Q pc lo (.long x :: st) M := by
  subst hq
  exact fun H locs ls hG h => lv_l2i C.1 C.2.1 d rfl (kk H locs ls hG h)
theorem lc_i2c (C : lc_C X cc own n rt rm) {x : Int32} (d : decode cc pc = .ok (.i2c, 1)) (hq : pc + 1 = pc') (kk : lc_J S X n k j Q pc' lo (.int (x.toUInt32 % 65536).toInt32 :: st) M) : lc_J S X n k j Q pc lo (.int x :: st) M := by
  subst hq
  exact fun H locs ls hG h => lv_i2c C.1 C.2.1 d rfl (kk H locs ls hG h)
theorem lc_dup (C : lc_C X cc own n rt rm) {v : Value} (d : decode cc pc = .ok (.dup, 1)) (hc : v.category = 1) (hq : pc + 1 = pc') (kk : lc_J S X n k j Q pc' lo (v :: v :: st) M) : lc_J S X n k j Q pc lo (v :: st) M := by
  subst hq
  exact fun H locs ls hG h => lv_dup C.1 C.2.1 d hc (kk H locs ls hG h)
theorem lc_pop (C : lc_C X cc own n rt rm) {v : Value} (d : decode cc pc = .ok (.pop, 1)) (hc : v.category = 1) (hq : pc + 1 = pc') (kk : lc_J S X n k j Q pc' lo (st) M) : lc_J S X n k j Q pc lo (v :: st) M := by
  subst hq
  exact fun H locs ls hG h => lv_pop C.1 C.2.1 d hc (kk H locs ls hG h)
theorem lc_dup2 (C : lc_C X cc own n rt rm) {v u : Value} (d : decode cc pc = .ok (.dup2, 1)) (hc : v.category = 1) (hu : u.category = 1) (hq : pc + 1 = pc') (kk : lc_J S X n k j Q pc' lo (v :: u :: v :: u :: st) M) : lc_J S X n k j Q pc lo (v :: u :: st) M := by
  subst hq
  exact fun H locs ls hG h => lv_dup2_11 C.1 C.2.1 d hc hu (kk H locs ls hG h)
theorem lc_ishl (C : lc_C X cc own n rt rm) {x y : Int32} (d : decode cc pc = .ok (.ishl, 1)) (hq : pc + 1 = pc') (kk : lc_J S X n k j Q pc' lo (.int (x <<< (y &&& 31)) :: st) M) : lc_J S X n k j Q pc lo (.int y :: .int x :: st) M := by
  subst hq
  exact fun H locs ls hG h => lv_ishl C.1 C.2.1 d (kk H locs ls hG h)
theorem lc_ishr (C : lc_C X cc own n rt rm) {x y : Int32} (d : decode cc pc = .ok (.ishr, 1)) (hq : pc + 1 = pc') (kk : lc_J S X n k j Q pc' lo (.int (x >>> (y &&& 31)) :: st) M) : lc_J S X n k j Q pc lo (.int y :: .int x :: st) M := by
  subst hq
  exact fun H locs ls hG h => lv_ishr C.1 C.2.1 d (kk H locs ls hG h)
theorem lc_iushr (C : lc_C X cc own n rt rm) {x y : Int32} (d : decode cc pc = .ok (.iushr, 1)) (hq : pc + 1 = pc') (kk : lc_J S X n k j Q pc' lo (.int (x.toUInt32 >>> (y.toUInt32 &&& Int32.toUInt32 31)).toInt32 :: st) M) : lc_J S X n k j Q pc lo (.int y :: .int x :: st) M := by
  subst hq
  exact fun H locs ls hG h => lv_iushr C.1 C.2.1 d rfl (kk H locs ls hG h)
theorem lc_lushr (C : lc_C X cc own n rt rm) {x : Int64} {y : Int32} (d : decode cc pc = .ok (.lushr, 1)) (hq : pc + 1 = pc') (kk : lc_J S X n k j Q pc' lo (.long (x.toUInt64 >>> (y.toInt64.toUInt64 &&& Int64.toUInt64 63)).toInt64 :: st) M) : lc_J S X n k j Q pc lo (.int y :: .long x :: st) M := by
  subst hq
  exact fun H locs ls hG h => lv_lushr C.1 C.2.1 d rfl (kk H locs ls hG h)
theorem lc_lshl (C : lc_C X cc own n rt rm) {x : Int64} {y : Int32} (d : decode cc pc = .ok (.lshl, 1)) (hq : pc + 1 = pc') (kk : lc_J S X n k j Q pc' lo (.long (x <<< (y.toInt64 &&& 63)) :: st) M) : lc_J S X n k j Q pc lo (.int y :: .long x :: st) M := by
  subst hq
  exact fun H locs ls hG h => lv_lshl C.1 C.2.1 d rfl (kk H locs ls hG h)
theorem lc_lcmp (C : lc_C X cc own n rt rm) {x y : Int64} (d : decode cc pc = .ok (.lcmp, 1)) (hq : pc + 1 = pc') (kk : lc_J S X n k j Q pc' lo (.int (lg_cmp x y) :: st) M) : lc_J S X n k j Q pc lo (.long y :: .long x :: st) M := by
  subst hq
  exact fun H locs ls hG h => W.lcmp C.1 C.2.1 d (kk H locs ls hG h)
theorem lc_if_eq (C : lc_C X cc own n rt rm) {x : Int32} {off : Int} {tgt : Nat} (d : decode cc pc = .ok (.ifCond .eq off, 3)) (ht : (pc : Int) + off = (tgt : Int)) (hq : pc + 3 = pc') (kt : x = 0 → lc_J S X n k j Q tgt lo st M) (kf : ¬ x = 0 → lc_J S X n k j Q pc' lo st M) : lc_J S X n k j Q pc lo (.int x :: st) M := by
  subst hq
  exact fun H locs ls hG h => lv_if_eq C.1 C.2.1 d ht (fun z => kt z H locs ls hG h) (fun z => kf z H locs ls hG h)
theorem lc_icmp_eq (C : lc_C X cc own n rt rm) {x y : Int32} {off : Int} {tgt : Nat} (d : decode cc pc = .ok (.if_icmp .eq off, 3)) (ht : (pc : Int) + off = (tgt : Int)) (hq : pc + 3 = pc') (kt : x = y → lc_J S X n k j Q tgt lo st M) (kf : ¬ x = y → lc_J S X n k j Q pc' lo st M) : lc_J S X n k j Q pc lo (.int y :: .int x :: st) M := by
  subst hq
  exact fun H locs ls hG h => lv_icmp_eq C.1 C.2.1 d ht (fun z => kt z H locs ls hG h) (fun z => kf z H locs ls hG h)
theorem lc_if_ne (C : lc_C X cc own n rt rm) {x : Int32} {off : Int} {tgt : Nat} (d : decode cc pc = .ok (.ifCond .ne off, 3)) (ht : (pc : Int) + off = (tgt : Int)) (hq : pc + 3 = pc') (kt : ¬ x = 0 → lc_J S X n k j Q tgt lo st M) (kf : x = 0 → lc_J S X n k j Q pc' lo st M) : lc_J S X n k j Q pc lo (.int x :: st) M := by
  subst hq
  exact fun H locs ls hG h => lv_if_ne C.1 C.2.1 d ht (fun z => kt z H locs ls hG h) (fun z => kf z H locs ls hG h)
theorem lc_icmp_ne (C : lc_C X cc own n rt rm) {x y : Int32} {off : Int} {tgt : Nat} (d : decode cc pc = .ok (.if_icmp .ne off, 3)) (ht : (pc : Int) + off = (tgt : Int)) (hq : pc + 3 = pc') (kt : ¬ x = y → lc_J S X n k j Q tgt lo st M) (kf : x = y → lc_J S X n k j Q pc' lo st M) : lc_J S X n k j Q pc lo (.int y :: .int x :: st) M := by
  subst hq
  exact fun H locs ls hG h => lv_icmp_ne C.1 C.2.1 d ht (fun z => kt z H locs ls hG h) (fun z => kf z H locs ls hG h)
theorem lc_if_lt (C : lc_C X cc own n rt rm) {x : Int32} {off : Int} {tgt : Nat} (d : decode cc pc = .ok (.ifCond .lt off, 3)) (ht : (pc : Int) + off = (tgt : Int)) (hq : pc + 3 = pc') (kt : x < 0 → lc_J S X n k j Q tgt lo st M) (kf : ¬ x < 0 → lc_J S X n k j Q pc' lo st M) : lc_J S X n k j Q pc lo (.int x :: st) M := by
  subst hq
  exact fun H locs ls hG h => lv_if_lt C.1 C.2.1 d ht (fun z => kt z H locs ls hG h) (fun z => kf z H locs ls hG h)
theorem lc_icmp_lt (C : lc_C X cc own n rt rm) {x y : Int32} {off : Int} {tgt : Nat} (d : decode cc pc = .ok (.if_icmp .lt off, 3)) (ht : (pc : Int) + off = (tgt : Int)) (hq : pc + 3 = pc') (kt : x < y → lc_J S X n k j Q tgt lo st M) (kf : ¬ x < y → lc_J S X n k j Q pc' lo st M) : lc_J S X n k j Q pc lo (.int y :: .int x :: st) M := by
  subst hq
  exact fun H locs ls hG h => lv_icmp_lt C.1 C.2.1 d ht (fun z => kt z H locs ls hG h) (fun z => kf z H locs ls hG h)
theorem lc_if_ge (C : lc_C X cc own n rt rm) {x : Int32} {off : Int} {tgt : Nat} (d : decode cc pc = .ok (.ifCond .ge off, 3)) (ht : (pc : Int) + off = (tgt : Int)) (hq : pc + 3 = pc') (kt : 0 ≤ x → lc_J S X n k j Q tgt lo st M) (kf : ¬ 0 ≤ x → lc_J S X n k j Q pc' lo st M) : lc_J S X n k j Q pc lo (.int x :: st) M := by
  subst hq
  exact fun H locs ls hG h => lv_if_ge C.1 C.2.1 d ht (fun z => kt z H locs ls hG h) (fun z => kf z H locs ls hG h)
theorem lc_icmp_ge (C : lc_C X cc own n rt rm) {x y : Int32} {off : Int} {tgt : Nat} (d : decode cc pc = .ok (.if_icmp .ge off, 3)) (ht : (pc : Int) + off = (tgt : Int)) (hq : pc + 3 = pc') (kt : y ≤ x → lc_J S X n k j Q tgt lo st M) (kf : ¬ y ≤ x → lc_J S X n k j Q pc' lo st M) : lc_J S X n k j Q pc lo (.int y :: .int x :: st) M := by
  subst hq
  exact fun H locs ls hG h => lv_icmp_ge C.1 C.2.1 d ht (fun z => kt z H locs ls hG h) (fun z => kf z H locs ls hG h)
theorem lc_if_gt (C : lc_C X cc own n rt rm) {x : Int32} {off : Int} {tgt : Nat} (d : decode cc pc = .ok (.ifCond .gt off, 3)) (ht : (pc : Int) + off = (tgt : Int)) (hq : pc + 3 = pc') (kt : 0 < x → lc_J S X n k j Q tgt lo st M) (kf : ¬ 0 < x → lc_J S X n k j Q pc' lo st M) : lc_J S X n k j Q pc lo (.int x :: st) M := by
  subst hq
  exact fun H locs ls hG h => lv_if_gt C.1 C.2.1 d ht (fun z => kt z H locs ls hG h) (fun z => kf z H locs ls hG h)
theorem lc_icmp_gt (C : lc_C X cc own n rt rm) {x y : Int32} {off : Int} {tgt : Nat} (d : decode cc pc = .ok (.if_icmp .gt off, 3)) (ht : (pc : Int) + off = (tgt : Int)) (hq : pc + 3 = pc') (kt : y < x → lc_J S X n k j Q tgt lo st M) (kf : ¬ y < x → lc_J S X n k j Q pc' lo st M) : lc_J S X n k j Q pc lo (.int y :: .int x :: st) M := by
  subst hq
  exact fun H locs ls hG h => lv_icmp_gt C.1 C.2.1 d ht (fun z => kt z H locs ls hG h) (fun z => kf z H locs ls hG h)
theorem lc_if_le (C : lc_C X cc own n rt rm) {x : Int32} {off : Int} {tgt : Nat} (d : decode cc pc = .ok (.ifCond .le off, 3)) (ht : (pc : Int) + off = (tgt : Int)) (hq : pc + 3 = pc') (kt : x ≤ 0 → lc_J S X n k j Q tgt lo st M) (kf : ¬ x ≤ 0 → lc_J S X n k j Q pc' lo st M) : lc_J S X n k j Q pc lo (.int x :: st) M := by
  subst hq
  exact fun H locs ls hG h => lv_if_le C.1 C.2.1 d ht (fun z => kt z H locs ls hG h) (fun z => kf z H locs ls hG h)
theorem lc_icmp_le (C : lc_C X cc own n rt rm) {x y : Int32} {off : Int} {tgt : Nat} (d : decode cc pc = .ok (.if_icmp .le off, 3)) (ht : (pc : Int) + off = (tgt : Int)) (hq : pc + 3 = pc') (kt : x ≤ y → lc_J S X n k j Q tgt lo st M) (kf : ¬ x ≤ y → lc_J S X n k j Q pc' lo st M) : lc_J S X n k j Q pc lo (.int y :: .int x :: st) M := by
  subst hq
  exact fun H locs ls hG h => lv_icmp_le C.1 C.2.1 d ht (fun z => kt z H locs ls hG h) (fun z => kf z H locs ls hG h)
theorem lc_goto (C : lc_C X cc own n rt rm) {off : Int} {tgt : Nat} (d : decode cc pc = .ok (.goto off, 3)) (ht : (pc : Int) + off = (tgt : Int)) (kk : lc_J S X n k j Q tgt lo st M) : lc_J S X n k j Q pc lo st M := fun H locs ls hG h => lv_goto C.1 C.2.1 d ht (kk H locs ls hG h)
theorem lc_tabOut (C : lc_C X cc own n rt rm) {df lw hi : Int} {offs : Array Int} {len : Nat} {x : Int32} {tgt : Nat} (d : decode cc pc = .ok (.tableswitch df lw hi offs, len)) (hx : x.toInt < lw ∨ hi < x.toInt) (ht : (pc : Int) + df = (tgt : Int)) (kk : lc_J S X n k j Q tgt lo st M) : lc_J S X n k j Q pc lo (.int x :: st) M := fun H locs ls hG h => lv_tableOut C.1 C.2.1 d hx ht (kk H locs ls hG h)
theorem lc_tabIn (C : lc_C X cc own n rt rm) {df lw hi off : Int} {offs : Array Int} {len : Nat} {x : Int32} {tgt : Nat} (d : decode cc pc = .ok (.tableswitch df lw hi offs, len)) (z : Int) (hx : x.toInt = z) (h1 : ¬ z < lw) (h2 : ¬ hi < z) (ho : offs[(z - lw).toNat]? = some off) (ht : (pc : Int) + off = (tgt : Int)) (kk : lc_J S X n k j Q tgt lo st M) : lc_J S X n k j Q pc lo (.int x :: st) M := by
  subst hx
  exact fun H locs ls hG h => lv_tableIn C.1 C.2.1 d h1 h2 ho ht (kk H locs ls hG h)
theorem lc_un_b {k0 : Nat} (h : k0 < 19) : lc_un (10 * k0) = k0 := by unfold lc_un; rw [if_pos (by omega)]; omega
theorem lc_ro_b {k0 : Nat} (h : k0 < 19) : lc_ro (10 * k0) = 0 := by unfold lc_ro; rw [if_pos (by omega)]; omega
theorem lc_un_a {k0 r : Nat} (h : k0 < 19) (hr : r < 10) : lc_un (10 * k0 + r) = k0 := by unfold lc_un; rw [if_pos (by omega)]; omega
theorem lc_ro_a {k0 r : Nat} (h : k0 < 19) (hr : r < 10) : lc_ro (10 * k0 + r) = r := by unfold lc_ro; rw [if_pos (by omega)]; omega
theorem lc_el_b (S : lc_Se) {k0 : Nat} (h : k0 < 19) (g : Nat → Int32) : lc_el S (10 * k0) g = .inr (0, lc_bo S (10 * k0) g) := by unfold lc_el; rw [if_pos (by omega), if_pos (by omega)]
theorem lc_el_a (S : lc_Se) {k0 r : Nat} (h : k0 < 19) (h1 : 1 ≤ r) (h2 : r < 10) (g : Nat → Int32) : lc_el S (10 * k0 + r) g = .inl (lc_cl S 1, lc_bl r, .inl g) := by unfold lc_el; rw [if_pos (by omega), if_neg (by omega), show (10 * k0 + r) % 10 = r by omega]
theorem lc_at_b (S : lc_Se) (M : lc_MM) {k0 : Nat} (h : k0 < 19) : (lc_w S M)[10 * k0]? = some (lc_ad S (10 * k0), .inr (0, lc_bo S (10 * k0) (M k0 0))) := by
  rw [lc_w_at S M (by omega), lc_el_b S h, lc_un_b h, lc_ro_b h]
theorem lc_at_a (S : lc_Se) (M : lc_MM) {k0 r : Nat} (h : k0 < 19) (h1 : 1 ≤ r) (h2 : r < 10) : (lc_w S M)[10 * k0 + r]? = some (lc_ad S (10 * k0 + r), .inl (lc_cl S 1, lc_bl r, .inl (M k0 r))) := by
  rw [lc_w_at S M (by omega), lc_el_a S h h1 h2, lc_un_a h h2, lc_ro_a h h2]
theorem lc_st_b (S : lc_Se) (M : lc_MM) {k0 i : Nat} {v : Int32} (h : k0 < 19) : (lc_w S M).set (10 * k0) (lc_ad S (10 * k0), .inr (0, lc_bo S (10 * k0) (upd (M k0 0) i v))) = lc_w S (lc_ms M k0 0 i v) := by
  have e := lc_w_set S M (id := 10 * k0) (i := i) (v := v) (by omega)
  rw [lc_el_b S h, lc_un_b h, lc_ro_b h] at e
  exact e
theorem lc_st_a (S : lc_Se) (M : lc_MM) {k0 r i : Nat} {v : Int32} (h : k0 < 19) (h1 : 1 ≤ r) (h2 : r < 10) : (lc_w S M).set (10 * k0 + r) (lc_ad S (10 * k0 + r), .inl (lc_cl S 1, lc_bl r, .inl (upd (M k0 r) i v))) = lc_w S (lc_ms M k0 r i v) := by
  have e := lc_w_set S M (id := 10 * k0 + r) (i := i) (v := v) (by omega)
  rw [lc_el_a S h h1 h2, lc_un_a h h2, lc_ro_a h h2] at e
  exact e
theorem lc_st_g (S : lc_Se) (M : lc_MM) {k0 r : Nat} (g : Nat → Int32) (h : k0 < 19) (h1 : 1 ≤ r) (h2 : r < 10) : (lc_w S M).set (10 * k0 + r) (lc_ad S (10 * k0 + r), .inl (lc_cl S 1, lc_bl r, .inl g)) = lc_w S (lc_mg M k0 r g) := by
  have e := lc_w_setg S M (id := 10 * k0 + r) g (by omega)
  rw [lc_el_a S h h1 h2, lc_un_a h h2, lc_ro_a h h2] at e
  exact e
theorem lc_in2 {α : Type} (M : Nat → α) {a b : Nat} (x y : α) (h : a ≠ b) : va_up (va_up M a x) b y a = x := by
  rw [lc_up_off _ _ h, lc_up_at]
theorem lc_in2s {α : Type} (M : Nat → α) {a b : Nat} (x y x' : α) (h : a ≠ b) : va_up (va_up (va_up M a x) b y) a x' = va_up (va_up M a x') b y := by
  rw [lc_up_swap (va_up M a x) y x' h, lc_up_up]
theorem lc_uF {α : Type} {f : Nat → α} {a b : Nat} : (if a = b then f a else f b) = f b := by
  split <;> simp_all
theorem lc_iX0 : ∀ w ∈ u_ws RX0 TX0 18, w ∈ lc_T := fun w hw => List.mem_filter.mpr ⟨(show ∀ w ∈ u_ws RX0 TX0 18, w ∈ lw_tbl by decide +kernel) w hw, (show ∀ w ∈ u_ws RX0 TX0 18, goodWord w = true by decide +kernel) w hw⟩
theorem lc_iX1 : ∀ w ∈ u_ws RX1 TX1 3, w ∈ lc_T := fun w hw => List.mem_filter.mpr ⟨(show ∀ w ∈ u_ws RX1 TX1 3, w ∈ lw_tbl by decide +kernel) w hw, (show ∀ w ∈ u_ws RX1 TX1 3, goodWord w = true by decide +kernel) w hw⟩
theorem lc_iX2 : ∀ w ∈ u_ws RX2 TX2 3, w ∈ lc_T := fun w hw => List.mem_filter.mpr ⟨(show ∀ w ∈ u_ws RX2 TX2 3, w ∈ lw_tbl by decide +kernel) w hw, (show ∀ w ∈ u_ws RX2 TX2 3, goodWord w = true by decide +kernel) w hw⟩
theorem lc_iX3 : ∀ w ∈ u_ws RX3 TX3 7, w ∈ lc_T := fun w hw => List.mem_filter.mpr ⟨(show ∀ w ∈ u_ws RX3 TX3 7, w ∈ lw_tbl by decide +kernel) w hw, (show ∀ w ∈ u_ws RX3 TX3 7, goodWord w = true by decide +kernel) w hw⟩
theorem lc_bg0 (C : lc_C X cc own n rt rm) {ix k0 : Nat} {s : lc_St} (hk : k0 < 19) (hs : M k0 = s) (d : decode cc pc = .ok (.getfield ix, 3)) (hw : Cond.fieldLink own ix RX0 "cellCount" "I" ∈ lc_T) (hq : pc + 3 = pc') (kk : lc_J S X n k j Q pc' lo (.int (s 0 0) :: st) M) : lc_J S X n k j Q pc lo (.ref (lc_ad S (10 * k0)) :: st) M := by
  subst hq; subst hs
  exact fun H locs ls hG h => va_get C.1 C.2.1 C.2.2.2.2.1 lc_iX0 C.2.2.2.1 hG.1 hG.2.1 (10 * k0) (lc_at_b S M hk) rfl 9 (by decide) (C.2.2.2.2.1 _ hw) (fun _ h9 => h9) rfl d (kk H locs ls hG h)
theorem lc_bp0 (C : lc_C X cc own n rt rm) {ix k0 : Nat} {v : Int32} {s s' : lc_St} (hk : k0 < 19) (hs : M k0 = s) (hs' : lc_ss s 0 0 v = s') (hM : va_up M k0 s' = M') (d : decode cc pc = .ok (.putfield ix, 3)) (hw : Cond.fieldLink own ix RX0 "cellCount" "I" ∈ lc_T) (hq : pc + 3 = pc') (kk : lc_J S X n k j Q pc' lo st M') : lc_J S X n k j Q pc lo (.int v :: .ref (lc_ad S (10 * k0)) :: st) M := by
  subst hq; subst hs; subst hs'; subst hM
  exact fun H locs ls hG h => va_put (v := .int v) C.1 C.2.1 C.2.2.2.2.1 lc_iX0 tyX0 tyX0_ok nmX0 C.2.2.2.1 hG.1 hG.2.1 hG.2.2.1 hG.2.2.2.1 (10 * k0) (lc_at_b S M hk) rfl 9 (by decide) (C.2.2.2.2.1 _ hw) (fun _ h9 => h9) rfl (tyX0_ok 9 (by decide)) rfl rfl (Nat.le_of_ble_eq_true rfl) d (fun H1 l1 p1 p2 p3 => kk H1 l1 ls ⟨hG.1, lc_st_b S M (i := 0) (v := v) hk ▸ p1, lc_st_b S M (i := 0) (v := v) hk ▸ p2, p3, hG.2.2.2.2⟩ h)
theorem lc_bg1 (C : lc_C X cc own n rt rm) {ix k0 : Nat} {s : lc_St} (hk : k0 < 19) (hs : M k0 = s) (d : decode cc pc = .ok (.getfield ix, 3)) (hw : Cond.fieldLink own ix RX0 "loanCount" "I" ∈ lc_T) (hq : pc + 3 = pc') (kk : lc_J S X n k j Q pc' lo (.int (s 0 1) :: st) M) : lc_J S X n k j Q pc lo (.ref (lc_ad S (10 * k0)) :: st) M := by
  subst hq; subst hs
  exact fun H locs ls hG h => va_get C.1 C.2.1 C.2.2.2.2.1 lc_iX0 C.2.2.2.1 hG.1 hG.2.1 (10 * k0) (lc_at_b S M hk) rfl 10 (by decide) (C.2.2.2.2.1 _ hw) (fun _ h9 => h9) rfl d (kk H locs ls hG h)
theorem lc_bp1 (C : lc_C X cc own n rt rm) {ix k0 : Nat} {v : Int32} {s s' : lc_St} (hk : k0 < 19) (hs : M k0 = s) (hs' : lc_ss s 0 1 v = s') (hM : va_up M k0 s' = M') (d : decode cc pc = .ok (.putfield ix, 3)) (hw : Cond.fieldLink own ix RX0 "loanCount" "I" ∈ lc_T) (hq : pc + 3 = pc') (kk : lc_J S X n k j Q pc' lo st M') : lc_J S X n k j Q pc lo (.int v :: .ref (lc_ad S (10 * k0)) :: st) M := by
  subst hq; subst hs; subst hs'; subst hM
  exact fun H locs ls hG h => va_put (v := .int v) C.1 C.2.1 C.2.2.2.2.1 lc_iX0 tyX0 tyX0_ok nmX0 C.2.2.2.1 hG.1 hG.2.1 hG.2.2.1 hG.2.2.2.1 (10 * k0) (lc_at_b S M hk) rfl 10 (by decide) (C.2.2.2.2.1 _ hw) (fun _ h9 => h9) rfl (tyX0_ok 10 (by decide)) rfl rfl (Nat.le_of_ble_eq_true rfl) d (fun H1 l1 p1 p2 p3 => kk H1 l1 ls ⟨hG.1, lc_st_b S M (i := 1) (v := v) hk ▸ p1, lc_st_b S M (i := 1) (v := v) hk ▸ p2, p3, hG.2.2.2.2⟩ h)
theorem lc_bg2 (C : lc_C X cc own n rt rm) {ix k0 : Nat} {s : lc_St} (hk : k0 < 19) (hs : M k0 = s) (d : decode cc pc = .ok (.getfield ix, 3)) (hw : Cond.fieldLink own ix RX0 "rounds" "I" ∈ lc_T) (hq : pc + 3 = pc') (kk : lc_J S X n k j Q pc' lo (.int (s 0 2) :: st) M) : lc_J S X n k j Q pc lo (.ref (lc_ad S (10 * k0)) :: st) M := by
  subst hq; subst hs
  exact fun H locs ls hG h => va_get C.1 C.2.1 C.2.2.2.2.1 lc_iX0 C.2.2.2.1 hG.1 hG.2.1 (10 * k0) (lc_at_b S M hk) rfl 11 (by decide) (C.2.2.2.2.1 _ hw) (fun _ h9 => h9) rfl d (kk H locs ls hG h)
theorem lc_bp2 (C : lc_C X cc own n rt rm) {ix k0 : Nat} {v : Int32} {s s' : lc_St} (hk : k0 < 19) (hs : M k0 = s) (hs' : lc_ss s 0 2 v = s') (hM : va_up M k0 s' = M') (d : decode cc pc = .ok (.putfield ix, 3)) (hw : Cond.fieldLink own ix RX0 "rounds" "I" ∈ lc_T) (hq : pc + 3 = pc') (kk : lc_J S X n k j Q pc' lo st M') : lc_J S X n k j Q pc lo (.int v :: .ref (lc_ad S (10 * k0)) :: st) M := by
  subst hq; subst hs; subst hs'; subst hM
  exact fun H locs ls hG h => va_put (v := .int v) C.1 C.2.1 C.2.2.2.2.1 lc_iX0 tyX0 tyX0_ok nmX0 C.2.2.2.1 hG.1 hG.2.1 hG.2.2.1 hG.2.2.2.1 (10 * k0) (lc_at_b S M hk) rfl 11 (by decide) (C.2.2.2.2.1 _ hw) (fun _ h9 => h9) rfl (tyX0_ok 11 (by decide)) rfl rfl (Nat.le_of_ble_eq_true rfl) d (fun H1 l1 p1 p2 p3 => kk H1 l1 ls ⟨hG.1, lc_st_b S M (i := 2) (v := v) hk ▸ p1, lc_st_b S M (i := 2) (v := v) hk ▸ p2, p3, hG.2.2.2.2⟩ h)
theorem lc_bg3 (C : lc_C X cc own n rt rm) {ix k0 : Nat} {s : lc_St} (hk : k0 < 19) (hs : M k0 = s) (d : decode cc pc = .ok (.getfield ix, 3)) (hw : Cond.fieldLink own ix RX0 "putIn" "I" ∈ lc_T) (hq : pc + 3 = pc') (kk : lc_J S X n k j Q pc' lo (.int (s 0 3) :: st) M) : lc_J S X n k j Q pc lo (.ref (lc_ad S (10 * k0)) :: st) M := by
  subst hq; subst hs
  exact fun H locs ls hG h => va_get C.1 C.2.1 C.2.2.2.2.1 lc_iX0 C.2.2.2.1 hG.1 hG.2.1 (10 * k0) (lc_at_b S M hk) rfl 12 (by decide) (C.2.2.2.2.1 _ hw) (fun _ h9 => h9) rfl d (kk H locs ls hG h)
theorem lc_bp3 (C : lc_C X cc own n rt rm) {ix k0 : Nat} {v : Int32} {s s' : lc_St} (hk : k0 < 19) (hs : M k0 = s) (hs' : lc_ss s 0 3 v = s') (hM : va_up M k0 s' = M') (d : decode cc pc = .ok (.putfield ix, 3)) (hw : Cond.fieldLink own ix RX0 "putIn" "I" ∈ lc_T) (hq : pc + 3 = pc') (kk : lc_J S X n k j Q pc' lo st M') : lc_J S X n k j Q pc lo (.int v :: .ref (lc_ad S (10 * k0)) :: st) M := by
  subst hq; subst hs; subst hs'; subst hM
  exact fun H locs ls hG h => va_put (v := .int v) C.1 C.2.1 C.2.2.2.2.1 lc_iX0 tyX0 tyX0_ok nmX0 C.2.2.2.1 hG.1 hG.2.1 hG.2.2.1 hG.2.2.2.1 (10 * k0) (lc_at_b S M hk) rfl 12 (by decide) (C.2.2.2.2.1 _ hw) (fun _ h9 => h9) rfl (tyX0_ok 12 (by decide)) rfl rfl (Nat.le_of_ble_eq_true rfl) d (fun H1 l1 p1 p2 p3 => kk H1 l1 ls ⟨hG.1, lc_st_b S M (i := 3) (v := v) hk ▸ p1, lc_st_b S M (i := 3) (v := v) hk ▸ p2, p3, hG.2.2.2.2⟩ h)
theorem lc_bg4 (C : lc_C X cc own n rt rm) {ix k0 : Nat} {s : lc_St} (hk : k0 < 19) (hs : M k0 = s) (d : decode cc pc = .ok (.getfield ix, 3)) (hw : Cond.fieldLink own ix RX0 "used" "I" ∈ lc_T) (hq : pc + 3 = pc') (kk : lc_J S X n k j Q pc' lo (.int (s 0 4) :: st) M) : lc_J S X n k j Q pc lo (.ref (lc_ad S (10 * k0)) :: st) M := by
  subst hq; subst hs
  exact fun H locs ls hG h => va_get C.1 C.2.1 C.2.2.2.2.1 lc_iX0 C.2.2.2.1 hG.1 hG.2.1 (10 * k0) (lc_at_b S M hk) rfl 13 (by decide) (C.2.2.2.2.1 _ hw) (fun _ h9 => h9) rfl d (kk H locs ls hG h)
theorem lc_bp4 (C : lc_C X cc own n rt rm) {ix k0 : Nat} {v : Int32} {s s' : lc_St} (hk : k0 < 19) (hs : M k0 = s) (hs' : lc_ss s 0 4 v = s') (hM : va_up M k0 s' = M') (d : decode cc pc = .ok (.putfield ix, 3)) (hw : Cond.fieldLink own ix RX0 "used" "I" ∈ lc_T) (hq : pc + 3 = pc') (kk : lc_J S X n k j Q pc' lo st M') : lc_J S X n k j Q pc lo (.int v :: .ref (lc_ad S (10 * k0)) :: st) M := by
  subst hq; subst hs; subst hs'; subst hM
  exact fun H locs ls hG h => va_put (v := .int v) C.1 C.2.1 C.2.2.2.2.1 lc_iX0 tyX0 tyX0_ok nmX0 C.2.2.2.1 hG.1 hG.2.1 hG.2.2.1 hG.2.2.2.1 (10 * k0) (lc_at_b S M hk) rfl 13 (by decide) (C.2.2.2.2.1 _ hw) (fun _ h9 => h9) rfl (tyX0_ok 13 (by decide)) rfl rfl (Nat.le_of_ble_eq_true rfl) d (fun H1 l1 p1 p2 p3 => kk H1 l1 ls ⟨hG.1, lc_st_b S M (i := 4) (v := v) hk ▸ p1, lc_st_b S M (i := 4) (v := v) hk ▸ p2, p3, hG.2.2.2.2⟩ h)
theorem lc_bg5 (C : lc_C X cc own n rt rm) {ix k0 : Nat} {s : lc_St} (hk : k0 < 19) (hs : M k0 = s) (d : decode cc pc = .ok (.getfield ix, 3)) (hw : Cond.fieldLink own ix RX0 "heat" "I" ∈ lc_T) (hq : pc + 3 = pc') (kk : lc_J S X n k j Q pc' lo (.int (s 0 5) :: st) M) : lc_J S X n k j Q pc lo (.ref (lc_ad S (10 * k0)) :: st) M := by
  subst hq; subst hs
  exact fun H locs ls hG h => va_get C.1 C.2.1 C.2.2.2.2.1 lc_iX0 C.2.2.2.1 hG.1 hG.2.1 (10 * k0) (lc_at_b S M hk) rfl 14 (by decide) (C.2.2.2.2.1 _ hw) (fun _ h9 => h9) rfl d (kk H locs ls hG h)
theorem lc_bp5 (C : lc_C X cc own n rt rm) {ix k0 : Nat} {v : Int32} {s s' : lc_St} (hk : k0 < 19) (hs : M k0 = s) (hs' : lc_ss s 0 5 v = s') (hM : va_up M k0 s' = M') (d : decode cc pc = .ok (.putfield ix, 3)) (hw : Cond.fieldLink own ix RX0 "heat" "I" ∈ lc_T) (hq : pc + 3 = pc') (kk : lc_J S X n k j Q pc' lo st M') : lc_J S X n k j Q pc lo (.int v :: .ref (lc_ad S (10 * k0)) :: st) M := by
  subst hq; subst hs; subst hs'; subst hM
  exact fun H locs ls hG h => va_put (v := .int v) C.1 C.2.1 C.2.2.2.2.1 lc_iX0 tyX0 tyX0_ok nmX0 C.2.2.2.1 hG.1 hG.2.1 hG.2.2.1 hG.2.2.2.1 (10 * k0) (lc_at_b S M hk) rfl 14 (by decide) (C.2.2.2.2.1 _ hw) (fun _ h9 => h9) rfl (tyX0_ok 14 (by decide)) rfl rfl (Nat.le_of_ble_eq_true rfl) d (fun H1 l1 p1 p2 p3 => kk H1 l1 ls ⟨hG.1, lc_st_b S M (i := 5) (v := v) hk ▸ p1, lc_st_b S M (i := 5) (v := v) hk ▸ p2, p3, hG.2.2.2.2⟩ h)
theorem lc_bg6 (C : lc_C X cc own n rt rm) {ix k0 : Nat} {s : lc_St} (hk : k0 < 19) (hs : M k0 = s) (d : decode cc pc = .ok (.getfield ix, 3)) (hw : Cond.fieldLink own ix RX0 "writtenOff" "I" ∈ lc_T) (hq : pc + 3 = pc') (kk : lc_J S X n k j Q pc' lo (.int (s 0 6) :: st) M) : lc_J S X n k j Q pc lo (.ref (lc_ad S (10 * k0)) :: st) M := by
  subst hq; subst hs
  exact fun H locs ls hG h => va_get C.1 C.2.1 C.2.2.2.2.1 lc_iX0 C.2.2.2.1 hG.1 hG.2.1 (10 * k0) (lc_at_b S M hk) rfl 15 (by decide) (C.2.2.2.2.1 _ hw) (fun _ h9 => h9) rfl d (kk H locs ls hG h)
theorem lc_bp6 (C : lc_C X cc own n rt rm) {ix k0 : Nat} {v : Int32} {s s' : lc_St} (hk : k0 < 19) (hs : M k0 = s) (hs' : lc_ss s 0 6 v = s') (hM : va_up M k0 s' = M') (d : decode cc pc = .ok (.putfield ix, 3)) (hw : Cond.fieldLink own ix RX0 "writtenOff" "I" ∈ lc_T) (hq : pc + 3 = pc') (kk : lc_J S X n k j Q pc' lo st M') : lc_J S X n k j Q pc lo (.int v :: .ref (lc_ad S (10 * k0)) :: st) M := by
  subst hq; subst hs; subst hs'; subst hM
  exact fun H locs ls hG h => va_put (v := .int v) C.1 C.2.1 C.2.2.2.2.1 lc_iX0 tyX0 tyX0_ok nmX0 C.2.2.2.1 hG.1 hG.2.1 hG.2.2.1 hG.2.2.2.1 (10 * k0) (lc_at_b S M hk) rfl 15 (by decide) (C.2.2.2.2.1 _ hw) (fun _ h9 => h9) rfl (tyX0_ok 15 (by decide)) rfl rfl (Nat.le_of_ble_eq_true rfl) d (fun H1 l1 p1 p2 p3 => kk H1 l1 ls ⟨hG.1, lc_st_b S M (i := 6) (v := v) hk ▸ p1, lc_st_b S M (i := 6) (v := v) hk ▸ p2, p3, hG.2.2.2.2⟩ h)
theorem lc_bg7 (C : lc_C X cc own n rt rm) {ix k0 : Nat} {s : lc_St} (hk : k0 < 19) (hs : M k0 = s) (d : decode cc pc = .ok (.getfield ix, 3)) (hw : Cond.fieldLink own ix RX0 "watchedLoan" "I" ∈ lc_T) (hq : pc + 3 = pc') (kk : lc_J S X n k j Q pc' lo (.int (s 0 7) :: st) M) : lc_J S X n k j Q pc lo (.ref (lc_ad S (10 * k0)) :: st) M := by
  subst hq; subst hs
  exact fun H locs ls hG h => va_get C.1 C.2.1 C.2.2.2.2.1 lc_iX0 C.2.2.2.1 hG.1 hG.2.1 (10 * k0) (lc_at_b S M hk) rfl 16 (by decide) (C.2.2.2.2.1 _ hw) (fun _ h9 => h9) rfl d (kk H locs ls hG h)
theorem lc_bp7 (C : lc_C X cc own n rt rm) {ix k0 : Nat} {v : Int32} {s s' : lc_St} (hk : k0 < 19) (hs : M k0 = s) (hs' : lc_ss s 0 7 v = s') (hM : va_up M k0 s' = M') (d : decode cc pc = .ok (.putfield ix, 3)) (hw : Cond.fieldLink own ix RX0 "watchedLoan" "I" ∈ lc_T) (hq : pc + 3 = pc') (kk : lc_J S X n k j Q pc' lo st M') : lc_J S X n k j Q pc lo (.int v :: .ref (lc_ad S (10 * k0)) :: st) M := by
  subst hq; subst hs; subst hs'; subst hM
  exact fun H locs ls hG h => va_put (v := .int v) C.1 C.2.1 C.2.2.2.2.1 lc_iX0 tyX0 tyX0_ok nmX0 C.2.2.2.1 hG.1 hG.2.1 hG.2.2.1 hG.2.2.2.1 (10 * k0) (lc_at_b S M hk) rfl 16 (by decide) (C.2.2.2.2.1 _ hw) (fun _ h9 => h9) rfl (tyX0_ok 16 (by decide)) rfl rfl (Nat.le_of_ble_eq_true rfl) d (fun H1 l1 p1 p2 p3 => kk H1 l1 ls ⟨hG.1, lc_st_b S M (i := 7) (v := v) hk ▸ p1, lc_st_b S M (i := 7) (v := v) hk ▸ p2, p3, hG.2.2.2.2⟩ h)
theorem lc_bg8 (C : lc_C X cc own n rt rm) {ix k0 : Nat} {s : lc_St} (hk : k0 < 19) (hs : M k0 = s) (d : decode cc pc = .ok (.getfield ix, 3)) (hw : Cond.fieldLink own ix RX0 "watchedBurn" "I" ∈ lc_T) (hq : pc + 3 = pc') (kk : lc_J S X n k j Q pc' lo (.int (s 0 8) :: st) M) : lc_J S X n k j Q pc lo (.ref (lc_ad S (10 * k0)) :: st) M := by
  subst hq; subst hs
  exact fun H locs ls hG h => va_get C.1 C.2.1 C.2.2.2.2.1 lc_iX0 C.2.2.2.1 hG.1 hG.2.1 (10 * k0) (lc_at_b S M hk) rfl 17 (by decide) (C.2.2.2.2.1 _ hw) (fun _ h9 => h9) rfl d (kk H locs ls hG h)
theorem lc_bp8 (C : lc_C X cc own n rt rm) {ix k0 : Nat} {v : Int32} {s s' : lc_St} (hk : k0 < 19) (hs : M k0 = s) (hs' : lc_ss s 0 8 v = s') (hM : va_up M k0 s' = M') (d : decode cc pc = .ok (.putfield ix, 3)) (hw : Cond.fieldLink own ix RX0 "watchedBurn" "I" ∈ lc_T) (hq : pc + 3 = pc') (kk : lc_J S X n k j Q pc' lo st M') : lc_J S X n k j Q pc lo (.int v :: .ref (lc_ad S (10 * k0)) :: st) M := by
  subst hq; subst hs; subst hs'; subst hM
  exact fun H locs ls hG h => va_put (v := .int v) C.1 C.2.1 C.2.2.2.2.1 lc_iX0 tyX0 tyX0_ok nmX0 C.2.2.2.1 hG.1 hG.2.1 hG.2.2.1 hG.2.2.2.1 (10 * k0) (lc_at_b S M hk) rfl 17 (by decide) (C.2.2.2.2.1 _ hw) (fun _ h9 => h9) rfl (tyX0_ok 17 (by decide)) rfl rfl (Nat.le_of_ble_eq_true rfl) d (fun H1 l1 p1 p2 p3 => kk H1 l1 ls ⟨hG.1, lc_st_b S M (i := 8) (v := v) hk ▸ p1, lc_st_b S M (i := 8) (v := v) hk ▸ p2, p3, hG.2.2.2.2⟩ h)
theorem lc_br0 (C : lc_C X cc own n rt rm) {ix k0 : Nat} (hk : k0 < 19) (d : decode cc pc = .ok (.getfield ix, 3)) (hw : Cond.fieldLink own ix RX0 "capacities" "[I" ∈ lc_T) (hq : pc + 3 = pc') (kk : lc_J S X n k j Q pc' lo (.ref (lc_ad S (10 * k0 + 1)) :: st) M) : lc_J S X n k j Q pc lo (.ref (lc_ad S (10 * k0)) :: st) M := by
  subst hq
  exact fun H locs ls hG h => va_get C.1 C.2.1 C.2.2.2.2.1 lc_iX0 C.2.2.2.1 hG.1 hG.2.1 (10 * k0) (lc_at_b S M hk) rfl 0 (by decide) (C.2.2.2.2.1 _ hw) (fun _ h9 => h9) rfl d (kk H locs ls hG h)
theorem lc_br1 (C : lc_C X cc own n rt rm) {ix k0 : Nat} (hk : k0 < 19) (d : decode cc pc = .ok (.getfield ix, 3)) (hw : Cond.fieldLink own ix RX0 "charges" "[I" ∈ lc_T) (hq : pc + 3 = pc') (kk : lc_J S X n k j Q pc' lo (.ref (lc_ad S (10 * k0 + 2)) :: st) M) : lc_J S X n k j Q pc lo (.ref (lc_ad S (10 * k0)) :: st) M := by
  subst hq
  exact fun H locs ls hG h => va_get C.1 C.2.1 C.2.2.2.2.1 lc_iX0 C.2.2.2.1 hG.1 hG.2.1 (10 * k0) (lc_at_b S M hk) rfl 1 (by decide) (C.2.2.2.2.1 _ hw) (fun _ h9 => h9) rfl d (kk H locs ls hG h)
theorem lc_br2 (C : lc_C X cc own n rt rm) {ix k0 : Nat} (hk : k0 < 19) (d : decode cc pc = .ok (.getfield ix, 3)) (hw : Cond.fieldLink own ix RX0 "leaks" "[I" ∈ lc_T) (hq : pc + 3 = pc') (kk : lc_J S X n k j Q pc' lo (.ref (lc_ad S (10 * k0 + 3)) :: st) M) : lc_J S X n k j Q pc lo (.ref (lc_ad S (10 * k0)) :: st) M := by
  subst hq
  exact fun H locs ls hG h => va_get C.1 C.2.1 C.2.2.2.2.1 lc_iX0 C.2.2.2.1 hG.1 hG.2.1 (10 * k0) (lc_at_b S M hk) rfl 2 (by decide) (C.2.2.2.2.1 _ hw) (fun _ h9 => h9) rfl d (kk H locs ls hG h)
theorem lc_br3 (C : lc_C X cc own n rt rm) {ix k0 : Nat} (hk : k0 < 19) (d : decode cc pc = .ok (.getfield ix, 3)) (hw : Cond.fieldLink own ix RX0 "lateRounds" "[I" ∈ lc_T) (hq : pc + 3 = pc') (kk : lc_J S X n k j Q pc' lo (.ref (lc_ad S (10 * k0 + 4)) :: st) M) : lc_J S X n k j Q pc lo (.ref (lc_ad S (10 * k0)) :: st) M := by
  subst hq
  exact fun H locs ls hG h => va_get C.1 C.2.1 C.2.2.2.2.1 lc_iX0 C.2.2.2.1 hG.1 hG.2.1 (10 * k0) (lc_at_b S M hk) rfl 3 (by decide) (C.2.2.2.2.1 _ hw) (fun _ h9 => h9) rfl d (kk H locs ls hG h)
theorem lc_br4 (C : lc_C X cc own n rt rm) {ix k0 : Nat} (hk : k0 < 19) (d : decode cc pc = .ok (.getfield ix, 3)) (hw : Cond.fieldLink own ix RX0 "lenders" "[I" ∈ lc_T) (hq : pc + 3 = pc') (kk : lc_J S X n k j Q pc' lo (.ref (lc_ad S (10 * k0 + 5)) :: st) M) : lc_J S X n k j Q pc lo (.ref (lc_ad S (10 * k0)) :: st) M := by
  subst hq
  exact fun H locs ls hG h => va_get C.1 C.2.1 C.2.2.2.2.1 lc_iX0 C.2.2.2.1 hG.1 hG.2.1 (10 * k0) (lc_at_b S M hk) rfl 4 (by decide) (C.2.2.2.2.1 _ hw) (fun _ h9 => h9) rfl d (kk H locs ls hG h)
theorem lc_br5 (C : lc_C X cc own n rt rm) {ix k0 : Nat} (hk : k0 < 19) (d : decode cc pc = .ok (.getfield ix, 3)) (hw : Cond.fieldLink own ix RX0 "borrowers" "[I" ∈ lc_T) (hq : pc + 3 = pc') (kk : lc_J S X n k j Q pc' lo (.ref (lc_ad S (10 * k0 + 6)) :: st) M) : lc_J S X n k j Q pc lo (.ref (lc_ad S (10 * k0)) :: st) M := by
  subst hq
  exact fun H locs ls hG h => va_get C.1 C.2.1 C.2.2.2.2.1 lc_iX0 C.2.2.2.1 hG.1 hG.2.1 (10 * k0) (lc_at_b S M hk) rfl 5 (by decide) (C.2.2.2.2.1 _ hw) (fun _ h9 => h9) rfl d (kk H locs ls hG h)
theorem lc_br6 (C : lc_C X cc own n rt rm) {ix k0 : Nat} (hk : k0 < 19) (d : decode cc pc = .ok (.getfield ix, 3)) (hw : Cond.fieldLink own ix RX0 "owed" "[I" ∈ lc_T) (hq : pc + 3 = pc') (kk : lc_J S X n k j Q pc' lo (.ref (lc_ad S (10 * k0 + 7)) :: st) M) : lc_J S X n k j Q pc lo (.ref (lc_ad S (10 * k0)) :: st) M := by
  subst hq
  exact fun H locs ls hG h => va_get C.1 C.2.1 C.2.2.2.2.1 lc_iX0 C.2.2.2.1 hG.1 hG.2.1 (10 * k0) (lc_at_b S M hk) rfl 6 (by decide) (C.2.2.2.2.1 _ hw) (fun _ h9 => h9) rfl d (kk H locs ls hG h)
theorem lc_br7 (C : lc_C X cc own n rt rm) {ix k0 : Nat} (hk : k0 < 19) (d : decode cc pc = .ok (.getfield ix, 3)) (hw : Cond.fieldLink own ix RX0 "rates" "[I" ∈ lc_T) (hq : pc + 3 = pc') (kk : lc_J S X n k j Q pc' lo (.ref (lc_ad S (10 * k0 + 8)) :: st) M) : lc_J S X n k j Q pc lo (.ref (lc_ad S (10 * k0)) :: st) M := by
  subst hq
  exact fun H locs ls hG h => va_get C.1 C.2.1 C.2.2.2.2.1 lc_iX0 C.2.2.2.1 hG.1 hG.2.1 (10 * k0) (lc_at_b S M hk) rfl 7 (by decide) (C.2.2.2.2.1 _ hw) (fun _ h9 => h9) rfl d (kk H locs ls hG h)
theorem lc_br8 (C : lc_C X cc own n rt rm) {ix k0 : Nat} (hk : k0 < 19) (d : decode cc pc = .ok (.getfield ix, 3)) (hw : Cond.fieldLink own ix RX0 "arrived" "[I" ∈ lc_T) (hq : pc + 3 = pc') (kk : lc_J S X n k j Q pc' lo (.ref (lc_ad S (10 * k0 + 9)) :: st) M) : lc_J S X n k j Q pc lo (.ref (lc_ad S (10 * k0)) :: st) M := by
  subst hq
  exact fun H locs ls hG h => va_get C.1 C.2.1 C.2.2.2.2.1 lc_iX0 C.2.2.2.1 hG.1 hG.2.1 (10 * k0) (lc_at_b S M hk) rfl 8 (by decide) (C.2.2.2.2.1 _ hw) (fun _ h9 => h9) rfl d (kk H locs ls hG h)
theorem lc_bald (C : lc_C X cc own n rt rm) {k0 r len : Nat} {s : lc_St} {i : Int32} (hk : k0 < 19) (h1 : 1 ≤ r) (h2 : r < 10) (hs : M k0 = s) (hl : lc_bl r = len) (hi : lc_ok i len) {jj : Nat} (hj : i.toNatClampNeg = jj) (d : decode cc pc = .ok (.iaload, 1)) (hq : pc + 1 = pc') (kk : lc_J S X n k j Q pc' lo (.int (s r jj) :: st) M) : lc_J S X n k j Q pc lo (.int i :: .ref (lc_ad S (10 * k0 + r)) :: st) M := by
  subst hq; subst hs; subst hl; subst hj
  exact fun H locs ls hG h => va_iald C.1 C.2.1 hG.1 hG.2.1 (10 * k0 + r) 1 (lc_at_a S M hk h1 h2) rfl hi d (kk H locs ls hG h)
theorem lc_bast (C : lc_C X cc own n rt rm) {k0 r len : Nat} {s s' : lc_St} {i v : Int32} (hk : k0 < 19) (h1 : 1 ≤ r) (h2 : r < 10) (hs : M k0 = s) (hl : lc_bl r = len) (hi : lc_ok i len) {jj : Nat} (hj : i.toNatClampNeg = jj) (hs' : lc_ss s r jj v = s') (hM : va_up M k0 s' = M') (d : decode cc pc = .ok (.iastore, 1)) (hq : pc + 1 = pc') (kk : lc_J S X n k j Q pc' lo st M') : lc_J S X n k j Q pc lo (.int v :: .int i :: .ref (lc_ad S (10 * k0 + r)) :: st) M := by
  subst hq; subst hs; subst hl; subst hj; subst hs'; subst hM
  exact fun H locs ls hG h => va_iast C.1 C.2.1 hG.1 hG.2.1 hG.2.2.1 hG.2.2.2.1 (10 * k0 + r) 1 (lc_at_a S M hk h1 h2) rfl hi d (fun H1 l1 p1 p2 p3 => kk H1 l1 ls ⟨hG.1, lc_st_a S M (i := i.toNatClampNeg) (v := v) hk h1 h2 ▸ p1, lc_st_a S M (i := i.toNatClampNeg) (v := v) hk h1 h2 ▸ p2, p3, hG.2.2.2.2⟩ h)
theorem lc_at190 (S : lc_Se) (M : lc_MM) : (lc_w S M)[190]? = some (lc_ad S 190, .inr (2, [.ref (lc_ad S 191), .int (M 19 0 0), .int (M 19 0 1)])) := by
  rw [lc_w_at S M (by decide)]; rfl
theorem lc_g190_signs (C : lc_C X cc own n rt rm) {ix : Nat} {s : lc_St} (hs : M 19 = s) (d : decode cc pc = .ok (.getfield ix, 3)) (hw : Cond.fieldLink own ix RX2 "signs" "[C" ∈ lc_T) (hq : pc + 3 = pc') (kk : lc_J S X n k j Q pc' lo (.ref (lc_ad S 191) :: st) M) : lc_J S X n k j Q pc lo (.ref (lc_ad S 190) :: st) M := by
  subst hq; subst hs
  exact fun H locs ls hG h => va_get C.1 C.2.1 C.2.2.2.2.1 lc_iX2 C.2.2.2.1 hG.1 hG.2.1 190 (lc_at190 S M) rfl 0 (by decide) (C.2.2.2.2.1 _ hw) (fun _ h9 => h9) rfl d (kk H locs ls hG h)
theorem lc_g190_length (C : lc_C X cc own n rt rm) {ix : Nat} {s : lc_St} (hs : M 19 = s) (d : decode cc pc = .ok (.getfield ix, 3)) (hw : Cond.fieldLink own ix RX2 "length" "I" ∈ lc_T) (hq : pc + 3 = pc') (kk : lc_J S X n k j Q pc' lo (.int (s 0 0) :: st) M) : lc_J S X n k j Q pc lo (.ref (lc_ad S 190) :: st) M := by
  subst hq; subst hs
  exact fun H locs ls hG h => va_get C.1 C.2.1 C.2.2.2.2.1 lc_iX2 C.2.2.2.1 hG.1 hG.2.1 190 (lc_at190 S M) rfl 1 (by decide) (C.2.2.2.2.1 _ hw) (fun _ h9 => h9) rfl d (kk H locs ls hG h)
theorem lc_st190_length (S : lc_Se) (M : lc_MM) (v : Int32) : (lc_w S M).set 190 (lc_ad S 190, .inr (2, ([.ref (lc_ad S 191), .int (M 19 0 0), .int (M 19 0 1)] : List Value).set 1 (.int v))) = lc_w S (lc_ms M 19 0 0 v) := by
  have e := lc_w_set S M (id := 190) (i := 0) (v := v) (by decide)
  exact e
theorem lc_p190_length (C : lc_C X cc own n rt rm) {ix : Nat} {v : Int32} {s s' : lc_St} (hs : M 19 = s) (hs' : lc_ss s 0 0 v = s') (hM : va_up M 19 s' = M') (d : decode cc pc = .ok (.putfield ix, 3)) (hw : Cond.fieldLink own ix RX2 "length" "I" ∈ lc_T) (hq : pc + 3 = pc') (kk : lc_J S X n k j Q pc' lo st M') : lc_J S X n k j Q pc lo (.int v :: .ref (lc_ad S 190) :: st) M := by
  subst hq; subst hs; subst hs'; subst hM
  exact fun H locs ls hG h => va_put (v := .int v) C.1 C.2.1 C.2.2.2.2.1 lc_iX2 tyX2 tyX2_ok nmX2 C.2.2.2.1 hG.1 hG.2.1 hG.2.2.1 hG.2.2.2.1 190 (lc_at190 S M) rfl 1 (by decide) (C.2.2.2.2.1 _ hw) (fun _ h9 => h9) rfl (tyX2_ok 1 (by decide)) rfl rfl (Nat.le_of_ble_eq_true rfl) d (fun H1 l1 p1 p2 p3 => kk H1 l1 ls ⟨hG.1, lc_st190_length S M v ▸ p1, lc_st190_length S M v ▸ p2, p3, hG.2.2.2.2⟩ h)
theorem lc_g190_at (C : lc_C X cc own n rt rm) {ix : Nat} {s : lc_St} (hs : M 19 = s) (d : decode cc pc = .ok (.getfield ix, 3)) (hw : Cond.fieldLink own ix RX2 "at" "I" ∈ lc_T) (hq : pc + 3 = pc') (kk : lc_J S X n k j Q pc' lo (.int (s 0 1) :: st) M) : lc_J S X n k j Q pc lo (.ref (lc_ad S 190) :: st) M := by
  subst hq; subst hs
  exact fun H locs ls hG h => va_get C.1 C.2.1 C.2.2.2.2.1 lc_iX2 C.2.2.2.1 hG.1 hG.2.1 190 (lc_at190 S M) rfl 2 (by decide) (C.2.2.2.2.1 _ hw) (fun _ h9 => h9) rfl d (kk H locs ls hG h)
theorem lc_st190_at (S : lc_Se) (M : lc_MM) (v : Int32) : (lc_w S M).set 190 (lc_ad S 190, .inr (2, ([.ref (lc_ad S 191), .int (M 19 0 0), .int (M 19 0 1)] : List Value).set 2 (.int v))) = lc_w S (lc_ms M 19 0 1 v) := by
  have e := lc_w_set S M (id := 190) (i := 1) (v := v) (by decide)
  exact e
theorem lc_p190_at (C : lc_C X cc own n rt rm) {ix : Nat} {v : Int32} {s s' : lc_St} (hs : M 19 = s) (hs' : lc_ss s 0 1 v = s') (hM : va_up M 19 s' = M') (d : decode cc pc = .ok (.putfield ix, 3)) (hw : Cond.fieldLink own ix RX2 "at" "I" ∈ lc_T) (hq : pc + 3 = pc') (kk : lc_J S X n k j Q pc' lo st M') : lc_J S X n k j Q pc lo (.int v :: .ref (lc_ad S 190) :: st) M := by
  subst hq; subst hs; subst hs'; subst hM
  exact fun H locs ls hG h => va_put (v := .int v) C.1 C.2.1 C.2.2.2.2.1 lc_iX2 tyX2 tyX2_ok nmX2 C.2.2.2.1 hG.1 hG.2.1 hG.2.2.1 hG.2.2.2.1 190 (lc_at190 S M) rfl 2 (by decide) (C.2.2.2.2.1 _ hw) (fun _ h9 => h9) rfl (tyX2_ok 2 (by decide)) rfl rfl (Nat.le_of_ble_eq_true rfl) d (fun H1 l1 p1 p2 p3 => kk H1 l1 ls ⟨hG.1, lc_st190_at S M v ▸ p1, lc_st190_at S M v ▸ p2, p3, hG.2.2.2.2⟩ h)
theorem lc_at192 (S : lc_Se) (M : lc_MM) : (lc_w S M)[192]? = some (lc_ad S 192, .inr (1, [.ref (lc_ad S 193), .int (M 20 0 0), .int (M 20 0 1)])) := by
  rw [lc_w_at S M (by decide)]; rfl
theorem lc_g192_states (C : lc_C X cc own n rt rm) {ix : Nat} {s : lc_St} (hs : M 20 = s) (d : decode cc pc = .ok (.getfield ix, 3)) (hw : Cond.fieldLink own ix RX1 "states" "[LLendingCells$Battery;" ∈ lc_T) (hq : pc + 3 = pc') (kk : lc_J S X n k j Q pc' lo (.ref (lc_ad S 193) :: st) M) : lc_J S X n k j Q pc lo (.ref (lc_ad S 192) :: st) M := by
  subst hq; subst hs
  exact fun H locs ls hG h => va_get C.1 C.2.1 C.2.2.2.2.1 lc_iX1 C.2.2.2.1 hG.1 hG.2.1 192 (lc_at192 S M) rfl 0 (by decide) (C.2.2.2.2.1 _ hw) (fun _ h9 => h9) rfl d (kk H locs ls hG h)
theorem lc_g192_first (C : lc_C X cc own n rt rm) {ix : Nat} {s : lc_St} (hs : M 20 = s) (d : decode cc pc = .ok (.getfield ix, 3)) (hw : Cond.fieldLink own ix RX1 "first" "I" ∈ lc_T) (hq : pc + 3 = pc') (kk : lc_J S X n k j Q pc' lo (.int (s 0 0) :: st) M) : lc_J S X n k j Q pc lo (.ref (lc_ad S 192) :: st) M := by
  subst hq; subst hs
  exact fun H locs ls hG h => va_get C.1 C.2.1 C.2.2.2.2.1 lc_iX1 C.2.2.2.1 hG.1 hG.2.1 192 (lc_at192 S M) rfl 1 (by decide) (C.2.2.2.2.1 _ hw) (fun _ h9 => h9) rfl d (kk H locs ls hG h)
theorem lc_st192_first (S : lc_Se) (M : lc_MM) (v : Int32) : (lc_w S M).set 192 (lc_ad S 192, .inr (1, ([.ref (lc_ad S 193), .int (M 20 0 0), .int (M 20 0 1)] : List Value).set 1 (.int v))) = lc_w S (lc_ms M 20 0 0 v) := by
  have e := lc_w_set S M (id := 192) (i := 0) (v := v) (by decide)
  exact e
theorem lc_p192_first (C : lc_C X cc own n rt rm) {ix : Nat} {v : Int32} {s s' : lc_St} (hs : M 20 = s) (hs' : lc_ss s 0 0 v = s') (hM : va_up M 20 s' = M') (d : decode cc pc = .ok (.putfield ix, 3)) (hw : Cond.fieldLink own ix RX1 "first" "I" ∈ lc_T) (hq : pc + 3 = pc') (kk : lc_J S X n k j Q pc' lo st M') : lc_J S X n k j Q pc lo (.int v :: .ref (lc_ad S 192) :: st) M := by
  subst hq; subst hs; subst hs'; subst hM
  exact fun H locs ls hG h => va_put (v := .int v) C.1 C.2.1 C.2.2.2.2.1 lc_iX1 tyX1 tyX1_ok nmX1 C.2.2.2.1 hG.1 hG.2.1 hG.2.2.1 hG.2.2.2.1 192 (lc_at192 S M) rfl 1 (by decide) (C.2.2.2.2.1 _ hw) (fun _ h9 => h9) rfl (tyX1_ok 1 (by decide)) rfl rfl (Nat.le_of_ble_eq_true rfl) d (fun H1 l1 p1 p2 p3 => kk H1 l1 ls ⟨hG.1, lc_st192_first S M v ▸ p1, lc_st192_first S M v ▸ p2, p3, hG.2.2.2.2⟩ h)
theorem lc_g192_count (C : lc_C X cc own n rt rm) {ix : Nat} {s : lc_St} (hs : M 20 = s) (d : decode cc pc = .ok (.getfield ix, 3)) (hw : Cond.fieldLink own ix RX1 "count" "I" ∈ lc_T) (hq : pc + 3 = pc') (kk : lc_J S X n k j Q pc' lo (.int (s 0 1) :: st) M) : lc_J S X n k j Q pc lo (.ref (lc_ad S 192) :: st) M := by
  subst hq; subst hs
  exact fun H locs ls hG h => va_get C.1 C.2.1 C.2.2.2.2.1 lc_iX1 C.2.2.2.1 hG.1 hG.2.1 192 (lc_at192 S M) rfl 2 (by decide) (C.2.2.2.2.1 _ hw) (fun _ h9 => h9) rfl d (kk H locs ls hG h)
theorem lc_st192_count (S : lc_Se) (M : lc_MM) (v : Int32) : (lc_w S M).set 192 (lc_ad S 192, .inr (1, ([.ref (lc_ad S 193), .int (M 20 0 0), .int (M 20 0 1)] : List Value).set 2 (.int v))) = lc_w S (lc_ms M 20 0 1 v) := by
  have e := lc_w_set S M (id := 192) (i := 1) (v := v) (by decide)
  exact e
theorem lc_p192_count (C : lc_C X cc own n rt rm) {ix : Nat} {v : Int32} {s s' : lc_St} (hs : M 20 = s) (hs' : lc_ss s 0 1 v = s') (hM : va_up M 20 s' = M') (d : decode cc pc = .ok (.putfield ix, 3)) (hw : Cond.fieldLink own ix RX1 "count" "I" ∈ lc_T) (hq : pc + 3 = pc') (kk : lc_J S X n k j Q pc' lo st M') : lc_J S X n k j Q pc lo (.int v :: .ref (lc_ad S 192) :: st) M := by
  subst hq; subst hs; subst hs'; subst hM
  exact fun H locs ls hG h => va_put (v := .int v) C.1 C.2.1 C.2.2.2.2.1 lc_iX1 tyX1 tyX1_ok nmX1 C.2.2.2.1 hG.1 hG.2.1 hG.2.2.1 hG.2.2.2.1 192 (lc_at192 S M) rfl 2 (by decide) (C.2.2.2.2.1 _ hw) (fun _ h9 => h9) rfl (tyX1_ok 2 (by decide)) rfl rfl (Nat.le_of_ble_eq_true rfl) d (fun H1 l1 p1 p2 p3 => kk H1 l1 ls ⟨hG.1, lc_st192_count S M v ▸ p1, lc_st192_count S M v ▸ p2, p3, hG.2.2.2.2⟩ h)
theorem lc_at194 (S : lc_Se) (M : lc_MM) : (lc_w S M)[194]? = some (lc_ad S 194, .inr (3, [.ref (lc_ad S 190), .ref (lc_ad S 0), .ref (lc_ad S 192), .ref (lc_ad S 195), .ref (lc_ad S 196), .ref (lc_ad S 10), .ref (lc_ad S 20)])) := by
  rw [lc_w_at S M (by decide)]; rfl
theorem lc_g194_text (C : lc_C X cc own n rt rm) {ix : Nat} {s : lc_St} (hs : M 21 = s) (d : decode cc pc = .ok (.getfield ix, 3)) (hw : Cond.fieldLink own ix RX3 "text" "LLendingCells$Text;" ∈ lc_T) (hq : pc + 3 = pc') (kk : lc_J S X n k j Q pc' lo (.ref (lc_ad S 190) :: st) M) : lc_J S X n k j Q pc lo (.ref (lc_ad S 194) :: st) M := by
  subst hq; subst hs
  exact fun H locs ls hG h => va_get C.1 C.2.1 C.2.2.2.2.1 lc_iX3 C.2.2.2.1 hG.1 hG.2.1 194 (lc_at194 S M) rfl 0 (by decide) (C.2.2.2.2.1 _ hw) (fun _ h9 => h9) rfl d (kk H locs ls hG h)
theorem lc_g194_now (C : lc_C X cc own n rt rm) {ix : Nat} {s : lc_St} (hs : M 21 = s) (d : decode cc pc = .ok (.getfield ix, 3)) (hw : Cond.fieldLink own ix RX3 "now" "LLendingCells$Battery;" ∈ lc_T) (hq : pc + 3 = pc') (kk : lc_J S X n k j Q pc' lo (.ref (lc_ad S 0) :: st) M) : lc_J S X n k j Q pc lo (.ref (lc_ad S 194) :: st) M := by
  subst hq; subst hs
  exact fun H locs ls hG h => va_get C.1 C.2.1 C.2.2.2.2.1 lc_iX3 C.2.2.2.1 hG.1 hG.2.1 194 (lc_at194 S M) rfl 1 (by decide) (C.2.2.2.2.1 _ hw) (fun _ h9 => h9) rfl d (kk H locs ls hG h)
theorem lc_g194_history (C : lc_C X cc own n rt rm) {ix : Nat} {s : lc_St} (hs : M 21 = s) (d : decode cc pc = .ok (.getfield ix, 3)) (hw : Cond.fieldLink own ix RX3 "history" "LLendingCells$History;" ∈ lc_T) (hq : pc + 3 = pc') (kk : lc_J S X n k j Q pc' lo (.ref (lc_ad S 192) :: st) M) : lc_J S X n k j Q pc lo (.ref (lc_ad S 194) :: st) M := by
  subst hq; subst hs
  exact fun H locs ls hG h => va_get C.1 C.2.1 C.2.2.2.2.1 lc_iX3 C.2.2.2.1 hG.1 hG.2.1 194 (lc_at194 S M) rfl 2 (by decide) (C.2.2.2.2.1 _ hw) (fun _ h9 => h9) rfl d (kk H locs ls hG h)
theorem lc_g194_slots (C : lc_C X cc own n rt rm) {ix : Nat} {s : lc_St} (hs : M 21 = s) (d : decode cc pc = .ok (.getfield ix, 3)) (hw : Cond.fieldLink own ix RX3 "slots" "[LLendingCells$Battery;" ∈ lc_T) (hq : pc + 3 = pc') (kk : lc_J S X n k j Q pc' lo (.ref (lc_ad S 195) :: st) M) : lc_J S X n k j Q pc lo (.ref (lc_ad S 194) :: st) M := by
  subst hq; subst hs
  exact fun H locs ls hG h => va_get C.1 C.2.1 C.2.2.2.2.1 lc_iX3 C.2.2.2.1 hG.1 hG.2.1 194 (lc_at194 S M) rfl 3 (by decide) (C.2.2.2.2.1 _ hw) (fun _ h9 => h9) rfl d (kk H locs ls hG h)
theorem lc_g194_filled (C : lc_C X cc own n rt rm) {ix : Nat} {s : lc_St} (hs : M 21 = s) (d : decode cc pc = .ok (.getfield ix, 3)) (hw : Cond.fieldLink own ix RX3 "filled" "[Z" ∈ lc_T) (hq : pc + 3 = pc') (kk : lc_J S X n k j Q pc' lo (.ref (lc_ad S 196) :: st) M) : lc_J S X n k j Q pc lo (.ref (lc_ad S 194) :: st) M := by
  subst hq; subst hs
  exact fun H locs ls hG h => va_get C.1 C.2.1 C.2.2.2.2.1 lc_iX3 C.2.2.2.1 hG.1 hG.2.1 194 (lc_at194 S M) rfl 4 (by decide) (C.2.2.2.2.1 _ hw) (fun _ h9 => h9) rfl d (kk H locs ls hG h)
theorem lc_g194_trial (C : lc_C X cc own n rt rm) {ix : Nat} {s : lc_St} (hs : M 21 = s) (d : decode cc pc = .ok (.getfield ix, 3)) (hw : Cond.fieldLink own ix RX3 "trial" "LLendingCells$Battery;" ∈ lc_T) (hq : pc + 3 = pc') (kk : lc_J S X n k j Q pc' lo (.ref (lc_ad S 10) :: st) M) : lc_J S X n k j Q pc lo (.ref (lc_ad S 194) :: st) M := by
  subst hq; subst hs
  exact fun H locs ls hG h => va_get C.1 C.2.1 C.2.2.2.2.1 lc_iX3 C.2.2.2.1 hG.1 hG.2.1 194 (lc_at194 S M) rfl 5 (by decide) (C.2.2.2.2.1 _ hw) (fun _ h9 => h9) rfl d (kk H locs ls hG h)
theorem lc_g194_before (C : lc_C X cc own n rt rm) {ix : Nat} {s : lc_St} (hs : M 21 = s) (d : decode cc pc = .ok (.getfield ix, 3)) (hw : Cond.fieldLink own ix RX3 "before" "LLendingCells$Battery;" ∈ lc_T) (hq : pc + 3 = pc') (kk : lc_J S X n k j Q pc' lo (.ref (lc_ad S 20) :: st) M) : lc_J S X n k j Q pc lo (.ref (lc_ad S 194) :: st) M := by
  subst hq; subst hs
  exact fun H locs ls hG h => va_get C.1 C.2.1 C.2.2.2.2.1 lc_iX3 C.2.2.2.1 hG.1 hG.2.1 194 (lc_at194 S M) rfl 6 (by decide) (C.2.2.2.2.1 _ hw) (fun _ h9 => h9) rfl d (kk H locs ls hG h)
theorem lc_at191 (S : lc_Se) (M : lc_MM) : (lc_w S M)[191]? = some (lc_ad S 191, .inl (lc_cl S 0, 120, .inl (M 19 1))) := by
  rw [lc_w_at S M (by decide)]; rfl
theorem lc_st191 (S : lc_Se) (M : lc_MM) (i : Nat) (v : Int32) : (lc_w S M).set 191 (lc_ad S 191, .inl (lc_cl S 0, 120, .inl (upd (M 19 1) i v))) = lc_w S (lc_ms M 19 1 i v) := by
  have e := lc_w_set S M (id := 191) (i := i) (v := v) (by decide)
  exact e
theorem lc_ld191 (C : lc_C X cc own n rt rm) {s : lc_St} {i : Int32} (hs : M 19 = s) (hi : lc_ok i 120) {jj : Nat} (hj : i.toNatClampNeg = jj) (d : decode cc pc = .ok (.caload, 1)) (hq : pc + 1 = pc') (kk : lc_J S X n k j Q pc' lo (.int (s 1 jj) :: st) M) : lc_J S X n k j Q pc lo (.int i :: .ref (lc_ad S 191) :: st) M := by
  subst hq; subst hs; subst hj
  exact fun H locs ls hG h => va_cald C.1 C.2.1 hG.1 hG.2.1 191 0 (lc_at191 S M) rfl hi d (kk H locs ls hG h)
theorem lc_sd191 (C : lc_C X cc own n rt rm) {s s' : lc_St} {i v : Int32} (hs : M 19 = s) (hi : lc_ok i 120) {jj : Nat} (hj : i.toNatClampNeg = jj) (hs' : lc_ss s 1 jj (vp_nar .char v) = s') (hM : va_up M 19 s' = M') (d : decode cc pc = .ok (.castore, 1)) (hq : pc + 1 = pc') (kk : lc_J S X n k j Q pc' lo st M') : lc_J S X n k j Q pc lo (.int v :: .int i :: .ref (lc_ad S 191) :: st) M := by
  subst hq; subst hs; subst hj; subst hs'; subst hM
  exact fun H locs ls hG h => va_cast C.1 C.2.1 hG.1 hG.2.1 hG.2.2.1 hG.2.2.2.1 191 0 (lc_at191 S M) rfl hi d (fun H1 l1 p1 p2 p3 => kk H1 l1 ls ⟨hG.1, lc_st191 S M i.toNatClampNeg (vp_nar .char v) ▸ p1, lc_st191 S M i.toNatClampNeg (vp_nar .char v) ▸ p2, p3, hG.2.2.2.2⟩ h)
theorem lc_at196 (S : lc_Se) (M : lc_MM) : (lc_w S M)[196]? = some (lc_ad S 196, .inl (lc_cl S 2, 2, .inl (M 21 2))) := by
  rw [lc_w_at S M (by decide)]; rfl
theorem lc_st196 (S : lc_Se) (M : lc_MM) (i : Nat) (v : Int32) : (lc_w S M).set 196 (lc_ad S 196, .inl (lc_cl S 2, 2, .inl (upd (M 21 2) i v))) = lc_w S (lc_ms M 21 2 i v) := by
  have e := lc_w_set S M (id := 196) (i := i) (v := v) (by decide)
  exact e
theorem lc_ld196 (C : lc_C X cc own n rt rm) {s : lc_St} {i : Int32} (hs : M 21 = s) (hi : lc_ok i 2) {jj : Nat} (hj : i.toNatClampNeg = jj) (d : decode cc pc = .ok (.baload, 1)) (hq : pc + 1 = pc') (kk : lc_J S X n k j Q pc' lo (.int (s 2 jj) :: st) M) : lc_J S X n k j Q pc lo (.int i :: .ref (lc_ad S 196) :: st) M := by
  subst hq; subst hs; subst hj
  exact fun H locs ls hG h => va_zald C.1 C.2.1 hG.1 hG.2.1 196 2 (lc_at196 S M) rfl hi d (kk H locs ls hG h)
theorem lc_sd196 (C : lc_C X cc own n rt rm) {s s' : lc_St} {i v : Int32} (hs : M 21 = s) (hi : lc_ok i 2) {jj : Nat} (hj : i.toNatClampNeg = jj) (hs' : lc_ss s 2 jj (vp_nar .boolean v) = s') (hM : va_up M 21 s' = M') (d : decode cc pc = .ok (.bastore, 1)) (hq : pc + 1 = pc') (kk : lc_J S X n k j Q pc' lo st M') : lc_J S X n k j Q pc lo (.int v :: .int i :: .ref (lc_ad S 196) :: st) M := by
  subst hq; subst hs; subst hj; subst hs'; subst hM
  exact fun H locs ls hG h => va_zast C.1 C.2.1 hG.1 hG.2.1 hG.2.2.1 hG.2.2.2.1 196 2 (lc_at196 S M) rfl hi d (fun H1 l1 p1 p2 p3 => kk H1 l1 ls ⟨hG.1, lc_st196 S M i.toNatClampNeg (vp_nar .boolean v) ▸ p1, lc_st196 S M i.toNatClampNeg (vp_nar .boolean v) ▸ p2, p3, hG.2.2.2.2⟩ h)
theorem lc_at197 (S : lc_Se) (M : lc_MM) : (lc_w S M)[197]? = some (lc_ad S 197, .inl (lc_cl S 1, 7, .inl (M 22 0))) := by
  rw [lc_w_at S M (by decide)]; rfl
theorem lc_st197 (S : lc_Se) (M : lc_MM) (i : Nat) (v : Int32) : (lc_w S M).set 197 (lc_ad S 197, .inl (lc_cl S 1, 7, .inl (upd (M 22 0) i v))) = lc_w S (lc_ms M 22 0 i v) := by
  have e := lc_w_set S M (id := 197) (i := i) (v := v) (by decide)
  exact e
theorem lc_ld197 (C : lc_C X cc own n rt rm) {s : lc_St} {i : Int32} (hs : M 22 = s) (hi : lc_ok i 7) {jj : Nat} (hj : i.toNatClampNeg = jj) (d : decode cc pc = .ok (.iaload, 1)) (hq : pc + 1 = pc') (kk : lc_J S X n k j Q pc' lo (.int (s 0 jj) :: st) M) : lc_J S X n k j Q pc lo (.int i :: .ref (lc_ad S 197) :: st) M := by
  subst hq; subst hs; subst hj
  exact fun H locs ls hG h => va_iald C.1 C.2.1 hG.1 hG.2.1 197 1 (lc_at197 S M) rfl hi d (kk H locs ls hG h)
theorem lc_sd197 (C : lc_C X cc own n rt rm) {s s' : lc_St} {i v : Int32} (hs : M 22 = s) (hi : lc_ok i 7) {jj : Nat} (hj : i.toNatClampNeg = jj) (hs' : lc_ss s 0 jj v = s') (hM : va_up M 22 s' = M') (d : decode cc pc = .ok (.iastore, 1)) (hq : pc + 1 = pc') (kk : lc_J S X n k j Q pc' lo st M') : lc_J S X n k j Q pc lo (.int v :: .int i :: .ref (lc_ad S 197) :: st) M := by
  subst hq; subst hs; subst hj; subst hs'; subst hM
  exact fun H locs ls hG h => va_iast C.1 C.2.1 hG.1 hG.2.1 hG.2.2.1 hG.2.2.2.1 197 1 (lc_at197 S M) rfl hi d (fun H1 l1 p1 p2 p3 => kk H1 l1 ls ⟨hG.1, lc_st197 S M i.toNatClampNeg v ▸ p1, lc_st197 S M i.toNatClampNeg v ▸ p2, p3, hG.2.2.2.2⟩ h)
theorem lc_at198 (S : lc_Se) (M : lc_MM) : (lc_w S M)[198]? = some (lc_ad S 198, .inl (lc_cl S 1, 30, .inl (M 22 1))) := by
  rw [lc_w_at S M (by decide)]; rfl
theorem lc_st198 (S : lc_Se) (M : lc_MM) (i : Nat) (v : Int32) : (lc_w S M).set 198 (lc_ad S 198, .inl (lc_cl S 1, 30, .inl (upd (M 22 1) i v))) = lc_w S (lc_ms M 22 1 i v) := by
  have e := lc_w_set S M (id := 198) (i := i) (v := v) (by decide)
  exact e
theorem lc_ld198 (C : lc_C X cc own n rt rm) {s : lc_St} {i : Int32} (hs : M 22 = s) (hi : lc_ok i 30) {jj : Nat} (hj : i.toNatClampNeg = jj) (d : decode cc pc = .ok (.iaload, 1)) (hq : pc + 1 = pc') (kk : lc_J S X n k j Q pc' lo (.int (s 1 jj) :: st) M) : lc_J S X n k j Q pc lo (.int i :: .ref (lc_ad S 198) :: st) M := by
  subst hq; subst hs; subst hj
  exact fun H locs ls hG h => va_iald C.1 C.2.1 hG.1 hG.2.1 198 1 (lc_at198 S M) rfl hi d (kk H locs ls hG h)
theorem lc_sd198 (C : lc_C X cc own n rt rm) {s s' : lc_St} {i v : Int32} (hs : M 22 = s) (hi : lc_ok i 30) {jj : Nat} (hj : i.toNatClampNeg = jj) (hs' : lc_ss s 1 jj v = s') (hM : va_up M 22 s' = M') (d : decode cc pc = .ok (.iastore, 1)) (hq : pc + 1 = pc') (kk : lc_J S X n k j Q pc' lo st M') : lc_J S X n k j Q pc lo (.int v :: .int i :: .ref (lc_ad S 198) :: st) M := by
  subst hq; subst hs; subst hj; subst hs'; subst hM
  exact fun H locs ls hG h => va_iast C.1 C.2.1 hG.1 hG.2.1 hG.2.2.1 hG.2.2.2.1 198 1 (lc_at198 S M) rfl hi d (fun H1 l1 p1 p2 p3 => kk H1 l1 ls ⟨hG.1, lc_st198 S M i.toNatClampNeg v ▸ p1, lc_st198 S M i.toNatClampNeg v ▸ p2, p3, hG.2.2.2.2⟩ h)
theorem lc_at199 (S : lc_Se) (M : lc_MM) : (lc_w S M)[199]? = some (lc_ad S 199, .inl (lc_cl S 1, 60, .inl (M 22 2))) := by
  rw [lc_w_at S M (by decide)]; rfl
theorem lc_st199 (S : lc_Se) (M : lc_MM) (i : Nat) (v : Int32) : (lc_w S M).set 199 (lc_ad S 199, .inl (lc_cl S 1, 60, .inl (upd (M 22 2) i v))) = lc_w S (lc_ms M 22 2 i v) := by
  have e := lc_w_set S M (id := 199) (i := i) (v := v) (by decide)
  exact e
theorem lc_ld199 (C : lc_C X cc own n rt rm) {s : lc_St} {i : Int32} (hs : M 22 = s) (hi : lc_ok i 60) {jj : Nat} (hj : i.toNatClampNeg = jj) (d : decode cc pc = .ok (.iaload, 1)) (hq : pc + 1 = pc') (kk : lc_J S X n k j Q pc' lo (.int (s 2 jj) :: st) M) : lc_J S X n k j Q pc lo (.int i :: .ref (lc_ad S 199) :: st) M := by
  subst hq; subst hs; subst hj
  exact fun H locs ls hG h => va_iald C.1 C.2.1 hG.1 hG.2.1 199 1 (lc_at199 S M) rfl hi d (kk H locs ls hG h)
theorem lc_sd199 (C : lc_C X cc own n rt rm) {s s' : lc_St} {i v : Int32} (hs : M 22 = s) (hi : lc_ok i 60) {jj : Nat} (hj : i.toNatClampNeg = jj) (hs' : lc_ss s 2 jj v = s') (hM : va_up M 22 s' = M') (d : decode cc pc = .ok (.iastore, 1)) (hq : pc + 1 = pc') (kk : lc_J S X n k j Q pc' lo st M') : lc_J S X n k j Q pc lo (.int v :: .int i :: .ref (lc_ad S 199) :: st) M := by
  subst hq; subst hs; subst hj; subst hs'; subst hM
  exact fun H locs ls hG h => va_iast C.1 C.2.1 hG.1 hG.2.1 hG.2.2.1 hG.2.2.2.1 199 1 (lc_at199 S M) rfl hi d (fun H1 l1 p1 p2 p3 => kk H1 l1 ls ⟨hG.1, lc_st199 S M i.toNatClampNeg v ▸ p1, lc_st199 S M i.toNatClampNeg v ▸ p2, p3, hG.2.2.2.2⟩ h)
theorem lc_at200 (S : lc_Se) (M : lc_MM) : (lc_w S M)[200]? = some (lc_ad S 200, .inl (lc_cl S 1, 7, .inl (M 23 0))) := by
  rw [lc_w_at S M (by decide)]; rfl
theorem lc_st200 (S : lc_Se) (M : lc_MM) (i : Nat) (v : Int32) : (lc_w S M).set 200 (lc_ad S 200, .inl (lc_cl S 1, 7, .inl (upd (M 23 0) i v))) = lc_w S (lc_ms M 23 0 i v) := by
  have e := lc_w_set S M (id := 200) (i := i) (v := v) (by decide)
  exact e
theorem lc_ld200 (C : lc_C X cc own n rt rm) {s : lc_St} {i : Int32} (hs : M 23 = s) (hi : lc_ok i 7) {jj : Nat} (hj : i.toNatClampNeg = jj) (d : decode cc pc = .ok (.iaload, 1)) (hq : pc + 1 = pc') (kk : lc_J S X n k j Q pc' lo (.int (s 0 jj) :: st) M) : lc_J S X n k j Q pc lo (.int i :: .ref (lc_ad S 200) :: st) M := by
  subst hq; subst hs; subst hj
  exact fun H locs ls hG h => va_iald C.1 C.2.1 hG.1 hG.2.1 200 1 (lc_at200 S M) rfl hi d (kk H locs ls hG h)
theorem lc_sd200 (C : lc_C X cc own n rt rm) {s s' : lc_St} {i v : Int32} (hs : M 23 = s) (hi : lc_ok i 7) {jj : Nat} (hj : i.toNatClampNeg = jj) (hs' : lc_ss s 0 jj v = s') (hM : va_up M 23 s' = M') (d : decode cc pc = .ok (.iastore, 1)) (hq : pc + 1 = pc') (kk : lc_J S X n k j Q pc' lo st M') : lc_J S X n k j Q pc lo (.int v :: .int i :: .ref (lc_ad S 200) :: st) M := by
  subst hq; subst hs; subst hj; subst hs'; subst hM
  exact fun H locs ls hG h => va_iast C.1 C.2.1 hG.1 hG.2.1 hG.2.2.1 hG.2.2.2.1 200 1 (lc_at200 S M) rfl hi d (fun H1 l1 p1 p2 p3 => kk H1 l1 ls ⟨hG.1, lc_st200 S M i.toNatClampNeg v ▸ p1, lc_st200 S M i.toNatClampNeg v ▸ p2, p3, hG.2.2.2.2⟩ h)
theorem lc_at201 (S : lc_Se) (M : lc_MM) : (lc_w S M)[201]? = some (lc_ad S 201, .inl (lc_cl S 1, 30, .inl (M 23 1))) := by
  rw [lc_w_at S M (by decide)]; rfl
theorem lc_st201 (S : lc_Se) (M : lc_MM) (i : Nat) (v : Int32) : (lc_w S M).set 201 (lc_ad S 201, .inl (lc_cl S 1, 30, .inl (upd (M 23 1) i v))) = lc_w S (lc_ms M 23 1 i v) := by
  have e := lc_w_set S M (id := 201) (i := i) (v := v) (by decide)
  exact e
theorem lc_ld201 (C : lc_C X cc own n rt rm) {s : lc_St} {i : Int32} (hs : M 23 = s) (hi : lc_ok i 30) {jj : Nat} (hj : i.toNatClampNeg = jj) (d : decode cc pc = .ok (.iaload, 1)) (hq : pc + 1 = pc') (kk : lc_J S X n k j Q pc' lo (.int (s 1 jj) :: st) M) : lc_J S X n k j Q pc lo (.int i :: .ref (lc_ad S 201) :: st) M := by
  subst hq; subst hs; subst hj
  exact fun H locs ls hG h => va_iald C.1 C.2.1 hG.1 hG.2.1 201 1 (lc_at201 S M) rfl hi d (kk H locs ls hG h)
theorem lc_sd201 (C : lc_C X cc own n rt rm) {s s' : lc_St} {i v : Int32} (hs : M 23 = s) (hi : lc_ok i 30) {jj : Nat} (hj : i.toNatClampNeg = jj) (hs' : lc_ss s 1 jj v = s') (hM : va_up M 23 s' = M') (d : decode cc pc = .ok (.iastore, 1)) (hq : pc + 1 = pc') (kk : lc_J S X n k j Q pc' lo st M') : lc_J S X n k j Q pc lo (.int v :: .int i :: .ref (lc_ad S 201) :: st) M := by
  subst hq; subst hs; subst hj; subst hs'; subst hM
  exact fun H locs ls hG h => va_iast C.1 C.2.1 hG.1 hG.2.1 hG.2.2.1 hG.2.2.2.1 201 1 (lc_at201 S M) rfl hi d (fun H1 l1 p1 p2 p3 => kk H1 l1 ls ⟨hG.1, lc_st201 S M i.toNatClampNeg v ▸ p1, lc_st201 S M i.toNatClampNeg v ▸ p2, p3, hG.2.2.2.2⟩ h)
theorem lc_at202 (S : lc_Se) (M : lc_MM) : (lc_w S M)[202]? = some (lc_ad S 202, .inl (lc_cl S 1, 60, .inl (M 23 2))) := by
  rw [lc_w_at S M (by decide)]; rfl
theorem lc_st202 (S : lc_Se) (M : lc_MM) (i : Nat) (v : Int32) : (lc_w S M).set 202 (lc_ad S 202, .inl (lc_cl S 1, 60, .inl (upd (M 23 2) i v))) = lc_w S (lc_ms M 23 2 i v) := by
  have e := lc_w_set S M (id := 202) (i := i) (v := v) (by decide)
  exact e
theorem lc_ld202 (C : lc_C X cc own n rt rm) {s : lc_St} {i : Int32} (hs : M 23 = s) (hi : lc_ok i 60) {jj : Nat} (hj : i.toNatClampNeg = jj) (d : decode cc pc = .ok (.iaload, 1)) (hq : pc + 1 = pc') (kk : lc_J S X n k j Q pc' lo (.int (s 2 jj) :: st) M) : lc_J S X n k j Q pc lo (.int i :: .ref (lc_ad S 202) :: st) M := by
  subst hq; subst hs; subst hj
  exact fun H locs ls hG h => va_iald C.1 C.2.1 hG.1 hG.2.1 202 1 (lc_at202 S M) rfl hi d (kk H locs ls hG h)
theorem lc_sd202 (C : lc_C X cc own n rt rm) {s s' : lc_St} {i v : Int32} (hs : M 23 = s) (hi : lc_ok i 60) {jj : Nat} (hj : i.toNatClampNeg = jj) (hs' : lc_ss s 2 jj v = s') (hM : va_up M 23 s' = M') (d : decode cc pc = .ok (.iastore, 1)) (hq : pc + 1 = pc') (kk : lc_J S X n k j Q pc' lo st M') : lc_J S X n k j Q pc lo (.int v :: .int i :: .ref (lc_ad S 202) :: st) M := by
  subst hq; subst hs; subst hj; subst hs'; subst hM
  exact fun H locs ls hG h => va_iast C.1 C.2.1 hG.1 hG.2.1 hG.2.2.1 hG.2.2.2.1 202 1 (lc_at202 S M) rfl hi d (fun H1 l1 p1 p2 p3 => kk H1 l1 ls ⟨hG.1, lc_st202 S M i.toNatClampNeg v ▸ p1, lc_st202 S M i.toNatClampNeg v ▸ p2, p3, hG.2.2.2.2⟩ h)
theorem lc_at203 (S : lc_Se) (M : lc_MM) : (lc_w S M)[203]? = some (lc_ad S 203, .inl (lc_cl S 1, 1, .inl (M 24 0))) := by
  rw [lc_w_at S M (by decide)]; rfl
theorem lc_st203 (S : lc_Se) (M : lc_MM) (i : Nat) (v : Int32) : (lc_w S M).set 203 (lc_ad S 203, .inl (lc_cl S 1, 1, .inl (upd (M 24 0) i v))) = lc_w S (lc_ms M 24 0 i v) := by
  have e := lc_w_set S M (id := 203) (i := i) (v := v) (by decide)
  exact e
theorem lc_ld203 (C : lc_C X cc own n rt rm) {s : lc_St} {i : Int32} (hs : M 24 = s) (hi : lc_ok i 1) {jj : Nat} (hj : i.toNatClampNeg = jj) (d : decode cc pc = .ok (.iaload, 1)) (hq : pc + 1 = pc') (kk : lc_J S X n k j Q pc' lo (.int (s 0 jj) :: st) M) : lc_J S X n k j Q pc lo (.int i :: .ref (lc_ad S 203) :: st) M := by
  subst hq; subst hs; subst hj
  exact fun H locs ls hG h => va_iald C.1 C.2.1 hG.1 hG.2.1 203 1 (lc_at203 S M) rfl hi d (kk H locs ls hG h)
theorem lc_sd203 (C : lc_C X cc own n rt rm) {s s' : lc_St} {i v : Int32} (hs : M 24 = s) (hi : lc_ok i 1) {jj : Nat} (hj : i.toNatClampNeg = jj) (hs' : lc_ss s 0 jj v = s') (hM : va_up M 24 s' = M') (d : decode cc pc = .ok (.iastore, 1)) (hq : pc + 1 = pc') (kk : lc_J S X n k j Q pc' lo st M') : lc_J S X n k j Q pc lo (.int v :: .int i :: .ref (lc_ad S 203) :: st) M := by
  subst hq; subst hs; subst hj; subst hs'; subst hM
  exact fun H locs ls hG h => va_iast C.1 C.2.1 hG.1 hG.2.1 hG.2.2.1 hG.2.2.2.1 203 1 (lc_at203 S M) rfl hi d (fun H1 l1 p1 p2 p3 => kk H1 l1 ls ⟨hG.1, lc_st203 S M i.toNatClampNeg v ▸ p1, lc_st203 S M i.toNatClampNeg v ▸ p2, p3, hG.2.2.2.2⟩ h)
theorem lc_at193 (S : lc_Se) (M : lc_MM) : (lc_w S M)[193]? = some (lc_ad S 193, .inl (lc_cl S 3, 14, .inr (.inr (.inr (.inr (fun j => some (lc_ad S (10 * (5 + j))))))))) := by
  rw [lc_w_at S M (by decide)]; rfl
theorem lc_ld193 (C : lc_C X cc own n rt rm) {i : Int32} (hi : lc_ok i 14) {jj : Nat} (hj : i.toNatClampNeg = jj) (d : decode cc pc = .ok (.aaload, 1)) (hq : pc + 1 = pc') (kk : lc_J S X n k j Q pc' lo (.ref (lc_ad S (10 * (5 + jj))) :: st) M) : lc_J S X n k j Q pc lo (.int i :: .ref (lc_ad S 193) :: st) M := by
  subst hq; subst hj
  exact fun H locs ls hG h => va_aldq C.1 C.2.1 hG.1 hG.2.1 193 3 (lc_at193 S M) rfl hi d (kk H locs ls hG h)
theorem lc_at195 (S : lc_Se) (M : lc_MM) : (lc_w S M)[195]? = some (lc_ad S 195, .inl (lc_cl S 3, 2, .inr (.inr (.inr (.inr (fun j => some (lc_ad S (10 * (3 + j))))))))) := by
  rw [lc_w_at S M (by decide)]; rfl
theorem lc_ld195 (C : lc_C X cc own n rt rm) {i : Int32} (hi : lc_ok i 2) {jj : Nat} (hj : i.toNatClampNeg = jj) (d : decode cc pc = .ok (.aaload, 1)) (hq : pc + 1 = pc') (kk : lc_J S X n k j Q pc' lo (.ref (lc_ad S (10 * (3 + jj))) :: st) M) : lc_J S X n k j Q pc lo (.int i :: .ref (lc_ad S 195) :: st) M := by
  subst hq; subst hj
  exact fun H locs ls hG h => va_aldq C.1 C.2.1 hG.1 hG.2.1 195 3 (lc_at195 S M) rfl hi d (kk H locs ls hG h)
theorem lc_acp (C : lc_C X cc own n rt rm) {ix k0 k1 r len : Nat} {s o s' : lc_St} {z : Int32} (hk : k0 < 19) (hk1 : k1 < 19) (h1 : 1 ≤ r) (h2 : r < 10) (hs : M k0 = s) (ho : M k1 = o) (hl : lc_bl r = len) (hz : z.toNatClampNeg = len) (hz0 : ¬ z < 0) (hs' : va_up s r (va_cpy (o r) (s r) 0 0 len) = s') (hM : va_up M k0 s' = M') (hw : Cond.methodLink own ix arraycopyName ∈ lc_T ∧ Cond.native arraycopyName ∈ lc_T ∧ Cond.static arraycopyName ∈ lc_T ∧ Cond.initialized "java/lang/System" ∈ lc_T) (hR : 1 ≤ rm.frames ∧ (st.map fun v => v.category).sum + (nativeFrameWords "java/lang/System" "arraycopy" 5 + 11) ≤ rm.locals) (d : decode cc pc = .ok (.invokestatic ix, 3)) (hq : pc + 3 = pc') (kk : lc_J S X n k j Q pc' lo st M') : lc_J S X n k j Q pc lo (.int z :: .int 0 :: .ref (lc_ad S (10 * k0 + r)) :: .int 0 :: .ref (lc_ad S (10 * k1 + r)) :: st) M := by
  subst hq; subst hs; subst ho; subst hl; subst hs'; subst hM
  have hr := C.2.2.2.2.2.2.2
  refine fun H locs ls hG h => va_copyi C.1 C.2.1 (by rw [h.1]; exact C.2.2.1) C.2.2.2.1 (C.2.2.2.2.1 _ hw.1) (C.2.2.2.2.1 _ hw.2.1) (C.2.2.2.2.1 _ hw.2.2.1) (C.2.2.2.2.1 _ hw.2.2.2) hG.1 hG.2.1 hG.2.2.1 hG.2.2.2.1 (10 * k1 + r) (10 * k0 + r) 1 1 (lc_at_a S M hk1 h1 h2) (lc_at_a S M hk h1 h2) rfl rfl rfl (by decide) (by decide) hz0 (by rw [hz]; exact Nat.le_of_eq (Nat.zero_add _)) (by rw [hz]; exact Nat.le_of_eq (Nat.zero_add _)) (fun _ _ => rfl) (by rw [hr]; exact hR.1) (by rw [hr]; exact hR.2) d (fun H1 l1 p1 p2 p3 => ?_)
  rw [hz] at p1 p2
  exact kk H1 l1 ls ⟨hG.1, lc_st_g S M (va_cpy (M k1 r) (M k0 r) 0 0 (lc_bl r)) hk h1 h2 ▸ p1, lc_st_g S M (va_cpy (M k1 r) (M k0 r) 0 0 (lc_bl r)) hk h1 h2 ▸ p2, p3, hG.2.2.2.2⟩ h
theorem lc_let2 {α β : Type} {x : α} {f : α → Option β} {o : β} (h : lc_let x f = some o) : ∃ y, x = y ∧ f y = some o := ⟨x, rfl, h⟩
theorem lc_if2 {α : Type} {c : Prop} [Decidable c] {x y : Option α} {o : α} (h : (if c then x else y) = some o) : (c → x = some o) ∧ (¬ c → y = some o) := by
  by_cases hc : c
  · rw [if_pos hc] at h; exact ⟨fun _ => h, fun q => absurd hc q⟩
  · rw [if_neg hc] at h; exact ⟨fun q => absurd q hc, fun _ => h⟩
def lc_bd2 {α β γ : Type} (x : Option (α × β)) (f : α → β → Option γ) : Option γ := x.bind (fun q => f q.1 q.2)
theorem lc_bd2e {α β γ : Type} {x : Option (α × β)} {f : α → β → Option γ} {o : γ} (h : lc_bd2 x f = some o) : ∃ a b, x = some (a, b) ∧ f a b = some o := by
  cases x with
  | none => cases h
  | some q => exact ⟨q.1, q.2, rfl, h⟩
def lc_bd3 {α β γ δ : Type} (x : Option (α × β × γ)) (f : α → β → γ → Option δ) : Option δ := x.bind (fun q => f q.1 q.2.1 q.2.2)
theorem lc_bd3e {α β γ δ : Type} {x : Option (α × β × γ)} {f : α → β → γ → Option δ} {o : δ} (h : lc_bd3 x f = some o) : ∃ a b c, x = some (a, b, c) ∧ f a b c = some o := by
  cases x with
  | none => cases h
  | some q => exact ⟨q.1, q.2.1, q.2.2, rfl, h⟩
def lc_FU : Nat := 2000
end LCJ
