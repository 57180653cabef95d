/-! ===== words: all of the tables that a callee may ask for ===== -/
def lc_T : List Cond := lw_tbl.filter goodWord
theorem lc_in {w : Cond} (h : w ∈ lw_tbl) (g : goodWord w = true) : w ∈ lc_T := List.mem_filter.mpr ⟨h, g⟩
theorem lc_gd {w : Cond} (h : w ∈ lc_T) : goodWord w = true := (List.mem_filter.mp h).2
abbrev lc_ws (y : MethodName) (b : ByteArray) (n : Nat) (r : Option FieldType) : List Cond := .code y b n r :: lc_T
theorem lc_good {ws : List Cond} (h : ∀ w ∈ ws, w ∈ lc_T) : GoodIn lc_T ws := fun w hw => ⟨h w hw, good_of_word (lc_gd (h w hw))⟩
/-- the tables' classes, the array classes (char, int, boolean, Battery), the addresses, where the law's own cells begin -/
abbrev lc_Se : Type := va_G × (Nat → ClassId) × (Nat → Nat) × Nat
abbrev lc_ad (S : lc_Se) (k : Nat) : Nat := S.2.2.1 k
abbrev lc_cl (S : lc_Se) (k : Nat) : ClassId := S.2.1 k
abbrev lc_ba (S : lc_Se) : Nat := S.2.2.2
def lc_A (S : lc_Se) : Nat → Prop := fun q => lc_ba S ≤ q
/-- what the tables say beside the good words: links to private members of nest mates, casts, texts, two statics -/
def lc_N1 (U : State) : Prop := va_Nw (.methodLinkNest RX3 9 yX2_init "LendingCells") U ∧ va_Nw (.methodLinkNest RX3 18 yX0_init "LendingCells") U ∧ va_Nw (.methodLinkNest RX1 17 yX0_init "LendingCells") U
theorem lc_N1.warm {s U : State} (hW : s.WarmedH U.vm) (h : lc_N1 s) : lc_N1 U := ⟨va_Nw.warmM hW h.1, va_Nw.warmM hW h.2.1, va_Nw.warmM hW h.2.2⟩
theorem lc_N1.same {s U : State} (hW : s.vm = U.vm) (h : lc_N1 s) : lc_N1 U := ⟨va_Nw.same rfl hW h.1, va_Nw.same rfl hW h.2.1, va_Nw.same rfl hW h.2.2⟩
/-! ===== what a call needs of the tables ===== -/
def lc_kV (own : String) (ix : Nat) (y : MethodName) (b : ByteArray) (mL : Nat) (ret : Option FieldType) (nA : Nat) : Prop :=
  (Cond.methodLink own ix y ∈ lc_T ∧ Cond.instanceMethod y ∈ lc_T ∧ Cond.selects y.cls y y ∈ lc_T ∧ Cond.initialized y.cls ∈ lc_T ∧ Cond.code y b mL ret ∈ lc_T) ∧ y.cls ≠ "java/lang/invoke/MethodHandle" ∧ y.cls ≠ "java/lang/invoke/VarHandle" ∧ (parseMethodDescriptor y.desc).map (fun d => d.parameters.length) = some nA
def lc_kS (own : String) (ix : Nat) (y : MethodName) (b : ByteArray) (mL : Nat) (ret : Option FieldType) (nA : Nat) : Prop :=
  (Cond.methodLink own ix y ∈ lc_T ∧ Cond.static y ∈ lc_T ∧ Cond.initialized y.cls ∈ lc_T ∧ Cond.code y b mL ret ∈ lc_T) ∧ y.cls ≠ "java/lang/invoke/MethodHandle" ∧ y.cls ≠ "java/lang/invoke/VarHandle" ∧ (parseMethodDescriptor y.desc).map (fun d => d.parameters.length) = some nA
def lc_kN (own : String) (ix : Nat) (y : MethodName) (host : String) (b : ByteArray) (mL : Nat) (ret : Option FieldType) (nA : Nat) : Prop :=
  ((∀ U : State, lc_N1 U → va_Nw (.methodLinkNest own ix y host) U) ∧ Cond.static y ∈ lc_T ∧ Cond.initialized y.cls ∈ lc_T ∧ Cond.code y b mL ret ∈ lc_T) ∧ y.cls ≠ "java/lang/invoke/MethodHandle" ∧ y.cls ≠ "java/lang/invoke/VarHandle" ∧ (parseMethodDescriptor y.desc).map (fun d => d.parameters.length) = some nA
