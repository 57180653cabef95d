abbrev lc_E1 : String := "java/lang/IllegalArgumentException"
abbrev lc_E2 : String := "java/lang/IllegalStateException"
abbrev lc_E3 : String := "java/lang/IndexOutOfBoundsException"
def lc_str : List (Nat × String) := [(115, "no number from 0 to 9"), (123, "no such cell"), (152, "no number from 0 to 7"), (157, "no such loan"), (177, "no number from 0 to 5"), (184, "a number of the cell is out of its range"), (186, "there are 8 cells"), (198, "the same cell twice, or a number out of its range"), (203, "the loan is not possible"), (209, "no number from 1 to 99"), (215, "the repayment is not possible"), (221, "no leak from 0 to 3"), (229, "nothing can be drawn"), (231, "no number of rounds from 1 to 50")]
abbrev lc_D1 : MethodName := ⟨"java/lang/RuntimeException", "<init>", "(Ljava/lang/String;)V"⟩
abbrev lc_D2 : MethodName := ⟨"java/lang/Exception", "<init>", "(Ljava/lang/String;)V"⟩
abbrev lc_D3 : MethodName := ⟨"java/lang/Throwable", "<init>", "(Ljava/lang/String;)V"⟩
def lc_N2 (U : State) : Prop := (va_Nw (.declares lc_D1) U ∧ va_Nw (.declares lc_D2) U ∧ va_Nw (.declares lc_D3) U) ∧ (va_Nw (.castable lc_E1 lc_E1) U ∧ va_Nw (.castable lc_E2 lc_E2) U ∧ va_Nw (.castable lc_E3 lc_E3) U) ∧ (va_Nc lc_E1 lc_E2 U ∧ va_Nc lc_E1 lc_E3 U ∧ va_Nc lc_E2 lc_E1 U ∧ va_Nc lc_E2 lc_E3 U ∧ va_Nc lc_E3 lc_E1 U ∧ va_Nc lc_E3 lc_E2 U)
def lc_N3 (U : State) : Prop := ∀ q ∈ lc_str, ∃ a : Nat, vk_R RX3 q.1 q.2 a U
def lc_N4 (S : lc_Se) (U : State) : Prop := vx_Zq Bundle.tN "UNASSIGNED_STACK" Bundle.steD (lc_A S) U U.heap ∧ vx_Zq Bundle.tN "SUPPRESSED_SENTINEL" Bundle.listD (lc_A S) U U.heap
def lc_N (S : lc_Se) (U : State) : Prop := lc_N1 U ∧ lc_N2 U ∧ lc_N3 U ∧ lc_N4 S U
theorem lc_N2.moved {s U : State} (hW : s.vm.Alike U.vm) (h : lc_N2 s) (k : ∀ E : String, va_Nw (.castable E E) s → va_Nw (.castable E E) U) (k2 : ∀ x : MethodName, va_Nw (.declares x) s → va_Nw (.declares x) U) : lc_N2 U := ⟨⟨k2 _ h.1.1, k2 _ h.1.2.1, k2 _ h.1.2.2⟩, ⟨k _ h.2.1.1, k _ h.2.1.2.1, k _ h.2.1.2.2⟩, va_Nc.moved hW h.2.2.1, va_Nc.moved hW h.2.2.2.1, va_Nc.moved hW h.2.2.2.2.1, va_Nc.moved hW h.2.2.2.2.2.1, va_Nc.moved hW h.2.2.2.2.2.2.1, va_Nc.moved hW h.2.2.2.2.2.2.2⟩
theorem lc_decl.warm {x : MethodName} {s U : State} (hW : s.WarmedH U.vm) (hZ : va_Nw (.declares x) s) : va_Nw (.declares x) U := va_tabs rfl (rfl : (s.setVm U.vm).vm = U.vm) (by rw [Cond.declares_setVm hW.alike]; exact hZ)
theorem lc_N4.kept {S : lc_Se} {s U : State} (hW : s.vm.Alike U.vm) (hk : ∀ a : Nat, a < s.heap.size → ¬ lc_A S a → U.heap[a]? = s.heap[a]?) (h : lc_N4 S s) : lc_N4 S U := ⟨vx_Zq.moved hW (vx_Zq.kept h.1 hk), vx_Zq.moved hW (vx_Zq.kept h.2 hk)⟩
theorem lc_N.warm {S : lc_Se} {s U : State} (hW : s.WarmedH U.vm) (hk : ∀ a : Nat, a < s.heap.size → ¬ lc_A S a → U.heap[a]? = s.heap[a]?) (h : lc_N S s) : lc_N S U := by
  refine ⟨h.1.warm hW, h.2.1.moved hW.alike (fun E => va_Nw.warmC hW) (fun x => lc_decl.warm hW), fun q hq => ?_, h.2.2.2.kept hW.alike hk⟩
  obtain ⟨a, ha⟩ := h.2.2.1 q hq
  exact ⟨a, vk_R.warm hW ha⟩
theorem lc_N.same {S : lc_Se} {s U : State} (hv : s.vm = U.vm) (hh : U.heap = s.heap) (h : lc_N S s) : lc_N S U := by
  have hal : s.vm.Alike U.vm := hv ▸ Vm.Alike.refl s.vm
  refine ⟨h.1.same hv, h.2.1.moved hal (fun E => va_Nw.same rfl hv) (fun x => va_Nw.same rfl hv), fun q hq => ?_, h.2.2.2.kept hal (fun a _ _ => by rw [hh])⟩
  obtain ⟨a, ha⟩ := h.2.2.1 q hq
  exact ⟨a, vk_R.same hv.symm ha⟩
