section LAW
variable {S : lc_Se} {X : lc_X} {cc : ByteArray} {own : String} {rt : Option FieldType} {rm : Room} {n k j : Nat} {Q : State → Prop} {pc pc' : Nat} {lo lo' : List (Nat × Value)} {st : List Value} {M M' : lc_MM}
theorem lc_slen (C : lc_C X cc own n rt rm) {bS L : Nat} {xs : Nat → Int32} (hX : va_X bS L xs (lc_Xs X) (lc_Xs X).heap) (hbl : bS < (lc_Xs X).heap.size) (hbA : ¬ lc_A S bS) (d : decode cc pc = .ok (.arraylength, 1)) (hq : pc + 1 = pc') (kk : lc_J S X n k j Q pc' lo (.int (Int32.ofNat L) :: st) M) : lc_J S X n k j Q pc lo (.ref bS :: st) M := by
  subst hq
  exact fun H locs ls hG h => va_slen C.1 C.2.1 hX hbl hbA hG.2.2.2.1 d (kk H locs ls hG h)
theorem lc_sld (C : lc_C X cc own n rt rm) {bS L : Nat} {xs : Nat → Int32} {i : Int32} (hX : va_X bS L xs (lc_Xs X) (lc_Xs X).heap) (hbl : bS < (lc_Xs X).heap.size) (hbA : ¬ lc_A S bS) (hi : lc_ok i L) (d : decode cc pc = .ok (.iaload, 1)) (hq : pc + 1 = pc') (kk : lc_J S X n k j Q pc' lo (.int (xs i.toNatClampNeg) :: st) M) : lc_J S X n k j Q pc lo (.int i :: .ref bS :: st) M := by
  subst hq
  exact fun H locs ls hG h => va_sld C.1 C.2.1 hX hbl hbA hG.2.2.2.1 hi d (kk H locs ls hG h)
theorem lc_keq {k' j' : Nat} (h1 : k = k') (h2 : j = j') (kk : lc_J S X n k' j' Q pc lo st M) : lc_J S X n k j Q pc lo st M := by subst h1; subst h2; exact kk
end LAW
theorem kcL_168 : Cond.constantLong RL 168 (4294967295) ∈ lc_T := lc_in (List.mem_of_getElem? (i := 1120) (by decide +kernel)) rfl
def P_L_law_1619 (K : Int32 → lc_MM → Option Int32) (x4 : Int32) (M : lc_MM) : Option Int32 := K (x4 + (5 : Int32)) M
theorem w_L_law_1619 {S : lc_Se} {X : lc_X} {Q : State → Prop} {bS : Nat} {k j : Nat} (C : lc_C X cL_law RL 7 ret room_1) (K : Int32 → lc_MM → Option Int32) (hK : ∀ (x4 : Int32) (M : lc_MM), K x4 M = some 1 → lc_J S X 7 k j Q 23 [(0, .ref bS), (1, .ref (lc_ad S 194)), (2, .ref (lc_ad S 197)), (3, .ref (lc_ad S 206)), (4, .int x4)] [] M) (x4 : Int32) (M : lc_MM) (h : P_L_law_1619 K x4 M = some 1) : lc_J S X 7 k j Q 1619 [(0, .ref bS), (1, .ref (lc_ad S 194)), (2, .ref (lc_ad S 197)), (3, .ref (lc_ad S 206)), (4, .int x4)] [] M := by
  refine lc_iinc C (pc' := 1622) (lo' := [(4, .int (x4 + 5)), (0, .ref bS), (1, .ref (lc_ad S 194)), (2, .ref (lc_ad S 197)), (3, .ref (lc_ad S 206))]) (q := 4) dL_law_1619 rfl rfl (Nat.le_of_ble_eq_true rfl) rfl rfl ?_
  refine lc_goto C (tgt := 23) dL_law_1622 (by decide) ?_
  refine lc_sub (lo' := [(0, .ref bS), (1, .ref (lc_ad S 194)), (2, .ref (lc_ad S 197)), (3, .ref (lc_ad S 206)), (4, .int (x4 + 5))]) [1, 2, 3, 4, 0] rfl ?_
  exact hK _ M h
def P_L_case0 (L : Nat) (xs : Nat → Int32) (K : Int32 → lc_MM → Option Int32) (x4 : Int32) (M : lc_MM) : Option Int32 :=
  lc_if (lc_ok (x4 + (1 : Int32)) L) (lc_bd2 (P_L_append (xs (x4 + (1 : Int32)).toNatClampNeg) M) (fun r160 M1 => lc_if (lc_ok (x4 + (1 : Int32)) L) (lc_bd2 (P_X4_append (xs (x4 + (1 : Int32)).toNatClampNeg) (M1 22)) (fun r172 s2 => lc_let (va_up M1 22 s2) (fun M3 => lc_bd (P_X4_thrown  (M3 22)) (fun r178 => if r178 = r160 then if r160 = 0 then if (lg_cmp (M3 23 0 0).toInt64 r172.toInt64) = 0 then P_L_law_1619 K x4 M3 else some (0 : Int32) else P_L_law_1619 K x4 M3 else some (0 : Int32)))))))
set_option maxRecDepth 100000 in
set_option maxHeartbeats 4000000 in
theorem w_L_case0 {S : lc_Se} {X : lc_X} {Q : State → Prop} {bS L : Nat} {xs : Nat → Int32} {c0 s0 t : Nat} (C : lc_C X cL_law RL 7 ret room_1) (hl : X.2.1.stackTraces = false) (hX : va_X bS L xs (lc_Xs X) (lc_Xs X).heap) (hbl : bS < (lc_Xs X).heap.size) (hbA : ¬ lc_A S bS) (hr1 : c0 + t + 1 ≤ 601024) (hr2 : s0 + 6 * t + 6 ≤ 7293034) (hend : ∀ (k j pc : Nat) (lo : List (Nat × Value)) (M : lc_MM), k ≤ 601024 → j ≤ 7293034 → decode cL_law pc = .ok (.ireturn, 1) → lc_J S X 7 k j Q pc lo [.int 1] M) (K : Int32 → lc_MM → Option Int32) (hK : ∀ (x4 : Int32) (M : lc_MM), K x4 M = some 1 → lc_J S X 7 (c0 + t + 1) (s0 + 6 * t + 6) Q 23 [(0, .ref bS), (1, .ref (lc_ad S 194)), (2, .ref (lc_ad S 197)), (3, .ref (lc_ad S 206)), (4, .int x4)] [] M) (x4 : Int32) (M : lc_MM) (h : P_L_case0 L xs K x4 M = some 1) : lc_J S X 7 (c0 + t) (s0 + 6 * t) Q 152 [(0, .ref bS), (1, .ref (lc_ad S 194)), (2, .ref (lc_ad S 197)), (3, .ref (lc_ad S 206)), (4, .int x4)] [] M := by
  rw [P_L_case0] at h
  refine lc_aload_n C (pc' := 153) 1 dL_law_152 rfl rfl ?_
  refine lc_aload_n C (pc' := 154) 0 dL_law_153 rfl rfl ?_
  refine lc_iload C (pc' := 156) 4 dL_law_154 rfl rfl ?_
  refine lc_iconst C (pc' := 157) (v := (1 : Int32)) dL_law_156 (by decide) rfl ?_
  refine lc_iadd C (pc' := 158) dL_law_157 rfl ?_
  obtain ⟨hi158, h⟩ := lc_ife h
  refine lc_sld C (pc' := 159) hX hbl hbA hi158 dL_law_158 rfl ?_
  refine lc_aload_n C (pc' := 160) 3 dL_law_159 rfl rfl ?_
  obtain ⟨r160, M1, h160, h⟩ := lc_bd2e h
  refine lc_csW C (pc' := 163) (r := r160) (M' := M1) (As := [.ref (lc_ad S 194), .int (xs (x4 + (1 : Int32)).toNatClampNeg), .ref (lc_ad S 206)]) (rest := []) (c_L_append S X.2.1 hl (xs (x4 + (1 : Int32)).toNatClampNeg) M (r160, M1) h160) kw_L_append rfl rfl (Nat.le_of_ble_eq_true rfl) ⟨Nat.le_of_ble_eq_true rfl, Nat.le_of_ble_eq_true rfl⟩ ⟨hr1, hr2⟩ dL_law_160 rfl ?_
  refine lc_istore C (pc' := 165) (lo' := [(5, .int r160), (0, .ref bS), (1, .ref (lc_ad S 194)), (2, .ref (lc_ad S 197)), (3, .ref (lc_ad S 206)), (4, .int x4)]) dL_law_163 (Nat.le_of_ble_eq_true rfl) rfl rfl ?_
  refine lc_aload_n C (pc' := 166) 3 dL_law_165 rfl rfl ?_
  refine lc_aload_n C (pc' := 167) 1 dL_law_166 rfl rfl ?_
  refine lc_iload C (pc' := 169) 5 dL_law_167 rfl rfl ?_
  refine lc_iconst C (pc' := 170) (v := (1 : Int32)) dL_law_169 (by decide) rfl ?_
  refine lc_iadd C (pc' := 171) dL_law_170 rfl ?_
  obtain ⟨hi171, h⟩ := lc_ife h
  refine lc_sld C (pc' := 172) hX hbl hbA hi171 dL_law_171 rfl ?_
  refine lc_meq (lc_up_self M1 22).symm ?_
  obtain ⟨r172, s2, h172, h⟩ := lc_bd2e h
  refine lc_cvi C (pc' := 175) (r := r172) (M' := (va_up M1 22 s2)) (As := [.int (xs (x4 + (1 : Int32)).toNatClampNeg)]) (rest := []) (c_X4_append S X.2.1 M1   (xs (x4 + (1 : Int32)).toNatClampNeg) (M1 22) (r172, s2) h172) kl_RL_97 (lc_at197 S _) rfl rfl rfl rfl (Nat.le_of_ble_eq_true rfl) ⟨Nat.le_of_ble_eq_true rfl, Nat.le_of_ble_eq_true rfl⟩ ⟨rfl, rfl⟩ ⟨hr1, hr2⟩ dL_law_172 rfl ?_
  obtain ⟨M3, eM3, h⟩ := lc_let2 h
  refine lc_meq eM3 ?_
  refine lc_istore C (pc' := 177) (lo' := [(6, .int r172), (5, .int r160), (0, .ref bS), (1, .ref (lc_ad S 194)), (2, .ref (lc_ad S 197)), (3, .ref (lc_ad S 206)), (4, .int x4)]) dL_law_175 (Nat.le_of_ble_eq_true rfl) rfl rfl ?_
  refine lc_aload_n C (pc' := 178) 4 dL_law_177 rfl rfl ?_
  refine lc_meq (lc_up_self M3 22).symm ?_
  obtain ⟨r178, h178, h⟩ := lc_bde h
  refine lc_cvi C (pc' := 181) (r := r178) (M' := (va_up M3 22 (M3 22))) (As := []) (rest := []) (c_X4_thrown S X.2.1 M3    (M3 22) r178 h178) kl_RL_98 (lc_at197 S _) rfl rfl rfl rfl (Nat.le_of_ble_eq_true rfl) ⟨Nat.le_of_ble_eq_true rfl, Nat.le_of_ble_eq_true rfl⟩ ⟨rfl, rfl⟩ ⟨hr1, hr2⟩ dL_law_178 rfl ?_
  refine lc_meq (lc_up_self M3 22) ?_
  refine lc_iload C (pc' := 183) 1 dL_law_181 rfl rfl ?_
  refine lc_icmp_eq C (pc' := 186) (tgt := 188) dL_law_183 (by decide) rfl (fun c183 => ?_) (fun c183 => ?_)
  · have h := (lc_if2 h).1 c183
    refine lc_iload C (pc' := 190) 1 dL_law_188 rfl rfl ?_
    refine lc_if_ne C (pc' := 193) (tgt := 205) dL_law_190 (by decide) rfl (fun c190 => ?_) (fun c190 => ?_)
    · have h := (lc_if2 h).2 c190
      refine lc_goto C (tgt := 1619) dL_law_205 (by decide) ?_
      refine lc_sub (lo' := [(0, .ref bS), (1, .ref (lc_ad S 194)), (2, .ref (lc_ad S 197)), (3, .ref (lc_ad S 206)), (4, .int x4)]) [2, 3, 4, 5, 6] rfl ?_
      exact w_L_law_1619 C K hK x4 M3 h
    · have h := (lc_if2 h).1 c190
      refine lc_aload_n C (pc' := 194) 5 dL_law_193 rfl rfl ?_
      refine lc_iconst C (pc' := 195) (v := (0 : Int32)) dL_law_194 (by decide) rfl ?_
      refine lc_lld C (pc' := 196) dL_law_195 rfl ?_
      refine lc_iload C (pc' := 198) 0 dL_law_196 rfl rfl ?_
      refine lc_i2l C (pc' := 199) dL_law_198 rfl ?_
      refine lc_lcmp C (pc' := 200) dL_law_199 rfl ?_
      refine lc_if_eq C (pc' := 203) (tgt := 205) dL_law_200 (by decide) rfl (fun c200 => ?_) (fun c200 => ?_)
      · have h := (lc_if2 h).1 c200
        refine lc_goto C (tgt := 1619) dL_law_205 (by decide) ?_
        refine lc_sub (lo' := [(0, .ref bS), (1, .ref (lc_ad S 194)), (2, .ref (lc_ad S 197)), (3, .ref (lc_ad S 206)), (4, .int x4)]) [2, 3, 4, 5, 6] rfl ?_
        exact w_L_law_1619 C K hK x4 M3 h
      · have h := (lc_if2 h).2 c200
        refine lc_iconst C (pc' := 204) (v := (0 : Int32)) dL_law_203 (by decide) rfl ?_
        exact absurd (Option.some.inj h) (by decide)
  · have h := (lc_if2 h).2 c183
    refine lc_iconst C (pc' := 187) (v := (0 : Int32)) dL_law_186 (by decide) rfl ?_
    exact absurd (Option.some.inj h) (by decide)
def P_L_case1 (L : Nat) (xs : Nat → Int32) (K : Int32 → lc_MM → Option Int32) (x4 : Int32) (M : lc_MM) : Option Int32 :=
  lc_bd2 (P_X3_clearText  M) (fun r209 M4 => lc_bd2 (P_X4_clearText  (M4 22)) (fun r213 s5 => lc_let (va_up M4 22 s5) (fun M6 => if r209 = r213 then P_L_law_1619 K x4 M6 else some (0 : Int32))))
set_option maxRecDepth 100000 in
set_option maxHeartbeats 4000000 in
theorem w_L_case1 {S : lc_Se} {X : lc_X} {Q : State → Prop} {bS L : Nat} {xs : Nat → Int32} {c0 s0 t : Nat} (C : lc_C X cL_law RL 7 ret room_1) (hl : X.2.1.stackTraces = false) (hX : va_X bS L xs (lc_Xs X) (lc_Xs X).heap) (hbl : bS < (lc_Xs X).heap.size) (hbA : ¬ lc_A S bS) (hr1 : c0 + t + 1 ≤ 601024) (hr2 : s0 + 6 * t + 6 ≤ 7293034) (hend : ∀ (k j pc : Nat) (lo : List (Nat × Value)) (M : lc_MM), k ≤ 601024 → j ≤ 7293034 → decode cL_law pc = .ok (.ireturn, 1) → lc_J S X 7 k j Q pc lo [.int 1] M) (K : Int32 → lc_MM → Option Int32) (hK : ∀ (x4 : Int32) (M : lc_MM), K x4 M = some 1 → lc_J S X 7 (c0 + t + 1) (s0 + 6 * t + 6) Q 23 [(0, .ref bS), (1, .ref (lc_ad S 194)), (2, .ref (lc_ad S 197)), (3, .ref (lc_ad S 206)), (4, .int x4)] [] M) (x4 : Int32) (M : lc_MM) (h : P_L_case1 L xs K x4 M = some 1) : lc_J S X 7 (c0 + t) (s0 + 6 * t) Q 208 [(0, .ref bS), (1, .ref (lc_ad S 194)), (2, .ref (lc_ad S 197)), (3, .ref (lc_ad S 206)), (4, .int x4)] [] M := by
  rw [P_L_case1] at h
  refine lc_aload_n C (pc' := 209) 1 dL_law_208 rfl rfl ?_
  obtain ⟨r209, M4, h209, h⟩ := lc_bd2e h
  refine lc_cvi C (pc' := 212) (r := r209) (M' := M4) (As := []) (rest := []) (c_X3_clearText S X.2.1   M (r209, M4) h209) kl_RL_101 (lc_at194 S _) rfl rfl rfl rfl (Nat.le_of_ble_eq_true rfl) ⟨Nat.le_of_ble_eq_true rfl, Nat.le_of_ble_eq_true rfl⟩ ⟨rfl, rfl⟩ ⟨Nat.le_of_succ_le hr1, Nat.le_trans (Nat.le_add_right _ 6) hr2⟩ dL_law_209 rfl ?_
  refine lc_aload_n C (pc' := 213) 2 dL_law_212 rfl rfl ?_
  refine lc_meq (lc_up_self M4 22).symm ?_
  obtain ⟨r213, s5, h213, h⟩ := lc_bd2e h
  refine lc_cvi C (pc' := 216) (r := r213) (M' := (va_up M4 22 s5)) (As := []) (rest := [.int r209]) (c_X4_clearText S X.2.1 M4    (M4 22) (r213, s5) h213) kl_RL_104 (lc_at197 S _) rfl rfl rfl rfl (Nat.le_of_ble_eq_true rfl) ⟨Nat.le_of_ble_eq_true rfl, Nat.le_of_ble_eq_true rfl⟩ ⟨rfl, rfl⟩ ⟨Nat.le_of_succ_le hr1, Nat.le_trans (Nat.le_add_right _ 6) hr2⟩ dL_law_213 rfl ?_
  obtain ⟨M6, eM6, h⟩ := lc_let2 h
  refine lc_meq eM6 ?_
  refine lc_icmp_eq C (pc' := 219) (tgt := 1619) dL_law_216 (by decide) rfl (fun c216 => ?_) (fun c216 => ?_)
  · have h := (lc_if2 h).1 c216
    refine lc_wid (k' := c0 + t + 1) (j' := s0 + 6 * t + 6) (Nat.le_succ _) (Nat.le_add_right _ 6) ?_
    refine lc_sub (lo' := [(0, .ref bS), (1, .ref (lc_ad S 194)), (2, .ref (lc_ad S 197)), (3, .ref (lc_ad S 206)), (4, .int x4)]) [0, 1, 2, 3, 4] rfl ?_
    exact w_L_law_1619 C K hK x4 M6 h
  · have h := (lc_if2 h).2 c216
    refine lc_iconst C (pc' := 220) (v := (0 : Int32)) dL_law_219 (by decide) rfl ?_
    exact absurd (Option.some.inj h) (by decide)
def P_L_case2 (L : Nat) (xs : Nat → Int32) (K : Int32 → lc_MM → Option Int32) (x4 : Int32) (M : lc_MM) : Option Int32 :=
  lc_bd2 (P_X3_errorPosition  M) (fun r222 M7 => lc_bd2 (P_X4_errorPosition  (M7 22)) (fun r226 s8 => lc_let (va_up M7 22 s8) (fun M9 => if r222 = r226 then P_L_law_1619 K x4 M9 else some (0 : Int32))))
set_option maxRecDepth 100000 in
set_option maxHeartbeats 4000000 in
theorem w_L_case2 {S : lc_Se} {X : lc_X} {Q : State → Prop} {bS L : Nat} {xs : Nat → Int32} {c0 s0 t : Nat} (C : lc_C X cL_law RL 7 ret room_1) (hl : X.2.1.stackTraces = false) (hX : va_X bS L xs (lc_Xs X) (lc_Xs X).heap) (hbl : bS < (lc_Xs X).heap.size) (hbA : ¬ lc_A S bS) (hr1 : c0 + t + 1 ≤ 601024) (hr2 : s0 + 6 * t + 6 ≤ 7293034) (hend : ∀ (k j pc : Nat) (lo : List (Nat × Value)) (M : lc_MM), k ≤ 601024 → j ≤ 7293034 → decode cL_law pc = .ok (.ireturn, 1) → lc_J S X 7 k j Q pc lo [.int 1] M) (K : Int32 → lc_MM → Option Int32) (hK : ∀ (x4 : Int32) (M : lc_MM), K x4 M = some 1 → lc_J S X 7 (c0 + t + 1) (s0 + 6 * t + 6) Q 23 [(0, .ref bS), (1, .ref (lc_ad S 194)), (2, .ref (lc_ad S 197)), (3, .ref (lc_ad S 206)), (4, .int x4)] [] M) (x4 : Int32) (M : lc_MM) (h : P_L_case2 L xs K x4 M = some 1) : lc_J S X 7 (c0 + t) (s0 + 6 * t) Q 221 [(0, .ref bS), (1, .ref (lc_ad S 194)), (2, .ref (lc_ad S 197)), (3, .ref (lc_ad S 206)), (4, .int x4)] [] M := by
  rw [P_L_case2] at h
  refine lc_aload_n C (pc' := 222) 1 dL_law_221 rfl rfl ?_
  obtain ⟨r222, M7, h222, h⟩ := lc_bd2e h
  refine lc_cvi C (pc' := 225) (r := r222) (M' := M7) (As := []) (rest := []) (c_X3_errorPosition S X.2.1   M (r222, M7) h222) kl_RL_105 (lc_at194 S _) rfl rfl rfl rfl (Nat.le_of_ble_eq_true rfl) ⟨Nat.le_of_ble_eq_true rfl, Nat.le_of_ble_eq_true rfl⟩ ⟨rfl, rfl⟩ ⟨Nat.le_of_succ_le hr1, Nat.le_trans (Nat.le_add_right _ 6) hr2⟩ dL_law_222 rfl ?_
  refine lc_aload_n C (pc' := 226) 2 dL_law_225 rfl rfl ?_
  refine lc_meq (lc_up_self M7 22).symm ?_
  obtain ⟨r226, s8, h226, h⟩ := lc_bd2e h
  refine lc_cvi C (pc' := 229) (r := r226) (M' := (va_up M7 22 s8)) (As := []) (rest := [.int r222]) (c_X4_errorPosition S X.2.1 M7    (M7 22) (r226, s8) h226) kl_RL_108 (lc_at197 S _) rfl rfl rfl rfl (Nat.le_of_ble_eq_true rfl) ⟨Nat.le_of_ble_eq_true rfl, Nat.le_of_ble_eq_true rfl⟩ ⟨rfl, rfl⟩ ⟨Nat.le_of_succ_le hr1, Nat.le_trans (Nat.le_add_right _ 6) hr2⟩ dL_law_226 rfl ?_
  obtain ⟨M9, eM9, h⟩ := lc_let2 h
  refine lc_meq eM9 ?_
  refine lc_icmp_eq C (pc' := 232) (tgt := 1619) dL_law_229 (by decide) rfl (fun c229 => ?_) (fun c229 => ?_)
  · have h := (lc_if2 h).1 c229
    refine lc_wid (k' := c0 + t + 1) (j' := s0 + 6 * t + 6) (Nat.le_succ _) (Nat.le_add_right _ 6) ?_
    refine lc_sub (lo' := [(0, .ref bS), (1, .ref (lc_ad S 194)), (2, .ref (lc_ad S 197)), (3, .ref (lc_ad S 206)), (4, .int x4)]) [0, 1, 2, 3, 4] rfl ?_
    exact w_L_law_1619 C K hK x4 M9 h
  · have h := (lc_if2 h).2 c229
    refine lc_iconst C (pc' := 233) (v := (0 : Int32)) dL_law_232 (by decide) rfl ?_
    exact absurd (Option.some.inj h) (by decide)
def P_L_case3 (L : Nat) (xs : Nat → Int32) (K : Int32 → lc_MM → Option Int32) (x4 : Int32) (M : lc_MM) : Option Int32 :=
  lc_bd2 (P_L_load  M) (fun r236 M10 => lc_bd2 (P_X4_load  (M10 22)) (fun r242 s11 => lc_let (va_up M10 22 s11) (fun M12 => lc_bd (P_X4_thrown  (M12 22)) (fun r248 => if r248 = r236 then if r236 = 0 then if (lg_cmp (M12 23 0 0).toInt64 r242.toInt64) = 0 then P_L_law_1619 K x4 M12 else some (0 : Int32) else P_L_law_1619 K x4 M12 else some (0 : Int32)))))
set_option maxRecDepth 100000 in
set_option maxHeartbeats 4000000 in
theorem w_L_case3 {S : lc_Se} {X : lc_X} {Q : State → Prop} {bS L : Nat} {xs : Nat → Int32} {c0 s0 t : Nat} (C : lc_C X cL_law RL 7 ret room_1) (hl : X.2.1.stackTraces = false) (hX : va_X bS L xs (lc_Xs X) (lc_Xs X).heap) (hbl : bS < (lc_Xs X).heap.size) (hbA : ¬ lc_A S bS) (hr1 : c0 + t + 1 ≤ 601024) (hr2 : s0 + 6 * t + 6 ≤ 7293034) (hend : ∀ (k j pc : Nat) (lo : List (Nat × Value)) (M : lc_MM), k ≤ 601024 → j ≤ 7293034 → decode cL_law pc = .ok (.ireturn, 1) → lc_J S X 7 k j Q pc lo [.int 1] M) (K : Int32 → lc_MM → Option Int32) (hK : ∀ (x4 : Int32) (M : lc_MM), K x4 M = some 1 → lc_J S X 7 (c0 + t + 1) (s0 + 6 * t + 6) Q 23 [(0, .ref bS), (1, .ref (lc_ad S 194)), (2, .ref (lc_ad S 197)), (3, .ref (lc_ad S 206)), (4, .int x4)] [] M) (x4 : Int32) (M : lc_MM) (h : P_L_case3 L xs K x4 M = some 1) : lc_J S X 7 (c0 + t) (s0 + 6 * t) Q 234 [(0, .ref bS), (1, .ref (lc_ad S 194)), (2, .ref (lc_ad S 197)), (3, .ref (lc_ad S 206)), (4, .int x4)] [] M := by
  rw [P_L_case3] at h
  refine lc_aload_n C (pc' := 235) 1 dL_law_234 rfl rfl ?_
  refine lc_aload_n C (pc' := 236) 3 dL_law_235 rfl rfl ?_
  obtain ⟨r236, M10, h236, h⟩ := lc_bd2e h
  refine lc_csW C (pc' := 239) (r := r236) (M' := M10) (As := [.ref (lc_ad S 194), .ref (lc_ad S 206)]) (rest := []) (c_L_load S X.2.1 hl  M (r236, M10) h236) kw_L_load rfl rfl (Nat.le_of_ble_eq_true rfl) ⟨Nat.le_of_ble_eq_true rfl, Nat.le_of_ble_eq_true rfl⟩ ⟨hr1, hr2⟩ dL_law_236 rfl ?_
  refine lc_istore C (pc' := 241) (lo' := [(5, .int r236), (0, .ref bS), (1, .ref (lc_ad S 194)), (2, .ref (lc_ad S 197)), (3, .ref (lc_ad S 206)), (4, .int x4)]) dL_law_239 (Nat.le_of_ble_eq_true rfl) rfl rfl ?_
  refine lc_aload_n C (pc' := 242) 3 dL_law_241 rfl rfl ?_
  refine lc_meq (lc_up_self M10 22).symm ?_
  obtain ⟨r242, s11, h242, h⟩ := lc_bd2e h
  refine lc_cvi C (pc' := 245) (r := r242) (M' := (va_up M10 22 s11)) (As := []) (rest := []) (c_X4_load S X.2.1 M10    (M10 22) (r242, s11) h242) kl_RL_112 (lc_at197 S _) rfl rfl rfl rfl (Nat.le_of_ble_eq_true rfl) ⟨Nat.le_of_ble_eq_true rfl, Nat.le_of_ble_eq_true rfl⟩ ⟨rfl, rfl⟩ ⟨hr1, hr2⟩ dL_law_242 rfl ?_
  obtain ⟨M12, eM12, h⟩ := lc_let2 h
  refine lc_meq eM12 ?_
  refine lc_istore C (pc' := 247) (lo' := [(6, .int r242), (5, .int r236), (0, .ref bS), (1, .ref (lc_ad S 194)), (2, .ref (lc_ad S 197)), (3, .ref (lc_ad S 206)), (4, .int x4)]) dL_law_245 (Nat.le_of_ble_eq_true rfl) rfl rfl ?_
  refine lc_aload_n C (pc' := 248) 4 dL_law_247 rfl rfl ?_
  refine lc_meq (lc_up_self M12 22).symm ?_
  obtain ⟨r248, h248, h⟩ := lc_bde h
  refine lc_cvi C (pc' := 251) (r := r248) (M' := (va_up M12 22 (M12 22))) (As := []) (rest := []) (c_X4_thrown S X.2.1 M12    (M12 22) r248 h248) kl_RL_98 (lc_at197 S _) rfl rfl rfl rfl (Nat.le_of_ble_eq_true rfl) ⟨Nat.le_of_ble_eq_true rfl, Nat.le_of_ble_eq_true rfl⟩ ⟨rfl, rfl⟩ ⟨hr1, hr2⟩ dL_law_248 rfl ?_
  refine lc_meq (lc_up_self M12 22) ?_
  refine lc_iload C (pc' := 253) 1 dL_law_251 rfl rfl ?_
  refine lc_icmp_eq C (pc' := 256) (tgt := 258) dL_law_253 (by decide) rfl (fun c253 => ?_) (fun c253 => ?_)
  · have h := (lc_if2 h).1 c253
    refine lc_iload C (pc' := 260) 1 dL_law_258 rfl rfl ?_
    refine lc_if_ne C (pc' := 263) (tgt := 275) dL_law_260 (by decide) rfl (fun c260 => ?_) (fun c260 => ?_)
    · have h := (lc_if2 h).2 c260
      refine lc_goto C (tgt := 1619) dL_law_275 (by decide) ?_
      refine lc_sub (lo' := [(0, .ref bS), (1, .ref (lc_ad S 194)), (2, .ref (lc_ad S 197)), (3, .ref (lc_ad S 206)), (4, .int x4)]) [2, 3, 4, 5, 6] rfl ?_
      exact w_L_law_1619 C K hK x4 M12 h
    · have h := (lc_if2 h).1 c260
      refine lc_aload_n C (pc' := 264) 5 dL_law_263 rfl rfl ?_
      refine lc_iconst C (pc' := 265) (v := (0 : Int32)) dL_law_264 (by decide) rfl ?_
      refine lc_lld C (pc' := 266) dL_law_265 rfl ?_
      refine lc_iload C (pc' := 268) 0 dL_law_266 rfl rfl ?_
      refine lc_i2l C (pc' := 269) dL_law_268 rfl ?_
      refine lc_lcmp C (pc' := 270) dL_law_269 rfl ?_
      refine lc_if_eq C (pc' := 273) (tgt := 275) dL_law_270 (by decide) rfl (fun c270 => ?_) (fun c270 => ?_)
      · have h := (lc_if2 h).1 c270
        refine lc_goto C (tgt := 1619) dL_law_275 (by decide) ?_
        refine lc_sub (lo' := [(0, .ref bS), (1, .ref (lc_ad S 194)), (2, .ref (lc_ad S 197)), (3, .ref (lc_ad S 206)), (4, .int x4)]) [2, 3, 4, 5, 6] rfl ?_
        exact w_L_law_1619 C K hK x4 M12 h
      · have h := (lc_if2 h).2 c270
        refine lc_iconst C (pc' := 274) (v := (0 : Int32)) dL_law_273 (by decide) rfl ?_
        exact absurd (Option.some.inj h) (by decide)
  · have h := (lc_if2 h).2 c253
    refine lc_iconst C (pc' := 257) (v := (0 : Int32)) dL_law_256 (by decide) rfl ?_
    exact absurd (Option.some.inj h) (by decide)
def P_L_case4 (L : Nat) (xs : Nat → Int32) (K : Int32 → lc_MM → Option Int32) (x4 : Int32) (M : lc_MM) : Option Int32 :=
  lc_if (lc_ok (x4 + (1 : Int32)) L) (lc_bd2 (P_L_about (xs (x4 + (1 : Int32)).toNatClampNeg) M) (fun r286 M13 => lc_if (lc_ok (x4 + (1 : Int32)) L) (lc_bd2 (P_X4_about (xs (x4 + (1 : Int32)).toNatClampNeg) (M13 22)) (fun r298 s14 => lc_let (va_up M13 22 s14) (fun M15 => lc_bd (P_X4_thrown  (M15 22)) (fun r304 => if r304 = r286 then if r286 = 0 then if (lg_cmp (M15 23 0 0).toInt64 r298.toInt64) = 0 then P_L_law_1619 K x4 M15 else some (0 : Int32) else P_L_law_1619 K x4 M15 else some (0 : Int32)))))))
set_option maxRecDepth 100000 in
set_option maxHeartbeats 4000000 in
theorem w_L_case4 {S : lc_Se} {X : lc_X} {Q : State → Prop} {bS L : Nat} {xs : Nat → Int32} {c0 s0 t : Nat} (C : lc_C X cL_law RL 7 ret room_1) (hl : X.2.1.stackTraces = false) (hX : va_X bS L xs (lc_Xs X) (lc_Xs X).heap) (hbl : bS < (lc_Xs X).heap.size) (hbA : ¬ lc_A S bS) (hr1 : c0 + t + 1 ≤ 601024) (hr2 : s0 + 6 * t + 6 ≤ 7293034) (hend : ∀ (k j pc : Nat) (lo : List (Nat × Value)) (M : lc_MM), k ≤ 601024 → j ≤ 7293034 → decode cL_law pc = .ok (.ireturn, 1) → lc_J S X 7 k j Q pc lo [.int 1] M) (K : Int32 → lc_MM → Option Int32) (hK : ∀ (x4 : Int32) (M : lc_MM), K x4 M = some 1 → lc_J S X 7 (c0 + t + 1) (s0 + 6 * t + 6) Q 23 [(0, .ref bS), (1, .ref (lc_ad S 194)), (2, .ref (lc_ad S 197)), (3, .ref (lc_ad S 206)), (4, .int x4)] [] M) (x4 : Int32) (M : lc_MM) (h : P_L_case4 L xs K x4 M = some 1) : lc_J S X 7 (c0 + t) (s0 + 6 * t) Q 278 [(0, .ref bS), (1, .ref (lc_ad S 194)), (2, .ref (lc_ad S 197)), (3, .ref (lc_ad S 206)), (4, .int x4)] [] M := by
  rw [P_L_case4] at h
  refine lc_aload_n C (pc' := 279) 1 dL_law_278 rfl rfl ?_
  refine lc_aload_n C (pc' := 280) 0 dL_law_279 rfl rfl ?_
  refine lc_iload C (pc' := 282) 4 dL_law_280 rfl rfl ?_
  refine lc_iconst C (pc' := 283) (v := (1 : Int32)) dL_law_282 (by decide) rfl ?_
  refine lc_iadd C (pc' := 284) dL_law_283 rfl ?_
  obtain ⟨hi284, h⟩ := lc_ife h
  refine lc_sld C (pc' := 285) hX hbl hbA hi284 dL_law_284 rfl ?_
  refine lc_aload_n C (pc' := 286) 3 dL_law_285 rfl rfl ?_
  obtain ⟨r286, M13, h286, h⟩ := lc_bd2e h
  refine lc_csW C (pc' := 289) (r := r286) (M' := M13) (As := [.ref (lc_ad S 194), .int (xs (x4 + (1 : Int32)).toNatClampNeg), .ref (lc_ad S 206)]) (rest := []) (c_L_about S X.2.1 hl (xs (x4 + (1 : Int32)).toNatClampNeg) M (r286, M13) h286) kw_L_about rfl rfl (Nat.le_of_ble_eq_true rfl) ⟨Nat.le_of_ble_eq_true rfl, Nat.le_of_ble_eq_true rfl⟩ ⟨hr1, hr2⟩ dL_law_286 rfl ?_
  refine lc_istore C (pc' := 291) (lo' := [(5, .int r286), (0, .ref bS), (1, .ref (lc_ad S 194)), (2, .ref (lc_ad S 197)), (3, .ref (lc_ad S 206)), (4, .int x4)]) dL_law_289 (Nat.le_of_ble_eq_true rfl) rfl rfl ?_
  refine lc_aload_n C (pc' := 292) 3 dL_law_291 rfl rfl ?_
  refine lc_aload_n C (pc' := 293) 1 dL_law_292 rfl rfl ?_
  refine lc_iload C (pc' := 295) 5 dL_law_293 rfl rfl ?_
  refine lc_iconst C (pc' := 296) (v := (1 : Int32)) dL_law_295 (by decide) rfl ?_
  refine lc_iadd C (pc' := 297) dL_law_296 rfl ?_
  obtain ⟨hi297, h⟩ := lc_ife h
  refine lc_sld C (pc' := 298) hX hbl hbA hi297 dL_law_297 rfl ?_
  refine lc_meq (lc_up_self M13 22).symm ?_
  obtain ⟨r298, s14, h298, h⟩ := lc_bd2e h
  refine lc_cvi C (pc' := 301) (r := r298) (M' := (va_up M13 22 s14)) (As := [.int (xs (x4 + (1 : Int32)).toNatClampNeg)]) (rest := []) (c_X4_about S X.2.1 M13   (xs (x4 + (1 : Int32)).toNatClampNeg) (M13 22) (r298, s14) h298) kl_RL_115 (lc_at197 S _) rfl rfl rfl rfl (Nat.le_of_ble_eq_true rfl) ⟨Nat.le_of_ble_eq_true rfl, Nat.le_of_ble_eq_true rfl⟩ ⟨rfl, rfl⟩ ⟨hr1, hr2⟩ dL_law_298 rfl ?_
  obtain ⟨M15, eM15, h⟩ := lc_let2 h
  refine lc_meq eM15 ?_
  refine lc_istore C (pc' := 303) (lo' := [(6, .int r298), (5, .int r286), (0, .ref bS), (1, .ref (lc_ad S 194)), (2, .ref (lc_ad S 197)), (3, .ref (lc_ad S 206)), (4, .int x4)]) dL_law_301 (Nat.le_of_ble_eq_true rfl) rfl rfl ?_
  refine lc_aload_n C (pc' := 304) 4 dL_law_303 rfl rfl ?_
  refine lc_meq (lc_up_self M15 22).symm ?_
  obtain ⟨r304, h304, h⟩ := lc_bde h
  refine lc_cvi C (pc' := 307) (r := r304) (M' := (va_up M15 22 (M15 22))) (As := []) (rest := []) (c_X4_thrown S X.2.1 M15    (M15 22) r304 h304) kl_RL_98 (lc_at197 S _) rfl rfl rfl rfl (Nat.le_of_ble_eq_true rfl) ⟨Nat.le_of_ble_eq_true rfl, Nat.le_of_ble_eq_true rfl⟩ ⟨rfl, rfl⟩ ⟨hr1, hr2⟩ dL_law_304 rfl ?_
  refine lc_meq (lc_up_self M15 22) ?_
  refine lc_iload C (pc' := 309) 1 dL_law_307 rfl rfl ?_
  refine lc_icmp_eq C (pc' := 312) (tgt := 314) dL_law_309 (by decide) rfl (fun c309 => ?_) (fun c309 => ?_)
  · have h := (lc_if2 h).1 c309
    refine lc_iload C (pc' := 316) 1 dL_law_314 rfl rfl ?_
    refine lc_if_ne C (pc' := 319) (tgt := 331) dL_law_316 (by decide) rfl (fun c316 => ?_) (fun c316 => ?_)
    · have h := (lc_if2 h).2 c316
      refine lc_goto C (tgt := 1619) dL_law_331 (by decide) ?_
      refine lc_sub (lo' := [(0, .ref bS), (1, .ref (lc_ad S 194)), (2, .ref (lc_ad S 197)), (3, .ref (lc_ad S 206)), (4, .int x4)]) [2, 3, 4, 5, 6] rfl ?_
      exact w_L_law_1619 C K hK x4 M15 h
    · have h := (lc_if2 h).1 c316
      refine lc_aload_n C (pc' := 320) 5 dL_law_319 rfl rfl ?_
      refine lc_iconst C (pc' := 321) (v := (0 : Int32)) dL_law_320 (by decide) rfl ?_
      refine lc_lld C (pc' := 322) dL_law_321 rfl ?_
      refine lc_iload C (pc' := 324) 0 dL_law_322 rfl rfl ?_
      refine lc_i2l C (pc' := 325) dL_law_324 rfl ?_
      refine lc_lcmp C (pc' := 326) dL_law_325 rfl ?_
      refine lc_if_eq C (pc' := 329) (tgt := 331) dL_law_326 (by decide) rfl (fun c326 => ?_) (fun c326 => ?_)
      · have h := (lc_if2 h).1 c326
        refine lc_goto C (tgt := 1619) dL_law_331 (by decide) ?_
        refine lc_sub (lo' := [(0, .ref bS), (1, .ref (lc_ad S 194)), (2, .ref (lc_ad S 197)), (3, .ref (lc_ad S 206)), (4, .int x4)]) [2, 3, 4, 5, 6] rfl ?_
        exact w_L_law_1619 C K hK x4 M15 h
      · have h := (lc_if2 h).2 c326
        refine lc_iconst C (pc' := 330) (v := (0 : Int32)) dL_law_329 (by decide) rfl ?_
        exact absurd (Option.some.inj h) (by decide)
  · have h := (lc_if2 h).2 c309
    refine lc_iconst C (pc' := 313) (v := (0 : Int32)) dL_law_312 (by decide) rfl ?_
    exact absurd (Option.some.inj h) (by decide)
def P_L_case5 (L : Nat) (xs : Nat → Int32) (K : Int32 → lc_MM → Option Int32) (x4 : Int32) (M : lc_MM) : Option Int32 :=
  lc_if (lc_ok (x4 + (1 : Int32)) L) (lc_if (lc_ok (x4 + (2 : Int32)) L) (lc_bd2 (P_L_cell (xs (x4 + (1 : Int32)).toNatClampNeg) (xs (x4 + (2 : Int32)).toNatClampNeg) M) (fun r348 M16 => lc_if (lc_ok (x4 + (1 : Int32)) L) (lc_if (lc_ok (x4 + (2 : Int32)) L) (lc_bd2 (P_X4_cell (xs (x4 + (1 : Int32)).toNatClampNeg) (xs (x4 + (2 : Int32)).toNatClampNeg) (M16 22)) (fun r366 s17 => lc_let (va_up M16 22 s17) (fun M18 => lc_bd (P_X4_thrown  (M18 22)) (fun r372 => if r372 = r348 then if r348 = 0 then if (lg_cmp (M18 23 0 0).toInt64 r366.toInt64) = 0 then P_L_law_1619 K x4 M18 else some (0 : Int32) else P_L_law_1619 K x4 M18 else some (0 : Int32)))))))))
set_option maxRecDepth 100000 in
set_option maxHeartbeats 4000000 in
theorem w_L_case5 {S : lc_Se} {X : lc_X} {Q : State → Prop} {bS L : Nat} {xs : Nat → Int32} {c0 s0 t : Nat} (C : lc_C X cL_law RL 7 ret room_1) (hl : X.2.1.stackTraces = false) (hX : va_X bS L xs (lc_Xs X) (lc_Xs X).heap) (hbl : bS < (lc_Xs X).heap.size) (hbA : ¬ lc_A S bS) (hr1 : c0 + t + 1 ≤ 601024) (hr2 : s0 + 6 * t + 6 ≤ 7293034) (hend : ∀ (k j pc : Nat) (lo : List (Nat × Value)) (M : lc_MM), k ≤ 601024 → j ≤ 7293034 → decode cL_law pc = .ok (.ireturn, 1) → lc_J S X 7 k j Q pc lo [.int 1] M) (K : Int32 → lc_MM → Option Int32) (hK : ∀ (x4 : Int32) (M : lc_MM), K x4 M = some 1 → lc_J S X 7 (c0 + t + 1) (s0 + 6 * t + 6) Q 23 [(0, .ref bS), (1, .ref (lc_ad S 194)), (2, .ref (lc_ad S 197)), (3, .ref (lc_ad S 206)), (4, .int x4)] [] M) (x4 : Int32) (M : lc_MM) (h : P_L_case5 L xs K x4 M = some 1) : lc_J S X 7 (c0 + t) (s0 + 6 * t) Q 334 [(0, .ref bS), (1, .ref (lc_ad S 194)), (2, .ref (lc_ad S 197)), (3, .ref (lc_ad S 206)), (4, .int x4)] [] M := by
  rw [P_L_case5] at h
  refine lc_aload_n C (pc' := 335) 1 dL_law_334 rfl rfl ?_
  refine lc_aload_n C (pc' := 336) 0 dL_law_335 rfl rfl ?_
  refine lc_iload C (pc' := 338) 4 dL_law_336 rfl rfl ?_
  refine lc_iconst C (pc' := 339) (v := (1 : Int32)) dL_law_338 (by decide) rfl ?_
  refine lc_iadd C (pc' := 340) dL_law_339 rfl ?_
  obtain ⟨hi340, h⟩ := lc_ife h
  refine lc_sld C (pc' := 341) hX hbl hbA hi340 dL_law_340 rfl ?_
  refine lc_aload_n C (pc' := 342) 0 dL_law_341 rfl rfl ?_
  refine lc_iload C (pc' := 344) 4 dL_law_342 rfl rfl ?_
  refine lc_iconst C (pc' := 345) (v := (2 : Int32)) dL_law_344 (by decide) rfl ?_
  refine lc_iadd C (pc' := 346) dL_law_345 rfl ?_
  obtain ⟨hi346, h⟩ := lc_ife h
  refine lc_sld C (pc' := 347) hX hbl hbA hi346 dL_law_346 rfl ?_
  refine lc_aload_n C (pc' := 348) 3 dL_law_347 rfl rfl ?_
  obtain ⟨r348, M16, h348, h⟩ := lc_bd2e h
  refine lc_csW C (pc' := 351) (r := r348) (M' := M16) (As := [.ref (lc_ad S 194), .int (xs (x4 + (1 : Int32)).toNatClampNeg), .int (xs (x4 + (2 : Int32)).toNatClampNeg), .ref (lc_ad S 206)]) (rest := []) (c_L_cell S X.2.1 hl (xs (x4 + (1 : Int32)).toNatClampNeg) (xs (x4 + (2 : Int32)).toNatClampNeg) M (r348, M16) h348) kw_L_cell rfl rfl (Nat.le_of_ble_eq_true rfl) ⟨Nat.le_of_ble_eq_true rfl, Nat.le_of_ble_eq_true rfl⟩ ⟨hr1, hr2⟩ dL_law_348 rfl ?_
  refine lc_istore C (pc' := 353) (lo' := [(5, .int r348), (0, .ref bS), (1, .ref (lc_ad S 194)), (2, .ref (lc_ad S 197)), (3, .ref (lc_ad S 206)), (4, .int x4)]) dL_law_351 (Nat.le_of_ble_eq_true rfl) rfl rfl ?_
  refine lc_aload_n C (pc' := 354) 3 dL_law_353 rfl rfl ?_
  refine lc_aload_n C (pc' := 355) 1 dL_law_354 rfl rfl ?_
  refine lc_iload C (pc' := 357) 5 dL_law_355 rfl rfl ?_
  refine lc_iconst C (pc' := 358) (v := (1 : Int32)) dL_law_357 (by decide) rfl ?_
  refine lc_iadd C (pc' := 359) dL_law_358 rfl ?_
  obtain ⟨hi359, h⟩ := lc_ife h
  refine lc_sld C (pc' := 360) hX hbl hbA hi359 dL_law_359 rfl ?_
  refine lc_aload_n C (pc' := 361) 1 dL_law_360 rfl rfl ?_
  refine lc_iload C (pc' := 363) 5 dL_law_361 rfl rfl ?_
  refine lc_iconst C (pc' := 364) (v := (2 : Int32)) dL_law_363 (by decide) rfl ?_
  refine lc_iadd C (pc' := 365) dL_law_364 rfl ?_
  obtain ⟨hi365, h⟩ := lc_ife h
  refine lc_sld C (pc' := 366) hX hbl hbA hi365 dL_law_365 rfl ?_
  refine lc_meq (lc_up_self M16 22).symm ?_
  obtain ⟨r366, s17, h366, h⟩ := lc_bd2e h
  refine lc_cvi C (pc' := 369) (r := r366) (M' := (va_up M16 22 s17)) (As := [.int (xs (x4 + (1 : Int32)).toNatClampNeg), .int (xs (x4 + (2 : Int32)).toNatClampNeg)]) (rest := []) (c_X4_cell S X.2.1 M16   (xs (x4 + (1 : Int32)).toNatClampNeg) (xs (x4 + (2 : Int32)).toNatClampNeg) (M16 22) (r366, s17) h366) kl_RL_119 (lc_at197 S _) rfl rfl rfl rfl (Nat.le_of_ble_eq_true rfl) ⟨Nat.le_of_ble_eq_true rfl, Nat.le_of_ble_eq_true rfl⟩ ⟨rfl, rfl⟩ ⟨hr1, hr2⟩ dL_law_366 rfl ?_
  obtain ⟨M18, eM18, h⟩ := lc_let2 h
  refine lc_meq eM18 ?_
  refine lc_istore C (pc' := 371) (lo' := [(6, .int r366), (5, .int r348), (0, .ref bS), (1, .ref (lc_ad S 194)), (2, .ref (lc_ad S 197)), (3, .ref (lc_ad S 206)), (4, .int x4)]) dL_law_369 (Nat.le_of_ble_eq_true rfl) rfl rfl ?_
  refine lc_aload_n C (pc' := 372) 4 dL_law_371 rfl rfl ?_
  refine lc_meq (lc_up_self M18 22).symm ?_
  obtain ⟨r372, h372, h⟩ := lc_bde h
  refine lc_cvi C (pc' := 375) (r := r372) (M' := (va_up M18 22 (M18 22))) (As := []) (rest := []) (c_X4_thrown S X.2.1 M18    (M18 22) r372 h372) kl_RL_98 (lc_at197 S _) rfl rfl rfl rfl (Nat.le_of_ble_eq_true rfl) ⟨Nat.le_of_ble_eq_true rfl, Nat.le_of_ble_eq_true rfl⟩ ⟨rfl, rfl⟩ ⟨hr1, hr2⟩ dL_law_372 rfl ?_
  refine lc_meq (lc_up_self M18 22) ?_
  refine lc_iload C (pc' := 377) 1 dL_law_375 rfl rfl ?_
  refine lc_icmp_eq C (pc' := 380) (tgt := 382) dL_law_377 (by decide) rfl (fun c377 => ?_) (fun c377 => ?_)
  · have h := (lc_if2 h).1 c377
    refine lc_iload C (pc' := 384) 1 dL_law_382 rfl rfl ?_
    refine lc_if_ne C (pc' := 387) (tgt := 399) dL_law_384 (by decide) rfl (fun c384 => ?_) (fun c384 => ?_)
    · have h := (lc_if2 h).2 c384
      refine lc_goto C (tgt := 1619) dL_law_399 (by decide) ?_
      refine lc_sub (lo' := [(0, .ref bS), (1, .ref (lc_ad S 194)), (2, .ref (lc_ad S 197)), (3, .ref (lc_ad S 206)), (4, .int x4)]) [2, 3, 4, 5, 6] rfl ?_
      exact w_L_law_1619 C K hK x4 M18 h
    · have h := (lc_if2 h).1 c384
      refine lc_aload_n C (pc' := 388) 5 dL_law_387 rfl rfl ?_
      refine lc_iconst C (pc' := 389) (v := (0 : Int32)) dL_law_388 (by decide) rfl ?_
      refine lc_lld C (pc' := 390) dL_law_389 rfl ?_
      refine lc_iload C (pc' := 392) 0 dL_law_390 rfl rfl ?_
      refine lc_i2l C (pc' := 393) dL_law_392 rfl ?_
      refine lc_lcmp C (pc' := 394) dL_law_393 rfl ?_
      refine lc_if_eq C (pc' := 397) (tgt := 399) dL_law_394 (by decide) rfl (fun c394 => ?_) (fun c394 => ?_)
      · have h := (lc_if2 h).1 c394
        refine lc_goto C (tgt := 1619) dL_law_399 (by decide) ?_
        refine lc_sub (lo' := [(0, .ref bS), (1, .ref (lc_ad S 194)), (2, .ref (lc_ad S 197)), (3, .ref (lc_ad S 206)), (4, .int x4)]) [2, 3, 4, 5, 6] rfl ?_
        exact w_L_law_1619 C K hK x4 M18 h
      · have h := (lc_if2 h).2 c394
        refine lc_iconst C (pc' := 398) (v := (0 : Int32)) dL_law_397 (by decide) rfl ?_
        exact absurd (Option.some.inj h) (by decide)
  · have h := (lc_if2 h).2 c377
    refine lc_iconst C (pc' := 381) (v := (0 : Int32)) dL_law_380 (by decide) rfl ?_
    exact absurd (Option.some.inj h) (by decide)
def P_L_case6 (L : Nat) (xs : Nat → Int32) (K : Int32 → lc_MM → Option Int32) (x4 : Int32) (M : lc_MM) : Option Int32 :=
  lc_if (lc_ok (x4 + (1 : Int32)) L) (lc_if (lc_ok (x4 + (2 : Int32)) L) (lc_bd2 (P_L_loan (xs (x4 + (1 : Int32)).toNatClampNeg) (xs (x4 + (2 : Int32)).toNatClampNeg) M) (fun r416 M19 => lc_if (lc_ok (x4 + (1 : Int32)) L) (lc_if (lc_ok (x4 + (2 : Int32)) L) (lc_bd2 (P_X4_loan (xs (x4 + (1 : Int32)).toNatClampNeg) (xs (x4 + (2 : Int32)).toNatClampNeg) (M19 22)) (fun r434 s20 => lc_let (va_up M19 22 s20) (fun M21 => lc_bd (P_X4_thrown  (M21 22)) (fun r440 => if r440 = r416 then if r416 = 0 then if (lg_cmp (M21 23 0 0).toInt64 r434.toInt64) = 0 then P_L_law_1619 K x4 M21 else some (0 : Int32) else P_L_law_1619 K x4 M21 else some (0 : Int32)))))))))
set_option maxRecDepth 100000 in
set_option maxHeartbeats 4000000 in
theorem w_L_case6 {S : lc_Se} {X : lc_X} {Q : State → Prop} {bS L : Nat} {xs : Nat → Int32} {c0 s0 t : Nat} (C : lc_C X cL_law RL 7 ret room_1) (hl : X.2.1.stackTraces = false) (hX : va_X bS L xs (lc_Xs X) (lc_Xs X).heap) (hbl : bS < (lc_Xs X).heap.size) (hbA : ¬ lc_A S bS) (hr1 : c0 + t + 1 ≤ 601024) (hr2 : s0 + 6 * t + 6 ≤ 7293034) (hend : ∀ (k j pc : Nat) (lo : List (Nat × Value)) (M : lc_MM), k ≤ 601024 → j ≤ 7293034 → decode cL_law pc = .ok (.ireturn, 1) → lc_J S X 7 k j Q pc lo [.int 1] M) (K : Int32 → lc_MM → Option Int32) (hK : ∀ (x4 : Int32) (M : lc_MM), K x4 M = some 1 → lc_J S X 7 (c0 + t + 1) (s0 + 6 * t + 6) Q 23 [(0, .ref bS), (1, .ref (lc_ad S 194)), (2, .ref (lc_ad S 197)), (3, .ref (lc_ad S 206)), (4, .int x4)] [] M) (x4 : Int32) (M : lc_MM) (h : P_L_case6 L xs K x4 M = some 1) : lc_J S X 7 (c0 + t) (s0 + 6 * t) Q 402 [(0, .ref bS), (1, .ref (lc_ad S 194)), (2, .ref (lc_ad S 197)), (3, .ref (lc_ad S 206)), (4, .int x4)] [] M := by
  rw [P_L_case6] at h
  refine lc_aload_n C (pc' := 403) 1 dL_law_402 rfl rfl ?_
  refine lc_aload_n C (pc' := 404) 0 dL_law_403 rfl rfl ?_
  refine lc_iload C (pc' := 406) 4 dL_law_404 rfl rfl ?_
  refine lc_iconst C (pc' := 407) (v := (1 : Int32)) dL_law_406 (by decide) rfl ?_
  refine lc_iadd C (pc' := 408) dL_law_407 rfl ?_
  obtain ⟨hi408, h⟩ := lc_ife h
  refine lc_sld C (pc' := 409) hX hbl hbA hi408 dL_law_408 rfl ?_
  refine lc_aload_n C (pc' := 410) 0 dL_law_409 rfl rfl ?_
  refine lc_iload C (pc' := 412) 4 dL_law_410 rfl rfl ?_
  refine lc_iconst C (pc' := 413) (v := (2 : Int32)) dL_law_412 (by decide) rfl ?_
  refine lc_iadd C (pc' := 414) dL_law_413 rfl ?_
  obtain ⟨hi414, h⟩ := lc_ife h
  refine lc_sld C (pc' := 415) hX hbl hbA hi414 dL_law_414 rfl ?_
  refine lc_aload_n C (pc' := 416) 3 dL_law_415 rfl rfl ?_
  obtain ⟨r416, M19, h416, h⟩ := lc_bd2e h
  refine lc_csW C (pc' := 419) (r := r416) (M' := M19) (As := [.ref (lc_ad S 194), .int (xs (x4 + (1 : Int32)).toNatClampNeg), .int (xs (x4 + (2 : Int32)).toNatClampNeg), .ref (lc_ad S 206)]) (rest := []) (c_L_loan S X.2.1 hl (xs (x4 + (1 : Int32)).toNatClampNeg) (xs (x4 + (2 : Int32)).toNatClampNeg) M (r416, M19) h416) kw_L_loan rfl rfl (Nat.le_of_ble_eq_true rfl) ⟨Nat.le_of_ble_eq_true rfl, Nat.le_of_ble_eq_true rfl⟩ ⟨hr1, hr2⟩ dL_law_416 rfl ?_
  refine lc_istore C (pc' := 421) (lo' := [(5, .int r416), (0, .ref bS), (1, .ref (lc_ad S 194)), (2, .ref (lc_ad S 197)), (3, .ref (lc_ad S 206)), (4, .int x4)]) dL_law_419 (Nat.le_of_ble_eq_true rfl) rfl rfl ?_
  refine lc_aload_n C (pc' := 422) 3 dL_law_421 rfl rfl ?_
  refine lc_aload_n C (pc' := 423) 1 dL_law_422 rfl rfl ?_
  refine lc_iload C (pc' := 425) 5 dL_law_423 rfl rfl ?_
  refine lc_iconst C (pc' := 426) (v := (1 : Int32)) dL_law_425 (by decide) rfl ?_
  refine lc_iadd C (pc' := 427) dL_law_426 rfl ?_
  obtain ⟨hi427, h⟩ := lc_ife h
  refine lc_sld C (pc' := 428) hX hbl hbA hi427 dL_law_427 rfl ?_
  refine lc_aload_n C (pc' := 429) 1 dL_law_428 rfl rfl ?_
  refine lc_iload C (pc' := 431) 5 dL_law_429 rfl rfl ?_
  refine lc_iconst C (pc' := 432) (v := (2 : Int32)) dL_law_431 (by decide) rfl ?_
  refine lc_iadd C (pc' := 433) dL_law_432 rfl ?_
  obtain ⟨hi433, h⟩ := lc_ife h
  refine lc_sld C (pc' := 434) hX hbl hbA hi433 dL_law_433 rfl ?_
  refine lc_meq (lc_up_self M19 22).symm ?_
  obtain ⟨r434, s20, h434, h⟩ := lc_bd2e h
  refine lc_cvi C (pc' := 437) (r := r434) (M' := (va_up M19 22 s20)) (As := [.int (xs (x4 + (1 : Int32)).toNatClampNeg), .int (xs (x4 + (2 : Int32)).toNatClampNeg)]) (rest := []) (c_X4_loan S X.2.1 M19   (xs (x4 + (1 : Int32)).toNatClampNeg) (xs (x4 + (2 : Int32)).toNatClampNeg) (M19 22) (r434, s20) h434) kl_RL_122 (lc_at197 S _) rfl rfl rfl rfl (Nat.le_of_ble_eq_true rfl) ⟨Nat.le_of_ble_eq_true rfl, Nat.le_of_ble_eq_true rfl⟩ ⟨rfl, rfl⟩ ⟨hr1, hr2⟩ dL_law_434 rfl ?_
  obtain ⟨M21, eM21, h⟩ := lc_let2 h
  refine lc_meq eM21 ?_
  refine lc_istore C (pc' := 439) (lo' := [(6, .int r434), (5, .int r416), (0, .ref bS), (1, .ref (lc_ad S 194)), (2, .ref (lc_ad S 197)), (3, .ref (lc_ad S 206)), (4, .int x4)]) dL_law_437 (Nat.le_of_ble_eq_true rfl) rfl rfl ?_
  refine lc_aload_n C (pc' := 440) 4 dL_law_439 rfl rfl ?_
  refine lc_meq (lc_up_self M21 22).symm ?_
  obtain ⟨r440, h440, h⟩ := lc_bde h
  refine lc_cvi C (pc' := 443) (r := r440) (M' := (va_up M21 22 (M21 22))) (As := []) (rest := []) (c_X4_thrown S X.2.1 M21    (M21 22) r440 h440) kl_RL_98 (lc_at197 S _) rfl rfl rfl rfl (Nat.le_of_ble_eq_true rfl) ⟨Nat.le_of_ble_eq_true rfl, Nat.le_of_ble_eq_true rfl⟩ ⟨rfl, rfl⟩ ⟨hr1, hr2⟩ dL_law_440 rfl ?_
  refine lc_meq (lc_up_self M21 22) ?_
  refine lc_iload C (pc' := 445) 1 dL_law_443 rfl rfl ?_
  refine lc_icmp_eq C (pc' := 448) (tgt := 450) dL_law_445 (by decide) rfl (fun c445 => ?_) (fun c445 => ?_)
  · have h := (lc_if2 h).1 c445
    refine lc_iload C (pc' := 452) 1 dL_law_450 rfl rfl ?_
    refine lc_if_ne C (pc' := 455) (tgt := 467) dL_law_452 (by decide) rfl (fun c452 => ?_) (fun c452 => ?_)
    · have h := (lc_if2 h).2 c452
      refine lc_goto C (tgt := 1619) dL_law_467 (by decide) ?_
      refine lc_sub (lo' := [(0, .ref bS), (1, .ref (lc_ad S 194)), (2, .ref (lc_ad S 197)), (3, .ref (lc_ad S 206)), (4, .int x4)]) [2, 3, 4, 5, 6] rfl ?_
      exact w_L_law_1619 C K hK x4 M21 h
    · have h := (lc_if2 h).1 c452
      refine lc_aload_n C (pc' := 456) 5 dL_law_455 rfl rfl ?_
      refine lc_iconst C (pc' := 457) (v := (0 : Int32)) dL_law_456 (by decide) rfl ?_
      refine lc_lld C (pc' := 458) dL_law_457 rfl ?_
      refine lc_iload C (pc' := 460) 0 dL_law_458 rfl rfl ?_
      refine lc_i2l C (pc' := 461) dL_law_460 rfl ?_
      refine lc_lcmp C (pc' := 462) dL_law_461 rfl ?_
      refine lc_if_eq C (pc' := 465) (tgt := 467) dL_law_462 (by decide) rfl (fun c462 => ?_) (fun c462 => ?_)
      · have h := (lc_if2 h).1 c462
        refine lc_goto C (tgt := 1619) dL_law_467 (by decide) ?_
        refine lc_sub (lo' := [(0, .ref bS), (1, .ref (lc_ad S 194)), (2, .ref (lc_ad S 197)), (3, .ref (lc_ad S 206)), (4, .int x4)]) [2, 3, 4, 5, 6] rfl ?_
        exact w_L_law_1619 C K hK x4 M21 h
      · have h := (lc_if2 h).2 c462
        refine lc_iconst C (pc' := 466) (v := (0 : Int32)) dL_law_465 (by decide) rfl ?_
        exact absurd (Option.some.inj h) (by decide)
  · have h := (lc_if2 h).2 c445
    refine lc_iconst C (pc' := 449) (v := (0 : Int32)) dL_law_448 (by decide) rfl ?_
    exact absurd (Option.some.inj h) (by decide)
def P_L_case7 (L : Nat) (xs : Nat → Int32) (K : Int32 → lc_MM → Option Int32) (x4 : Int32) (M : lc_MM) : Option Int32 :=
  lc_if (lc_ok (x4 + (1 : Int32)) L) (lc_bd2 (P_L_order (xs (x4 + (1 : Int32)).toNatClampNeg) M) (fun r478 M22 => lc_if (lc_ok (x4 + (1 : Int32)) L) (lc_bd2 (P_X4_order (xs (x4 + (1 : Int32)).toNatClampNeg) (M22 22)) (fun r490 s23 => lc_let (va_up M22 22 s23) (fun M24 => lc_bd (P_X4_thrown  (M24 22)) (fun r496 => if r496 = r478 then if r478 = 0 then if (lg_cmp (M24 23 0 0).toInt64 r490.toInt64) = 0 then P_L_law_1619 K x4 M24 else some (0 : Int32) else P_L_law_1619 K x4 M24 else some (0 : Int32)))))))
set_option maxRecDepth 100000 in
set_option maxHeartbeats 4000000 in
theorem w_L_case7 {S : lc_Se} {X : lc_X} {Q : State → Prop} {bS L : Nat} {xs : Nat → Int32} {c0 s0 t : Nat} (C : lc_C X cL_law RL 7 ret room_1) (hl : X.2.1.stackTraces = false) (hX : va_X bS L xs (lc_Xs X) (lc_Xs X).heap) (hbl : bS < (lc_Xs X).heap.size) (hbA : ¬ lc_A S bS) (hr1 : c0 + t + 1 ≤ 601024) (hr2 : s0 + 6 * t + 6 ≤ 7293034) (hend : ∀ (k j pc : Nat) (lo : List (Nat × Value)) (M : lc_MM), k ≤ 601024 → j ≤ 7293034 → decode cL_law pc = .ok (.ireturn, 1) → lc_J S X 7 k j Q pc lo [.int 1] M) (K : Int32 → lc_MM → Option Int32) (hK : ∀ (x4 : Int32) (M : lc_MM), K x4 M = some 1 → lc_J S X 7 (c0 + t + 1) (s0 + 6 * t + 6) Q 23 [(0, .ref bS), (1, .ref (lc_ad S 194)), (2, .ref (lc_ad S 197)), (3, .ref (lc_ad S 206)), (4, .int x4)] [] M) (x4 : Int32) (M : lc_MM) (h : P_L_case7 L xs K x4 M = some 1) : lc_J S X 7 (c0 + t) (s0 + 6 * t) Q 470 [(0, .ref bS), (1, .ref (lc_ad S 194)), (2, .ref (lc_ad S 197)), (3, .ref (lc_ad S 206)), (4, .int x4)] [] M := by
  rw [P_L_case7] at h
  refine lc_aload_n C (pc' := 471) 1 dL_law_470 rfl rfl ?_
  refine lc_aload_n C (pc' := 472) 0 dL_law_471 rfl rfl ?_
  refine lc_iload C (pc' := 474) 4 dL_law_472 rfl rfl ?_
  refine lc_iconst C (pc' := 475) (v := (1 : Int32)) dL_law_474 (by decide) rfl ?_
  refine lc_iadd C (pc' := 476) dL_law_475 rfl ?_
  obtain ⟨hi476, h⟩ := lc_ife h
  refine lc_sld C (pc' := 477) hX hbl hbA hi476 dL_law_476 rfl ?_
  refine lc_aload_n C (pc' := 478) 3 dL_law_477 rfl rfl ?_
  obtain ⟨r478, M22, h478, h⟩ := lc_bd2e h
  refine lc_csW C (pc' := 481) (r := r478) (M' := M22) (As := [.ref (lc_ad S 194), .int (xs (x4 + (1 : Int32)).toNatClampNeg), .ref (lc_ad S 206)]) (rest := []) (c_L_order S X.2.1 hl (xs (x4 + (1 : Int32)).toNatClampNeg) M (r478, M22) h478) kw_L_order rfl rfl (Nat.le_of_ble_eq_true rfl) ⟨Nat.le_of_ble_eq_true rfl, Nat.le_of_ble_eq_true rfl⟩ ⟨hr1, hr2⟩ dL_law_478 rfl ?_
  refine lc_istore C (pc' := 483) (lo' := [(5, .int r478), (0, .ref bS), (1, .ref (lc_ad S 194)), (2, .ref (lc_ad S 197)), (3, .ref (lc_ad S 206)), (4, .int x4)]) dL_law_481 (Nat.le_of_ble_eq_true rfl) rfl rfl ?_
  refine lc_aload_n C (pc' := 484) 3 dL_law_483 rfl rfl ?_
  refine lc_aload_n C (pc' := 485) 1 dL_law_484 rfl rfl ?_
  refine lc_iload C (pc' := 487) 5 dL_law_485 rfl rfl ?_
  refine lc_iconst C (pc' := 488) (v := (1 : Int32)) dL_law_487 (by decide) rfl ?_
  refine lc_iadd C (pc' := 489) dL_law_488 rfl ?_
  obtain ⟨hi489, h⟩ := lc_ife h
  refine lc_sld C (pc' := 490) hX hbl hbA hi489 dL_law_489 rfl ?_
  refine lc_meq (lc_up_self M22 22).symm ?_
  obtain ⟨r490, s23, h490, h⟩ := lc_bd2e h
  refine lc_cvi C (pc' := 493) (r := r490) (M' := (va_up M22 22 s23)) (As := [.int (xs (x4 + (1 : Int32)).toNatClampNeg)]) (rest := []) (c_X4_order S X.2.1 M22   (xs (x4 + (1 : Int32)).toNatClampNeg) (M22 22) (r490, s23) h490) kl_RL_125 (lc_at197 S _) rfl rfl rfl rfl (Nat.le_of_ble_eq_true rfl) ⟨Nat.le_of_ble_eq_true rfl, Nat.le_of_ble_eq_true rfl⟩ ⟨rfl, rfl⟩ ⟨hr1, hr2⟩ dL_law_490 rfl ?_
  obtain ⟨M24, eM24, h⟩ := lc_let2 h
  refine lc_meq eM24 ?_
  refine lc_istore C (pc' := 495) (lo' := [(6, .int r490), (5, .int r478), (0, .ref bS), (1, .ref (lc_ad S 194)), (2, .ref (lc_ad S 197)), (3, .ref (lc_ad S 206)), (4, .int x4)]) dL_law_493 (Nat.le_of_ble_eq_true rfl) rfl rfl ?_
  refine lc_aload_n C (pc' := 496) 4 dL_law_495 rfl rfl ?_
  refine lc_meq (lc_up_self M24 22).symm ?_
  obtain ⟨r496, h496, h⟩ := lc_bde h
  refine lc_cvi C (pc' := 499) (r := r496) (M' := (va_up M24 22 (M24 22))) (As := []) (rest := []) (c_X4_thrown S X.2.1 M24    (M24 22) r496 h496) kl_RL_98 (lc_at197 S _) rfl rfl rfl rfl (Nat.le_of_ble_eq_true rfl) ⟨Nat.le_of_ble_eq_true rfl, Nat.le_of_ble_eq_true rfl⟩ ⟨rfl, rfl⟩ ⟨hr1, hr2⟩ dL_law_496 rfl ?_
  refine lc_meq (lc_up_self M24 22) ?_
  refine lc_iload C (pc' := 501) 1 dL_law_499 rfl rfl ?_
  refine lc_icmp_eq C (pc' := 504) (tgt := 506) dL_law_501 (by decide) rfl (fun c501 => ?_) (fun c501 => ?_)
  · have h := (lc_if2 h).1 c501
    refine lc_iload C (pc' := 508) 1 dL_law_506 rfl rfl ?_
    refine lc_if_ne C (pc' := 511) (tgt := 523) dL_law_508 (by decide) rfl (fun c508 => ?_) (fun c508 => ?_)
    · have h := (lc_if2 h).2 c508
      refine lc_goto C (tgt := 1619) dL_law_523 (by decide) ?_
      refine lc_sub (lo' := [(0, .ref bS), (1, .ref (lc_ad S 194)), (2, .ref (lc_ad S 197)), (3, .ref (lc_ad S 206)), (4, .int x4)]) [2, 3, 4, 5, 6] rfl ?_
      exact w_L_law_1619 C K hK x4 M24 h
    · have h := (lc_if2 h).1 c508
      refine lc_aload_n C (pc' := 512) 5 dL_law_511 rfl rfl ?_
      refine lc_iconst C (pc' := 513) (v := (0 : Int32)) dL_law_512 (by decide) rfl ?_
      refine lc_lld C (pc' := 514) dL_law_513 rfl ?_
      refine lc_iload C (pc' := 516) 0 dL_law_514 rfl rfl ?_
      refine lc_i2l C (pc' := 517) dL_law_516 rfl ?_
      refine lc_lcmp C (pc' := 518) dL_law_517 rfl ?_
      refine lc_if_eq C (pc' := 521) (tgt := 523) dL_law_518 (by decide) rfl (fun c518 => ?_) (fun c518 => ?_)
      · have h := (lc_if2 h).1 c518
        refine lc_goto C (tgt := 1619) dL_law_523 (by decide) ?_
        refine lc_sub (lo' := [(0, .ref bS), (1, .ref (lc_ad S 194)), (2, .ref (lc_ad S 197)), (3, .ref (lc_ad S 206)), (4, .int x4)]) [2, 3, 4, 5, 6] rfl ?_
        exact w_L_law_1619 C K hK x4 M24 h
      · have h := (lc_if2 h).2 c518
        refine lc_iconst C (pc' := 522) (v := (0 : Int32)) dL_law_521 (by decide) rfl ?_
        exact absurd (Option.some.inj h) (by decide)
  · have h := (lc_if2 h).2 c501
    refine lc_iconst C (pc' := 505) (v := (0 : Int32)) dL_law_504 (by decide) rfl ?_
    exact absurd (Option.some.inj h) (by decide)
def P_L_case8 (L : Nat) (xs : Nat → Int32) (K : Int32 → lc_MM → Option Int32) (x4 : Int32) (M : lc_MM) : Option Int32 :=
  lc_if (lc_ok (x4 + (1 : Int32)) L) (lc_if (lc_ok (x4 + (2 : Int32)) L) (lc_if (lc_ok (x4 + (3 : Int32)) L) (lc_bd2 (P_L_addCell (xs (x4 + (1 : Int32)).toNatClampNeg) (xs (x4 + (2 : Int32)).toNatClampNeg) (xs (x4 + (3 : Int32)).toNatClampNeg) M) (fun r546 M25 => lc_if (lc_ok (x4 + (1 : Int32)) L) (lc_if (lc_ok (x4 + (2 : Int32)) L) (lc_if (lc_ok (x4 + (3 : Int32)) L) (lc_bd2 (P_X4_addCell (xs (x4 + (1 : Int32)).toNatClampNeg) (xs (x4 + (2 : Int32)).toNatClampNeg) (xs (x4 + (3 : Int32)).toNatClampNeg) (M25 22)) (fun r570 s26 => lc_let (va_up M25 22 s26) (fun M27 => lc_bd (P_X4_thrown  (M27 22)) (fun r576 => if r576 = r546 then if r546 = 0 then if (lg_cmp (M27 23 0 0).toInt64 r570.toInt64) = 0 then P_L_law_1619 K x4 M27 else some (0 : Int32) else P_L_law_1619 K x4 M27 else some (0 : Int32)))))))))))
set_option maxRecDepth 100000 in
set_option maxHeartbeats 4000000 in
theorem w_L_case8 {S : lc_Se} {X : lc_X} {Q : State → Prop} {bS L : Nat} {xs : Nat → Int32} {c0 s0 t : Nat} (C : lc_C X cL_law RL 7 ret room_1) (hl : X.2.1.stackTraces = false) (hX : va_X bS L xs (lc_Xs X) (lc_Xs X).heap) (hbl : bS < (lc_Xs X).heap.size) (hbA : ¬ lc_A S bS) (hr1 : c0 + t + 1 ≤ 601024) (hr2 : s0 + 6 * t + 6 ≤ 7293034) (hend : ∀ (k j pc : Nat) (lo : List (Nat × Value)) (M : lc_MM), k ≤ 601024 → j ≤ 7293034 → decode cL_law pc = .ok (.ireturn, 1) → lc_J S X 7 k j Q pc lo [.int 1] M) (K : Int32 → lc_MM → Option Int32) (hK : ∀ (x4 : Int32) (M : lc_MM), K x4 M = some 1 → lc_J S X 7 (c0 + t + 1) (s0 + 6 * t + 6) Q 23 [(0, .ref bS), (1, .ref (lc_ad S 194)), (2, .ref (lc_ad S 197)), (3, .ref (lc_ad S 206)), (4, .int x4)] [] M) (x4 : Int32) (M : lc_MM) (h : P_L_case8 L xs K x4 M = some 1) : lc_J S X 7 (c0 + t) (s0 + 6 * t) Q 526 [(0, .ref bS), (1, .ref (lc_ad S 194)), (2, .ref (lc_ad S 197)), (3, .ref (lc_ad S 206)), (4, .int x4)] [] M := by
  rw [P_L_case8] at h
  refine lc_aload_n C (pc' := 527) 1 dL_law_526 rfl rfl ?_
  refine lc_aload_n C (pc' := 528) 0 dL_law_527 rfl rfl ?_
  refine lc_iload C (pc' := 530) 4 dL_law_528 rfl rfl ?_
  refine lc_iconst C (pc' := 531) (v := (1 : Int32)) dL_law_530 (by decide) rfl ?_
  refine lc_iadd C (pc' := 532) dL_law_531 rfl ?_
  obtain ⟨hi532, h⟩ := lc_ife h
  refine lc_sld C (pc' := 533) hX hbl hbA hi532 dL_law_532 rfl ?_
  refine lc_aload_n C (pc' := 534) 0 dL_law_533 rfl rfl ?_
  refine lc_iload C (pc' := 536) 4 dL_law_534 rfl rfl ?_
  refine lc_iconst C (pc' := 537) (v := (2 : Int32)) dL_law_536 (by decide) rfl ?_
  refine lc_iadd C (pc' := 538) dL_law_537 rfl ?_
  obtain ⟨hi538, h⟩ := lc_ife h
  refine lc_sld C (pc' := 539) hX hbl hbA hi538 dL_law_538 rfl ?_
  refine lc_aload_n C (pc' := 540) 0 dL_law_539 rfl rfl ?_
  refine lc_iload C (pc' := 542) 4 dL_law_540 rfl rfl ?_
  refine lc_iconst C (pc' := 543) (v := (3 : Int32)) dL_law_542 (by decide) rfl ?_
  refine lc_iadd C (pc' := 544) dL_law_543 rfl ?_
  obtain ⟨hi544, h⟩ := lc_ife h
  refine lc_sld C (pc' := 545) hX hbl hbA hi544 dL_law_544 rfl ?_
  refine lc_aload_n C (pc' := 546) 3 dL_law_545 rfl rfl ?_
  obtain ⟨r546, M25, h546, h⟩ := lc_bd2e h
  refine lc_csW C (pc' := 549) (r := r546) (M' := M25) (As := [.ref (lc_ad S 194), .int (xs (x4 + (1 : Int32)).toNatClampNeg), .int (xs (x4 + (2 : Int32)).toNatClampNeg), .int (xs (x4 + (3 : Int32)).toNatClampNeg), .ref (lc_ad S 206)]) (rest := []) (c_L_addCell S X.2.1 hl (xs (x4 + (1 : Int32)).toNatClampNeg) (xs (x4 + (2 : Int32)).toNatClampNeg) (xs (x4 + (3 : Int32)).toNatClampNeg) M (r546, M25) h546) kw_L_addCell rfl rfl (Nat.le_of_ble_eq_true rfl) ⟨Nat.le_of_ble_eq_true rfl, Nat.le_of_ble_eq_true rfl⟩ ⟨hr1, hr2⟩ dL_law_546 rfl ?_
  refine lc_istore C (pc' := 551) (lo' := [(5, .int r546), (0, .ref bS), (1, .ref (lc_ad S 194)), (2, .ref (lc_ad S 197)), (3, .ref (lc_ad S 206)), (4, .int x4)]) dL_law_549 (Nat.le_of_ble_eq_true rfl) rfl rfl ?_
  refine lc_aload_n C (pc' := 552) 3 dL_law_551 rfl rfl ?_
  refine lc_aload_n C (pc' := 553) 1 dL_law_552 rfl rfl ?_
  refine lc_iload C (pc' := 555) 5 dL_law_553 rfl rfl ?_
  refine lc_iconst C (pc' := 556) (v := (1 : Int32)) dL_law_555 (by decide) rfl ?_
  refine lc_iadd C (pc' := 557) dL_law_556 rfl ?_
  obtain ⟨hi557, h⟩ := lc_ife h
  refine lc_sld C (pc' := 558) hX hbl hbA hi557 dL_law_557 rfl ?_
  refine lc_aload_n C (pc' := 559) 1 dL_law_558 rfl rfl ?_
  refine lc_iload C (pc' := 561) 5 dL_law_559 rfl rfl ?_
  refine lc_iconst C (pc' := 562) (v := (2 : Int32)) dL_law_561 (by decide) rfl ?_
  refine lc_iadd C (pc' := 563) dL_law_562 rfl ?_
  obtain ⟨hi563, h⟩ := lc_ife h
  refine lc_sld C (pc' := 564) hX hbl hbA hi563 dL_law_563 rfl ?_
  refine lc_aload_n C (pc' := 565) 1 dL_law_564 rfl rfl ?_
  refine lc_iload C (pc' := 567) 5 dL_law_565 rfl rfl ?_
  refine lc_iconst C (pc' := 568) (v := (3 : Int32)) dL_law_567 (by decide) rfl ?_
  refine lc_iadd C (pc' := 569) dL_law_568 rfl ?_
  obtain ⟨hi569, h⟩ := lc_ife h
  refine lc_sld C (pc' := 570) hX hbl hbA hi569 dL_law_569 rfl ?_
  refine lc_meq (lc_up_self M25 22).symm ?_
  obtain ⟨r570, s26, h570, h⟩ := lc_bd2e h
  refine lc_cvi C (pc' := 573) (r := r570) (M' := (va_up M25 22 s26)) (As := [.int (xs (x4 + (1 : Int32)).toNatClampNeg), .int (xs (x4 + (2 : Int32)).toNatClampNeg), .int (xs (x4 + (3 : Int32)).toNatClampNeg)]) (rest := []) (c_X4_addCell S X.2.1 M25   (xs (x4 + (1 : Int32)).toNatClampNeg) (xs (x4 + (2 : Int32)).toNatClampNeg) (xs (x4 + (3 : Int32)).toNatClampNeg) (M25 22) (r570, s26) h570) kl_RL_129 (lc_at197 S _) rfl rfl rfl rfl (Nat.le_of_ble_eq_true rfl) ⟨Nat.le_of_ble_eq_true rfl, Nat.le_of_ble_eq_true rfl⟩ ⟨rfl, rfl⟩ ⟨hr1, hr2⟩ dL_law_570 rfl ?_
  obtain ⟨M27, eM27, h⟩ := lc_let2 h
  refine lc_meq eM27 ?_
  refine lc_istore C (pc' := 575) (lo' := [(6, .int r570), (5, .int r546), (0, .ref bS), (1, .ref (lc_ad S 194)), (2, .ref (lc_ad S 197)), (3, .ref (lc_ad S 206)), (4, .int x4)]) dL_law_573 (Nat.le_of_ble_eq_true rfl) rfl rfl ?_
  refine lc_aload_n C (pc' := 576) 4 dL_law_575 rfl rfl ?_
  refine lc_meq (lc_up_self M27 22).symm ?_
  obtain ⟨r576, h576, h⟩ := lc_bde h
  refine lc_cvi C (pc' := 579) (r := r576) (M' := (va_up M27 22 (M27 22))) (As := []) (rest := []) (c_X4_thrown S X.2.1 M27    (M27 22) r576 h576) kl_RL_98 (lc_at197 S _) rfl rfl rfl rfl (Nat.le_of_ble_eq_true rfl) ⟨Nat.le_of_ble_eq_true rfl, Nat.le_of_ble_eq_true rfl⟩ ⟨rfl, rfl⟩ ⟨hr1, hr2⟩ dL_law_576 rfl ?_
  refine lc_meq (lc_up_self M27 22) ?_
  refine lc_iload C (pc' := 581) 1 dL_law_579 rfl rfl ?_
  refine lc_icmp_eq C (pc' := 584) (tgt := 586) dL_law_581 (by decide) rfl (fun c581 => ?_) (fun c581 => ?_)
  · have h := (lc_if2 h).1 c581
    refine lc_iload C (pc' := 588) 1 dL_law_586 rfl rfl ?_
    refine lc_if_ne C (pc' := 591) (tgt := 603) dL_law_588 (by decide) rfl (fun c588 => ?_) (fun c588 => ?_)
    · have h := (lc_if2 h).2 c588
      refine lc_goto C (tgt := 1619) dL_law_603 (by decide) ?_
      refine lc_sub (lo' := [(0, .ref bS), (1, .ref (lc_ad S 194)), (2, .ref (lc_ad S 197)), (3, .ref (lc_ad S 206)), (4, .int x4)]) [2, 3, 4, 5, 6] rfl ?_
      exact w_L_law_1619 C K hK x4 M27 h
    · have h := (lc_if2 h).1 c588
      refine lc_aload_n C (pc' := 592) 5 dL_law_591 rfl rfl ?_
      refine lc_iconst C (pc' := 593) (v := (0 : Int32)) dL_law_592 (by decide) rfl ?_
      refine lc_lld C (pc' := 594) dL_law_593 rfl ?_
      refine lc_iload C (pc' := 596) 0 dL_law_594 rfl rfl ?_
      refine lc_i2l C (pc' := 597) dL_law_596 rfl ?_
      refine lc_lcmp C (pc' := 598) dL_law_597 rfl ?_
      refine lc_if_eq C (pc' := 601) (tgt := 603) dL_law_598 (by decide) rfl (fun c598 => ?_) (fun c598 => ?_)
      · have h := (lc_if2 h).1 c598
        refine lc_goto C (tgt := 1619) dL_law_603 (by decide) ?_
        refine lc_sub (lo' := [(0, .ref bS), (1, .ref (lc_ad S 194)), (2, .ref (lc_ad S 197)), (3, .ref (lc_ad S 206)), (4, .int x4)]) [2, 3, 4, 5, 6] rfl ?_
        exact w_L_law_1619 C K hK x4 M27 h
      · have h := (lc_if2 h).2 c598
        refine lc_iconst C (pc' := 602) (v := (0 : Int32)) dL_law_601 (by decide) rfl ?_
        exact absurd (Option.some.inj h) (by decide)
  · have h := (lc_if2 h).2 c581
    refine lc_iconst C (pc' := 585) (v := (0 : Int32)) dL_law_584 (by decide) rfl ?_
    exact absurd (Option.some.inj h) (by decide)
def P_L_case9 (L : Nat) (xs : Nat → Int32) (K : Int32 → lc_MM → Option Int32) (x4 : Int32) (M : lc_MM) : Option Int32 :=
  lc_if (lc_ok (x4 + (1 : Int32)) L) (lc_if (lc_ok (x4 + (2 : Int32)) L) (lc_if (lc_ok (x4 + (3 : Int32)) L) (lc_if (lc_ok (x4 + (4 : Int32)) L) (lc_bd2 (P_L_lend (xs (x4 + (1 : Int32)).toNatClampNeg) (xs (x4 + (2 : Int32)).toNatClampNeg) (xs (x4 + (3 : Int32)).toNatClampNeg) (xs (x4 + (4 : Int32)).toNatClampNeg) M) (fun r632 M28 => lc_if (lc_ok (x4 + (1 : Int32)) L) (lc_if (lc_ok (x4 + (2 : Int32)) L) (lc_if (lc_ok (x4 + (3 : Int32)) L) (lc_if (lc_ok (x4 + (4 : Int32)) L) (lc_bd2 (P_X4_lend (xs (x4 + (1 : Int32)).toNatClampNeg) (xs (x4 + (2 : Int32)).toNatClampNeg) (xs (x4 + (3 : Int32)).toNatClampNeg) (xs (x4 + (4 : Int32)).toNatClampNeg) (M28 22)) (fun r662 s29 => lc_let (va_up M28 22 s29) (fun M30 => lc_bd (P_X4_thrown  (M30 22)) (fun r668 => if r668 = r632 then if r632 = 0 then if (lg_cmp (M30 23 0 0).toInt64 r662.toInt64) = 0 then P_L_law_1619 K x4 M30 else some (0 : Int32) else P_L_law_1619 K x4 M30 else some (0 : Int32)))))))))))))
set_option maxRecDepth 100000 in
set_option maxHeartbeats 4000000 in
theorem w_L_case9 {S : lc_Se} {X : lc_X} {Q : State → Prop} {bS L : Nat} {xs : Nat → Int32} {c0 s0 t : Nat} (C : lc_C X cL_law RL 7 ret room_1) (hl : X.2.1.stackTraces = false) (hX : va_X bS L xs (lc_Xs X) (lc_Xs X).heap) (hbl : bS < (lc_Xs X).heap.size) (hbA : ¬ lc_A S bS) (hr1 : c0 + t + 1 ≤ 601024) (hr2 : s0 + 6 * t + 6 ≤ 7293034) (hend : ∀ (k j pc : Nat) (lo : List (Nat × Value)) (M : lc_MM), k ≤ 601024 → j ≤ 7293034 → decode cL_law pc = .ok (.ireturn, 1) → lc_J S X 7 k j Q pc lo [.int 1] M) (K : Int32 → lc_MM → Option Int32) (hK : ∀ (x4 : Int32) (M : lc_MM), K x4 M = some 1 → lc_J S X 7 (c0 + t + 1) (s0 + 6 * t + 6) Q 23 [(0, .ref bS), (1, .ref (lc_ad S 194)), (2, .ref (lc_ad S 197)), (3, .ref (lc_ad S 206)), (4, .int x4)] [] M) (x4 : Int32) (M : lc_MM) (h : P_L_case9 L xs K x4 M = some 1) : lc_J S X 7 (c0 + t) (s0 + 6 * t) Q 606 [(0, .ref bS), (1, .ref (lc_ad S 194)), (2, .ref (lc_ad S 197)), (3, .ref (lc_ad S 206)), (4, .int x4)] [] M := by
  rw [P_L_case9] at h
  refine lc_aload_n C (pc' := 607) 1 dL_law_606 rfl rfl ?_
  refine lc_aload_n C (pc' := 608) 0 dL_law_607 rfl rfl ?_
  refine lc_iload C (pc' := 610) 4 dL_law_608 rfl rfl ?_
  refine lc_iconst C (pc' := 611) (v := (1 : Int32)) dL_law_610 (by decide) rfl ?_
  refine lc_iadd C (pc' := 612) dL_law_611 rfl ?_
  obtain ⟨hi612, h⟩ := lc_ife h
  refine lc_sld C (pc' := 613) hX hbl hbA hi612 dL_law_612 rfl ?_
  refine lc_aload_n C (pc' := 614) 0 dL_law_613 rfl rfl ?_
  refine lc_iload C (pc' := 616) 4 dL_law_614 rfl rfl ?_
  refine lc_iconst C (pc' := 617) (v := (2 : Int32)) dL_law_616 (by decide) rfl ?_
  refine lc_iadd C (pc' := 618) dL_law_617 rfl ?_
  obtain ⟨hi618, h⟩ := lc_ife h
  refine lc_sld C (pc' := 619) hX hbl hbA hi618 dL_law_618 rfl ?_
  refine lc_aload_n C (pc' := 620) 0 dL_law_619 rfl rfl ?_
  refine lc_iload C (pc' := 622) 4 dL_law_620 rfl rfl ?_
  refine lc_iconst C (pc' := 623) (v := (3 : Int32)) dL_law_622 (by decide) rfl ?_
  refine lc_iadd C (pc' := 624) dL_law_623 rfl ?_
  obtain ⟨hi624, h⟩ := lc_ife h
  refine lc_sld C (pc' := 625) hX hbl hbA hi624 dL_law_624 rfl ?_
  refine lc_aload_n C (pc' := 626) 0 dL_law_625 rfl rfl ?_
  refine lc_iload C (pc' := 628) 4 dL_law_626 rfl rfl ?_
  refine lc_iconst C (pc' := 629) (v := (4 : Int32)) dL_law_628 (by decide) rfl ?_
  refine lc_iadd C (pc' := 630) dL_law_629 rfl ?_
  obtain ⟨hi630, h⟩ := lc_ife h
  refine lc_sld C (pc' := 631) hX hbl hbA hi630 dL_law_630 rfl ?_
  refine lc_aload_n C (pc' := 632) 3 dL_law_631 rfl rfl ?_
  obtain ⟨r632, M28, h632, h⟩ := lc_bd2e h
  refine lc_csW C (pc' := 635) (r := r632) (M' := M28) (As := [.ref (lc_ad S 194), .int (xs (x4 + (1 : Int32)).toNatClampNeg), .int (xs (x4 + (2 : Int32)).toNatClampNeg), .int (xs (x4 + (3 : Int32)).toNatClampNeg), .int (xs (x4 + (4 : Int32)).toNatClampNeg), .ref (lc_ad S 206)]) (rest := []) (c_L_lend S X.2.1 hl (xs (x4 + (1 : Int32)).toNatClampNeg) (xs (x4 + (2 : Int32)).toNatClampNeg) (xs (x4 + (3 : Int32)).toNatClampNeg) (xs (x4 + (4 : Int32)).toNatClampNeg) M (r632, M28) h632) kw_L_lend rfl rfl (Nat.le_of_ble_eq_true rfl) ⟨Nat.le_of_ble_eq_true rfl, Nat.le_of_ble_eq_true rfl⟩ ⟨hr1, hr2⟩ dL_law_632 rfl ?_
  refine lc_istore C (pc' := 637) (lo' := [(5, .int r632), (0, .ref bS), (1, .ref (lc_ad S 194)), (2, .ref (lc_ad S 197)), (3, .ref (lc_ad S 206)), (4, .int x4)]) dL_law_635 (Nat.le_of_ble_eq_true rfl) rfl rfl ?_
  refine lc_aload_n C (pc' := 638) 3 dL_law_637 rfl rfl ?_
  refine lc_aload_n C (pc' := 639) 1 dL_law_638 rfl rfl ?_
  refine lc_iload C (pc' := 641) 5 dL_law_639 rfl rfl ?_
  refine lc_iconst C (pc' := 642) (v := (1 : Int32)) dL_law_641 (by decide) rfl ?_
  refine lc_iadd C (pc' := 643) dL_law_642 rfl ?_
  obtain ⟨hi643, h⟩ := lc_ife h
  refine lc_sld C (pc' := 644) hX hbl hbA hi643 dL_law_643 rfl ?_
  refine lc_aload_n C (pc' := 645) 1 dL_law_644 rfl rfl ?_
  refine lc_iload C (pc' := 647) 5 dL_law_645 rfl rfl ?_
  refine lc_iconst C (pc' := 648) (v := (2 : Int32)) dL_law_647 (by decide) rfl ?_
  refine lc_iadd C (pc' := 649) dL_law_648 rfl ?_
  obtain ⟨hi649, h⟩ := lc_ife h
  refine lc_sld C (pc' := 650) hX hbl hbA hi649 dL_law_649 rfl ?_
  refine lc_aload_n C (pc' := 651) 1 dL_law_650 rfl rfl ?_
  refine lc_iload C (pc' := 653) 5 dL_law_651 rfl rfl ?_
  refine lc_iconst C (pc' := 654) (v := (3 : Int32)) dL_law_653 (by decide) rfl ?_
  refine lc_iadd C (pc' := 655) dL_law_654 rfl ?_
  obtain ⟨hi655, h⟩ := lc_ife h
  refine lc_sld C (pc' := 656) hX hbl hbA hi655 dL_law_655 rfl ?_
  refine lc_aload_n C (pc' := 657) 1 dL_law_656 rfl rfl ?_
  refine lc_iload C (pc' := 659) 5 dL_law_657 rfl rfl ?_
  refine lc_iconst C (pc' := 660) (v := (4 : Int32)) dL_law_659 (by decide) rfl ?_
  refine lc_iadd C (pc' := 661) dL_law_660 rfl ?_
  obtain ⟨hi661, h⟩ := lc_ife h
  refine lc_sld C (pc' := 662) hX hbl hbA hi661 dL_law_661 rfl ?_
  refine lc_meq (lc_up_self M28 22).symm ?_
  obtain ⟨r662, s29, h662, h⟩ := lc_bd2e h
  refine lc_cvi C (pc' := 665) (r := r662) (M' := (va_up M28 22 s29)) (As := [.int (xs (x4 + (1 : Int32)).toNatClampNeg), .int (xs (x4 + (2 : Int32)).toNatClampNeg), .int (xs (x4 + (3 : Int32)).toNatClampNeg), .int (xs (x4 + (4 : Int32)).toNatClampNeg)]) (rest := []) (c_X4_lend S X.2.1 M28   (xs (x4 + (1 : Int32)).toNatClampNeg) (xs (x4 + (2 : Int32)).toNatClampNeg) (xs (x4 + (3 : Int32)).toNatClampNeg) (xs (x4 + (4 : Int32)).toNatClampNeg) (M28 22) (r662, s29) h662) kl_RL_133 (lc_at197 S _) rfl rfl rfl rfl (Nat.le_of_ble_eq_true rfl) ⟨Nat.le_of_ble_eq_true rfl, Nat.le_of_ble_eq_true rfl⟩ ⟨rfl, rfl⟩ ⟨hr1, hr2⟩ dL_law_662 rfl ?_
  obtain ⟨M30, eM30, h⟩ := lc_let2 h
  refine lc_meq eM30 ?_
  refine lc_istore C (pc' := 667) (lo' := [(6, .int r662), (5, .int r632), (0, .ref bS), (1, .ref (lc_ad S 194)), (2, .ref (lc_ad S 197)), (3, .ref (lc_ad S 206)), (4, .int x4)]) dL_law_665 (Nat.le_of_ble_eq_true rfl) rfl rfl ?_
  refine lc_aload_n C (pc' := 668) 4 dL_law_667 rfl rfl ?_
  refine lc_meq (lc_up_self M30 22).symm ?_
  obtain ⟨r668, h668, h⟩ := lc_bde h
  refine lc_cvi C (pc' := 671) (r := r668) (M' := (va_up M30 22 (M30 22))) (As := []) (rest := []) (c_X4_thrown S X.2.1 M30    (M30 22) r668 h668) kl_RL_98 (lc_at197 S _) rfl rfl rfl rfl (Nat.le_of_ble_eq_true rfl) ⟨Nat.le_of_ble_eq_true rfl, Nat.le_of_ble_eq_true rfl⟩ ⟨rfl, rfl⟩ ⟨hr1, hr2⟩ dL_law_668 rfl ?_
  refine lc_meq (lc_up_self M30 22) ?_
  refine lc_iload C (pc' := 673) 1 dL_law_671 rfl rfl ?_
  refine lc_icmp_eq C (pc' := 676) (tgt := 678) dL_law_673 (by decide) rfl (fun c673 => ?_) (fun c673 => ?_)
  · have h := (lc_if2 h).1 c673
    refine lc_iload C (pc' := 680) 1 dL_law_678 rfl rfl ?_
    refine lc_if_ne C (pc' := 683) (tgt := 695) dL_law_680 (by decide) rfl (fun c680 => ?_) (fun c680 => ?_)
    · have h := (lc_if2 h).2 c680
      refine lc_goto C (tgt := 1619) dL_law_695 (by decide) ?_
      refine lc_sub (lo' := [(0, .ref bS), (1, .ref (lc_ad S 194)), (2, .ref (lc_ad S 197)), (3, .ref (lc_ad S 206)), (4, .int x4)]) [2, 3, 4, 5, 6] rfl ?_
      exact w_L_law_1619 C K hK x4 M30 h
    · have h := (lc_if2 h).1 c680
      refine lc_aload_n C (pc' := 684) 5 dL_law_683 rfl rfl ?_
      refine lc_iconst C (pc' := 685) (v := (0 : Int32)) dL_law_684 (by decide) rfl ?_
      refine lc_lld C (pc' := 686) dL_law_685 rfl ?_
      refine lc_iload C (pc' := 688) 0 dL_law_686 rfl rfl ?_
      refine lc_i2l C (pc' := 689) dL_law_688 rfl ?_
      refine lc_lcmp C (pc' := 690) dL_law_689 rfl ?_
      refine lc_if_eq C (pc' := 693) (tgt := 695) dL_law_690 (by decide) rfl (fun c690 => ?_) (fun c690 => ?_)
      · have h := (lc_if2 h).1 c690
        refine lc_goto C (tgt := 1619) dL_law_695 (by decide) ?_
        refine lc_sub (lo' := [(0, .ref bS), (1, .ref (lc_ad S 194)), (2, .ref (lc_ad S 197)), (3, .ref (lc_ad S 206)), (4, .int x4)]) [2, 3, 4, 5, 6] rfl ?_
        exact w_L_law_1619 C K hK x4 M30 h
      · have h := (lc_if2 h).2 c690
        refine lc_iconst C (pc' := 694) (v := (0 : Int32)) dL_law_693 (by decide) rfl ?_
        exact absurd (Option.some.inj h) (by decide)
  · have h := (lc_if2 h).2 c673
    refine lc_iconst C (pc' := 677) (v := (0 : Int32)) dL_law_676 (by decide) rfl ?_
    exact absurd (Option.some.inj h) (by decide)
def P_L_case10 (L : Nat) (xs : Nat → Int32) (K : Int32 → lc_MM → Option Int32) (x4 : Int32) (M : lc_MM) : Option Int32 :=
  lc_if (lc_ok (x4 + (1 : Int32)) L) (lc_if (lc_ok (x4 + (2 : Int32)) L) (lc_bd2 (P_L_repay (xs (x4 + (1 : Int32)).toNatClampNeg) (xs (x4 + (2 : Int32)).toNatClampNeg) M) (fun r712 M31 => lc_if (lc_ok (x4 + (1 : Int32)) L) (lc_if (lc_ok (x4 + (2 : Int32)) L) (lc_bd2 (P_X4_repay (xs (x4 + (1 : Int32)).toNatClampNeg) (xs (x4 + (2 : Int32)).toNatClampNeg) (M31 22)) (fun r730 s32 => lc_let (va_up M31 22 s32) (fun M33 => lc_bd (P_X4_thrown  (M33 22)) (fun r736 => if r736 = r712 then if r712 = 0 then if (lg_cmp (M33 23 0 0).toInt64 r730.toInt64) = 0 then P_L_law_1619 K x4 M33 else some (0 : Int32) else P_L_law_1619 K x4 M33 else some (0 : Int32)))))))))
set_option maxRecDepth 100000 in
set_option maxHeartbeats 4000000 in
theorem w_L_case10 {S : lc_Se} {X : lc_X} {Q : State → Prop} {bS L : Nat} {xs : Nat → Int32} {c0 s0 t : Nat} (C : lc_C X cL_law RL 7 ret room_1) (hl : X.2.1.stackTraces = false) (hX : va_X bS L xs (lc_Xs X) (lc_Xs X).heap) (hbl : bS < (lc_Xs X).heap.size) (hbA : ¬ lc_A S bS) (hr1 : c0 + t + 1 ≤ 601024) (hr2 : s0 + 6 * t + 6 ≤ 7293034) (hend : ∀ (k j pc : Nat) (lo : List (Nat × Value)) (M : lc_MM), k ≤ 601024 → j ≤ 7293034 → decode cL_law pc = .ok (.ireturn, 1) → lc_J S X 7 k j Q pc lo [.int 1] M) (K : Int32 → lc_MM → Option Int32) (hK : ∀ (x4 : Int32) (M : lc_MM), K x4 M = some 1 → lc_J S X 7 (c0 + t + 1) (s0 + 6 * t + 6) Q 23 [(0, .ref bS), (1, .ref (lc_ad S 194)), (2, .ref (lc_ad S 197)), (3, .ref (lc_ad S 206)), (4, .int x4)] [] M) (x4 : Int32) (M : lc_MM) (h : P_L_case10 L xs K x4 M = some 1) : lc_J S X 7 (c0 + t) (s0 + 6 * t) Q 698 [(0, .ref bS), (1, .ref (lc_ad S 194)), (2, .ref (lc_ad S 197)), (3, .ref (lc_ad S 206)), (4, .int x4)] [] M := by
  rw [P_L_case10] at h
  refine lc_aload_n C (pc' := 699) 1 dL_law_698 rfl rfl ?_
  refine lc_aload_n C (pc' := 700) 0 dL_law_699 rfl rfl ?_
  refine lc_iload C (pc' := 702) 4 dL_law_700 rfl rfl ?_
  refine lc_iconst C (pc' := 703) (v := (1 : Int32)) dL_law_702 (by decide) rfl ?_
  refine lc_iadd C (pc' := 704) dL_law_703 rfl ?_
  obtain ⟨hi704, h⟩ := lc_ife h
  refine lc_sld C (pc' := 705) hX hbl hbA hi704 dL_law_704 rfl ?_
  refine lc_aload_n C (pc' := 706) 0 dL_law_705 rfl rfl ?_
  refine lc_iload C (pc' := 708) 4 dL_law_706 rfl rfl ?_
  refine lc_iconst C (pc' := 709) (v := (2 : Int32)) dL_law_708 (by decide) rfl ?_
  refine lc_iadd C (pc' := 710) dL_law_709 rfl ?_
  obtain ⟨hi710, h⟩ := lc_ife h
  refine lc_sld C (pc' := 711) hX hbl hbA hi710 dL_law_710 rfl ?_
  refine lc_aload_n C (pc' := 712) 3 dL_law_711 rfl rfl ?_
  obtain ⟨r712, M31, h712, h⟩ := lc_bd2e h
  refine lc_csW C (pc' := 715) (r := r712) (M' := M31) (As := [.ref (lc_ad S 194), .int (xs (x4 + (1 : Int32)).toNatClampNeg), .int (xs (x4 + (2 : Int32)).toNatClampNeg), .ref (lc_ad S 206)]) (rest := []) (c_L_repay S X.2.1 hl (xs (x4 + (1 : Int32)).toNatClampNeg) (xs (x4 + (2 : Int32)).toNatClampNeg) M (r712, M31) h712) kw_L_repay rfl rfl (Nat.le_of_ble_eq_true rfl) ⟨Nat.le_of_ble_eq_true rfl, Nat.le_of_ble_eq_true rfl⟩ ⟨hr1, hr2⟩ dL_law_712 rfl ?_
  refine lc_istore C (pc' := 717) (lo' := [(5, .int r712), (0, .ref bS), (1, .ref (lc_ad S 194)), (2, .ref (lc_ad S 197)), (3, .ref (lc_ad S 206)), (4, .int x4)]) dL_law_715 (Nat.le_of_ble_eq_true rfl) rfl rfl ?_
  refine lc_aload_n C (pc' := 718) 3 dL_law_717 rfl rfl ?_
  refine lc_aload_n C (pc' := 719) 1 dL_law_718 rfl rfl ?_
  refine lc_iload C (pc' := 721) 5 dL_law_719 rfl rfl ?_
  refine lc_iconst C (pc' := 722) (v := (1 : Int32)) dL_law_721 (by decide) rfl ?_
  refine lc_iadd C (pc' := 723) dL_law_722 rfl ?_
  obtain ⟨hi723, h⟩ := lc_ife h
  refine lc_sld C (pc' := 724) hX hbl hbA hi723 dL_law_723 rfl ?_
  refine lc_aload_n C (pc' := 725) 1 dL_law_724 rfl rfl ?_
  refine lc_iload C (pc' := 727) 5 dL_law_725 rfl rfl ?_
  refine lc_iconst C (pc' := 728) (v := (2 : Int32)) dL_law_727 (by decide) rfl ?_
  refine lc_iadd C (pc' := 729) dL_law_728 rfl ?_
  obtain ⟨hi729, h⟩ := lc_ife h
  refine lc_sld C (pc' := 730) hX hbl hbA hi729 dL_law_729 rfl ?_
  refine lc_meq (lc_up_self M31 22).symm ?_
  obtain ⟨r730, s32, h730, h⟩ := lc_bd2e h
  refine lc_cvi C (pc' := 733) (r := r730) (M' := (va_up M31 22 s32)) (As := [.int (xs (x4 + (1 : Int32)).toNatClampNeg), .int (xs (x4 + (2 : Int32)).toNatClampNeg)]) (rest := []) (c_X4_repay S X.2.1 M31   (xs (x4 + (1 : Int32)).toNatClampNeg) (xs (x4 + (2 : Int32)).toNatClampNeg) (M31 22) (r730, s32) h730) kl_RL_136 (lc_at197 S _) rfl rfl rfl rfl (Nat.le_of_ble_eq_true rfl) ⟨Nat.le_of_ble_eq_true rfl, Nat.le_of_ble_eq_true rfl⟩ ⟨rfl, rfl⟩ ⟨hr1, hr2⟩ dL_law_730 rfl ?_
  obtain ⟨M33, eM33, h⟩ := lc_let2 h
  refine lc_meq eM33 ?_
  refine lc_istore C (pc' := 735) (lo' := [(6, .int r730), (5, .int r712), (0, .ref bS), (1, .ref (lc_ad S 194)), (2, .ref (lc_ad S 197)), (3, .ref (lc_ad S 206)), (4, .int x4)]) dL_law_733 (Nat.le_of_ble_eq_true rfl) rfl rfl ?_
  refine lc_aload_n C (pc' := 736) 4 dL_law_735 rfl rfl ?_
  refine lc_meq (lc_up_self M33 22).symm ?_
  obtain ⟨r736, h736, h⟩ := lc_bde h
  refine lc_cvi C (pc' := 739) (r := r736) (M' := (va_up M33 22 (M33 22))) (As := []) (rest := []) (c_X4_thrown S X.2.1 M33    (M33 22) r736 h736) kl_RL_98 (lc_at197 S _) rfl rfl rfl rfl (Nat.le_of_ble_eq_true rfl) ⟨Nat.le_of_ble_eq_true rfl, Nat.le_of_ble_eq_true rfl⟩ ⟨rfl, rfl⟩ ⟨hr1, hr2⟩ dL_law_736 rfl ?_
  refine lc_meq (lc_up_self M33 22) ?_
  refine lc_iload C (pc' := 741) 1 dL_law_739 rfl rfl ?_
  refine lc_icmp_eq C (pc' := 744) (tgt := 746) dL_law_741 (by decide) rfl (fun c741 => ?_) (fun c741 => ?_)
  · have h := (lc_if2 h).1 c741
    refine lc_iload C (pc' := 748) 1 dL_law_746 rfl rfl ?_
    refine lc_if_ne C (pc' := 751) (tgt := 763) dL_law_748 (by decide) rfl (fun c748 => ?_) (fun c748 => ?_)
    · have h := (lc_if2 h).2 c748
      refine lc_goto C (tgt := 1619) dL_law_763 (by decide) ?_
      refine lc_sub (lo' := [(0, .ref bS), (1, .ref (lc_ad S 194)), (2, .ref (lc_ad S 197)), (3, .ref (lc_ad S 206)), (4, .int x4)]) [2, 3, 4, 5, 6] rfl ?_
      exact w_L_law_1619 C K hK x4 M33 h
    · have h := (lc_if2 h).1 c748
      refine lc_aload_n C (pc' := 752) 5 dL_law_751 rfl rfl ?_
      refine lc_iconst C (pc' := 753) (v := (0 : Int32)) dL_law_752 (by decide) rfl ?_
      refine lc_lld C (pc' := 754) dL_law_753 rfl ?_
      refine lc_iload C (pc' := 756) 0 dL_law_754 rfl rfl ?_
      refine lc_i2l C (pc' := 757) dL_law_756 rfl ?_
      refine lc_lcmp C (pc' := 758) dL_law_757 rfl ?_
      refine lc_if_eq C (pc' := 761) (tgt := 763) dL_law_758 (by decide) rfl (fun c758 => ?_) (fun c758 => ?_)
      · have h := (lc_if2 h).1 c758
        refine lc_goto C (tgt := 1619) dL_law_763 (by decide) ?_
        refine lc_sub (lo' := [(0, .ref bS), (1, .ref (lc_ad S 194)), (2, .ref (lc_ad S 197)), (3, .ref (lc_ad S 206)), (4, .int x4)]) [2, 3, 4, 5, 6] rfl ?_
        exact w_L_law_1619 C K hK x4 M33 h
      · have h := (lc_if2 h).2 c758
        refine lc_iconst C (pc' := 762) (v := (0 : Int32)) dL_law_761 (by decide) rfl ?_
        exact absurd (Option.some.inj h) (by decide)
  · have h := (lc_if2 h).2 c741
    refine lc_iconst C (pc' := 745) (v := (0 : Int32)) dL_law_744 (by decide) rfl ?_
    exact absurd (Option.some.inj h) (by decide)
def P_L_case11 (L : Nat) (xs : Nat → Int32) (K : Int32 → lc_MM → Option Int32) (x4 : Int32) (M : lc_MM) : Option Int32 :=
  lc_if (lc_ok (x4 + (1 : Int32)) L) (lc_if (lc_ok (x4 + (2 : Int32)) L) (lc_bd2 (P_L_setLeak (xs (x4 + (1 : Int32)).toNatClampNeg) (xs (x4 + (2 : Int32)).toNatClampNeg) M) (fun r780 M34 => lc_if (lc_ok (x4 + (1 : Int32)) L) (lc_if (lc_ok (x4 + (2 : Int32)) L) (lc_bd2 (P_X4_setLeak (xs (x4 + (1 : Int32)).toNatClampNeg) (xs (x4 + (2 : Int32)).toNatClampNeg) (M34 22)) (fun r798 s35 => lc_let (va_up M34 22 s35) (fun M36 => lc_bd (P_X4_thrown  (M36 22)) (fun r804 => if r804 = r780 then if r780 = 0 then if (lg_cmp (M36 23 0 0).toInt64 r798.toInt64) = 0 then P_L_law_1619 K x4 M36 else some (0 : Int32) else P_L_law_1619 K x4 M36 else some (0 : Int32)))))))))
set_option maxRecDepth 100000 in
set_option maxHeartbeats 4000000 in
theorem w_L_case11 {S : lc_Se} {X : lc_X} {Q : State → Prop} {bS L : Nat} {xs : Nat → Int32} {c0 s0 t : Nat} (C : lc_C X cL_law RL 7 ret room_1) (hl : X.2.1.stackTraces = false) (hX : va_X bS L xs (lc_Xs X) (lc_Xs X).heap) (hbl : bS < (lc_Xs X).heap.size) (hbA : ¬ lc_A S bS) (hr1 : c0 + t + 1 ≤ 601024) (hr2 : s0 + 6 * t + 6 ≤ 7293034) (hend : ∀ (k j pc : Nat) (lo : List (Nat × Value)) (M : lc_MM), k ≤ 601024 → j ≤ 7293034 → decode cL_law pc = .ok (.ireturn, 1) → lc_J S X 7 k j Q pc lo [.int 1] M) (K : Int32 → lc_MM → Option Int32) (hK : ∀ (x4 : Int32) (M : lc_MM), K x4 M = some 1 → lc_J S X 7 (c0 + t + 1) (s0 + 6 * t + 6) Q 23 [(0, .ref bS), (1, .ref (lc_ad S 194)), (2, .ref (lc_ad S 197)), (3, .ref (lc_ad S 206)), (4, .int x4)] [] M) (x4 : Int32) (M : lc_MM) (h : P_L_case11 L xs K x4 M = some 1) : lc_J S X 7 (c0 + t) (s0 + 6 * t) Q 766 [(0, .ref bS), (1, .ref (lc_ad S 194)), (2, .ref (lc_ad S 197)), (3, .ref (lc_ad S 206)), (4, .int x4)] [] M := by
  rw [P_L_case11] at h
  refine lc_aload_n C (pc' := 767) 1 dL_law_766 rfl rfl ?_
  refine lc_aload_n C (pc' := 768) 0 dL_law_767 rfl rfl ?_
  refine lc_iload C (pc' := 770) 4 dL_law_768 rfl rfl ?_
  refine lc_iconst C (pc' := 771) (v := (1 : Int32)) dL_law_770 (by decide) rfl ?_
  refine lc_iadd C (pc' := 772) dL_law_771 rfl ?_
  obtain ⟨hi772, h⟩ := lc_ife h
  refine lc_sld C (pc' := 773) hX hbl hbA hi772 dL_law_772 rfl ?_
  refine lc_aload_n C (pc' := 774) 0 dL_law_773 rfl rfl ?_
  refine lc_iload C (pc' := 776) 4 dL_law_774 rfl rfl ?_
  refine lc_iconst C (pc' := 777) (v := (2 : Int32)) dL_law_776 (by decide) rfl ?_
  refine lc_iadd C (pc' := 778) dL_law_777 rfl ?_
  obtain ⟨hi778, h⟩ := lc_ife h
  refine lc_sld C (pc' := 779) hX hbl hbA hi778 dL_law_778 rfl ?_
  refine lc_aload_n C (pc' := 780) 3 dL_law_779 rfl rfl ?_
  obtain ⟨r780, M34, h780, h⟩ := lc_bd2e h
  refine lc_csW C (pc' := 783) (r := r780) (M' := M34) (As := [.ref (lc_ad S 194), .int (xs (x4 + (1 : Int32)).toNatClampNeg), .int (xs (x4 + (2 : Int32)).toNatClampNeg), .ref (lc_ad S 206)]) (rest := []) (c_L_setLeak S X.2.1 hl (xs (x4 + (1 : Int32)).toNatClampNeg) (xs (x4 + (2 : Int32)).toNatClampNeg) M (r780, M34) h780) kw_L_setLeak rfl rfl (Nat.le_of_ble_eq_true rfl) ⟨Nat.le_of_ble_eq_true rfl, Nat.le_of_ble_eq_true rfl⟩ ⟨hr1, hr2⟩ dL_law_780 rfl ?_
  refine lc_istore C (pc' := 785) (lo' := [(5, .int r780), (0, .ref bS), (1, .ref (lc_ad S 194)), (2, .ref (lc_ad S 197)), (3, .ref (lc_ad S 206)), (4, .int x4)]) dL_law_783 (Nat.le_of_ble_eq_true rfl) rfl rfl ?_
  refine lc_aload_n C (pc' := 786) 3 dL_law_785 rfl rfl ?_
  refine lc_aload_n C (pc' := 787) 1 dL_law_786 rfl rfl ?_
  refine lc_iload C (pc' := 789) 5 dL_law_787 rfl rfl ?_
  refine lc_iconst C (pc' := 790) (v := (1 : Int32)) dL_law_789 (by decide) rfl ?_
  refine lc_iadd C (pc' := 791) dL_law_790 rfl ?_
  obtain ⟨hi791, h⟩ := lc_ife h
  refine lc_sld C (pc' := 792) hX hbl hbA hi791 dL_law_791 rfl ?_
  refine lc_aload_n C (pc' := 793) 1 dL_law_792 rfl rfl ?_
  refine lc_iload C (pc' := 795) 5 dL_law_793 rfl rfl ?_
  refine lc_iconst C (pc' := 796) (v := (2 : Int32)) dL_law_795 (by decide) rfl ?_
  refine lc_iadd C (pc' := 797) dL_law_796 rfl ?_
  obtain ⟨hi797, h⟩ := lc_ife h
  refine lc_sld C (pc' := 798) hX hbl hbA hi797 dL_law_797 rfl ?_
  refine lc_meq (lc_up_self M34 22).symm ?_
  obtain ⟨r798, s35, h798, h⟩ := lc_bd2e h
  refine lc_cvi C (pc' := 801) (r := r798) (M' := (va_up M34 22 s35)) (As := [.int (xs (x4 + (1 : Int32)).toNatClampNeg), .int (xs (x4 + (2 : Int32)).toNatClampNeg)]) (rest := []) (c_X4_setLeak S X.2.1 M34   (xs (x4 + (1 : Int32)).toNatClampNeg) (xs (x4 + (2 : Int32)).toNatClampNeg) (M34 22) (r798, s35) h798) kl_RL_139 (lc_at197 S _) rfl rfl rfl rfl (Nat.le_of_ble_eq_true rfl) ⟨Nat.le_of_ble_eq_true rfl, Nat.le_of_ble_eq_true rfl⟩ ⟨rfl, rfl⟩ ⟨hr1, hr2⟩ dL_law_798 rfl ?_
  obtain ⟨M36, eM36, h⟩ := lc_let2 h
  refine lc_meq eM36 ?_
  refine lc_istore C (pc' := 803) (lo' := [(6, .int r798), (5, .int r780), (0, .ref bS), (1, .ref (lc_ad S 194)), (2, .ref (lc_ad S 197)), (3, .ref (lc_ad S 206)), (4, .int x4)]) dL_law_801 (Nat.le_of_ble_eq_true rfl) rfl rfl ?_
  refine lc_aload_n C (pc' := 804) 4 dL_law_803 rfl rfl ?_
  refine lc_meq (lc_up_self M36 22).symm ?_
  obtain ⟨r804, h804, h⟩ := lc_bde h
  refine lc_cvi C (pc' := 807) (r := r804) (M' := (va_up M36 22 (M36 22))) (As := []) (rest := []) (c_X4_thrown S X.2.1 M36    (M36 22) r804 h804) kl_RL_98 (lc_at197 S _) rfl rfl rfl rfl (Nat.le_of_ble_eq_true rfl) ⟨Nat.le_of_ble_eq_true rfl, Nat.le_of_ble_eq_true rfl⟩ ⟨rfl, rfl⟩ ⟨hr1, hr2⟩ dL_law_804 rfl ?_
  refine lc_meq (lc_up_self M36 22) ?_
  refine lc_iload C (pc' := 809) 1 dL_law_807 rfl rfl ?_
  refine lc_icmp_eq C (pc' := 812) (tgt := 814) dL_law_809 (by decide) rfl (fun c809 => ?_) (fun c809 => ?_)
  · have h := (lc_if2 h).1 c809
    refine lc_iload C (pc' := 816) 1 dL_law_814 rfl rfl ?_
    refine lc_if_ne C (pc' := 819) (tgt := 831) dL_law_816 (by decide) rfl (fun c816 => ?_) (fun c816 => ?_)
    · have h := (lc_if2 h).2 c816
      refine lc_goto C (tgt := 1619) dL_law_831 (by decide) ?_
      refine lc_sub (lo' := [(0, .ref bS), (1, .ref (lc_ad S 194)), (2, .ref (lc_ad S 197)), (3, .ref (lc_ad S 206)), (4, .int x4)]) [2, 3, 4, 5, 6] rfl ?_
      exact w_L_law_1619 C K hK x4 M36 h
    · have h := (lc_if2 h).1 c816
      refine lc_aload_n C (pc' := 820) 5 dL_law_819 rfl rfl ?_
      refine lc_iconst C (pc' := 821) (v := (0 : Int32)) dL_law_820 (by decide) rfl ?_
      refine lc_lld C (pc' := 822) dL_law_821 rfl ?_
      refine lc_iload C (pc' := 824) 0 dL_law_822 rfl rfl ?_
      refine lc_i2l C (pc' := 825) dL_law_824 rfl ?_
      refine lc_lcmp C (pc' := 826) dL_law_825 rfl ?_
      refine lc_if_eq C (pc' := 829) (tgt := 831) dL_law_826 (by decide) rfl (fun c826 => ?_) (fun c826 => ?_)
      · have h := (lc_if2 h).1 c826
        refine lc_goto C (tgt := 1619) dL_law_831 (by decide) ?_
        refine lc_sub (lo' := [(0, .ref bS), (1, .ref (lc_ad S 194)), (2, .ref (lc_ad S 197)), (3, .ref (lc_ad S 206)), (4, .int x4)]) [2, 3, 4, 5, 6] rfl ?_
        exact w_L_law_1619 C K hK x4 M36 h
      · have h := (lc_if2 h).2 c826
        refine lc_iconst C (pc' := 830) (v := (0 : Int32)) dL_law_829 (by decide) rfl ?_
        exact absurd (Option.some.inj h) (by decide)
  · have h := (lc_if2 h).2 c809
    refine lc_iconst C (pc' := 813) (v := (0 : Int32)) dL_law_812 (by decide) rfl ?_
    exact absurd (Option.some.inj h) (by decide)
def P_L_case12 (L : Nat) (xs : Nat → Int32) (K : Int32 → lc_MM → Option Int32) (x4 : Int32) (M : lc_MM) : Option Int32 :=
  lc_if (lc_ok (x4 + (1 : Int32)) L) (lc_bd2 (P_L_charge (xs (x4 + (1 : Int32)).toNatClampNeg) M) (fun r842 M37 => lc_if (lc_ok (x4 + (1 : Int32)) L) (lc_bd2 (P_X4_charge (xs (x4 + (1 : Int32)).toNatClampNeg) (M37 22)) (fun r854 s38 => lc_let (va_up M37 22 s38) (fun M39 => lc_bd (P_X4_thrown  (M39 22)) (fun r860 => if r860 = r842 then if r842 = 0 then if (lg_cmp (M39 23 0 0).toInt64 r854.toInt64) = 0 then P_L_law_1619 K x4 M39 else some (0 : Int32) else P_L_law_1619 K x4 M39 else some (0 : Int32)))))))
set_option maxRecDepth 100000 in
set_option maxHeartbeats 4000000 in
theorem w_L_case12 {S : lc_Se} {X : lc_X} {Q : State → Prop} {bS L : Nat} {xs : Nat → Int32} {c0 s0 t : Nat} (C : lc_C X cL_law RL 7 ret room_1) (hl : X.2.1.stackTraces = false) (hX : va_X bS L xs (lc_Xs X) (lc_Xs X).heap) (hbl : bS < (lc_Xs X).heap.size) (hbA : ¬ lc_A S bS) (hr1 : c0 + t + 1 ≤ 601024) (hr2 : s0 + 6 * t + 6 ≤ 7293034) (hend : ∀ (k j pc : Nat) (lo : List (Nat × Value)) (M : lc_MM), k ≤ 601024 → j ≤ 7293034 → decode cL_law pc = .ok (.ireturn, 1) → lc_J S X 7 k j Q pc lo [.int 1] M) (K : Int32 → lc_MM → Option Int32) (hK : ∀ (x4 : Int32) (M : lc_MM), K x4 M = some 1 → lc_J S X 7 (c0 + t + 1) (s0 + 6 * t + 6) Q 23 [(0, .ref bS), (1, .ref (lc_ad S 194)), (2, .ref (lc_ad S 197)), (3, .ref (lc_ad S 206)), (4, .int x4)] [] M) (x4 : Int32) (M : lc_MM) (h : P_L_case12 L xs K x4 M = some 1) : lc_J S X 7 (c0 + t) (s0 + 6 * t) Q 834 [(0, .ref bS), (1, .ref (lc_ad S 194)), (2, .ref (lc_ad S 197)), (3, .ref (lc_ad S 206)), (4, .int x4)] [] M := by
  rw [P_L_case12] at h
  refine lc_aload_n C (pc' := 835) 1 dL_law_834 rfl rfl ?_
  refine lc_aload_n C (pc' := 836) 0 dL_law_835 rfl rfl ?_
  refine lc_iload C (pc' := 838) 4 dL_law_836 rfl rfl ?_
  refine lc_iconst C (pc' := 839) (v := (1 : Int32)) dL_law_838 (by decide) rfl ?_
  refine lc_iadd C (pc' := 840) dL_law_839 rfl ?_
  obtain ⟨hi840, h⟩ := lc_ife h
  refine lc_sld C (pc' := 841) hX hbl hbA hi840 dL_law_840 rfl ?_
  refine lc_aload_n C (pc' := 842) 3 dL_law_841 rfl rfl ?_
  obtain ⟨r842, M37, h842, h⟩ := lc_bd2e h
  refine lc_csW C (pc' := 845) (r := r842) (M' := M37) (As := [.ref (lc_ad S 194), .int (xs (x4 + (1 : Int32)).toNatClampNeg), .ref (lc_ad S 206)]) (rest := []) (c_L_charge S X.2.1 hl (xs (x4 + (1 : Int32)).toNatClampNeg) M (r842, M37) h842) kw_L_charge rfl rfl (Nat.le_of_ble_eq_true rfl) ⟨Nat.le_of_ble_eq_true rfl, Nat.le_of_ble_eq_true rfl⟩ ⟨hr1, hr2⟩ dL_law_842 rfl ?_
  refine lc_istore C (pc' := 847) (lo' := [(5, .int r842), (0, .ref bS), (1, .ref (lc_ad S 194)), (2, .ref (lc_ad S 197)), (3, .ref (lc_ad S 206)), (4, .int x4)]) dL_law_845 (Nat.le_of_ble_eq_true rfl) rfl rfl ?_
  refine lc_aload_n C (pc' := 848) 3 dL_law_847 rfl rfl ?_
  refine lc_aload_n C (pc' := 849) 1 dL_law_848 rfl rfl ?_
  refine lc_iload C (pc' := 851) 5 dL_law_849 rfl rfl ?_
  refine lc_iconst C (pc' := 852) (v := (1 : Int32)) dL_law_851 (by decide) rfl ?_
  refine lc_iadd C (pc' := 853) dL_law_852 rfl ?_
  obtain ⟨hi853, h⟩ := lc_ife h
  refine lc_sld C (pc' := 854) hX hbl hbA hi853 dL_law_853 rfl ?_
  refine lc_meq (lc_up_self M37 22).symm ?_
  obtain ⟨r854, s38, h854, h⟩ := lc_bd2e h
  refine lc_cvi C (pc' := 857) (r := r854) (M' := (va_up M37 22 s38)) (As := [.int (xs (x4 + (1 : Int32)).toNatClampNeg)]) (rest := []) (c_X4_charge S X.2.1 M37   (xs (x4 + (1 : Int32)).toNatClampNeg) (M37 22) (r854, s38) h854) kl_RL_142 (lc_at197 S _) rfl rfl rfl rfl (Nat.le_of_ble_eq_true rfl) ⟨Nat.le_of_ble_eq_true rfl, Nat.le_of_ble_eq_true rfl⟩ ⟨rfl, rfl⟩ ⟨hr1, hr2⟩ dL_law_854 rfl ?_
  obtain ⟨M39, eM39, h⟩ := lc_let2 h
  refine lc_meq eM39 ?_
  refine lc_istore C (pc' := 859) (lo' := [(6, .int r854), (5, .int r842), (0, .ref bS), (1, .ref (lc_ad S 194)), (2, .ref (lc_ad S 197)), (3, .ref (lc_ad S 206)), (4, .int x4)]) dL_law_857 (Nat.le_of_ble_eq_true rfl) rfl rfl ?_
  refine lc_aload_n C (pc' := 860) 4 dL_law_859 rfl rfl ?_
  refine lc_meq (lc_up_self M39 22).symm ?_
  obtain ⟨r860, h860, h⟩ := lc_bde h
  refine lc_cvi C (pc' := 863) (r := r860) (M' := (va_up M39 22 (M39 22))) (As := []) (rest := []) (c_X4_thrown S X.2.1 M39    (M39 22) r860 h860) kl_RL_98 (lc_at197 S _) rfl rfl rfl rfl (Nat.le_of_ble_eq_true rfl) ⟨Nat.le_of_ble_eq_true rfl, Nat.le_of_ble_eq_true rfl⟩ ⟨rfl, rfl⟩ ⟨hr1, hr2⟩ dL_law_860 rfl ?_
  refine lc_meq (lc_up_self M39 22) ?_
  refine lc_iload C (pc' := 865) 1 dL_law_863 rfl rfl ?_
  refine lc_icmp_eq C (pc' := 868) (tgt := 870) dL_law_865 (by decide) rfl (fun c865 => ?_) (fun c865 => ?_)
  · have h := (lc_if2 h).1 c865
    refine lc_iload C (pc' := 872) 1 dL_law_870 rfl rfl ?_
    refine lc_if_ne C (pc' := 875) (tgt := 887) dL_law_872 (by decide) rfl (fun c872 => ?_) (fun c872 => ?_)
    · have h := (lc_if2 h).2 c872
      refine lc_goto C (tgt := 1619) dL_law_887 (by decide) ?_
      refine lc_sub (lo' := [(0, .ref bS), (1, .ref (lc_ad S 194)), (2, .ref (lc_ad S 197)), (3, .ref (lc_ad S 206)), (4, .int x4)]) [2, 3, 4, 5, 6] rfl ?_
      exact w_L_law_1619 C K hK x4 M39 h
    · have h := (lc_if2 h).1 c872
      refine lc_aload_n C (pc' := 876) 5 dL_law_875 rfl rfl ?_
      refine lc_iconst C (pc' := 877) (v := (0 : Int32)) dL_law_876 (by decide) rfl ?_
      refine lc_lld C (pc' := 878) dL_law_877 rfl ?_
      refine lc_iload C (pc' := 880) 0 dL_law_878 rfl rfl ?_
      refine lc_i2l C (pc' := 881) dL_law_880 rfl ?_
      refine lc_lcmp C (pc' := 882) dL_law_881 rfl ?_
      refine lc_if_eq C (pc' := 885) (tgt := 887) dL_law_882 (by decide) rfl (fun c882 => ?_) (fun c882 => ?_)
      · have h := (lc_if2 h).1 c882
        refine lc_goto C (tgt := 1619) dL_law_887 (by decide) ?_
        refine lc_sub (lo' := [(0, .ref bS), (1, .ref (lc_ad S 194)), (2, .ref (lc_ad S 197)), (3, .ref (lc_ad S 206)), (4, .int x4)]) [2, 3, 4, 5, 6] rfl ?_
        exact w_L_law_1619 C K hK x4 M39 h
      · have h := (lc_if2 h).2 c882
        refine lc_iconst C (pc' := 886) (v := (0 : Int32)) dL_law_885 (by decide) rfl ?_
        exact absurd (Option.some.inj h) (by decide)
  · have h := (lc_if2 h).2 c865
    refine lc_iconst C (pc' := 869) (v := (0 : Int32)) dL_law_868 (by decide) rfl ?_
    exact absurd (Option.some.inj h) (by decide)
def P_L_case13 (L : Nat) (xs : Nat → Int32) (K : Int32 → lc_MM → Option Int32) (x4 : Int32) (M : lc_MM) : Option Int32 :=
  lc_if (lc_ok (x4 + (1 : Int32)) L) (lc_bd2 (P_L_draw (xs (x4 + (1 : Int32)).toNatClampNeg) M) (fun r898 M40 => lc_if (lc_ok (x4 + (1 : Int32)) L) (lc_bd2 (P_X4_draw (xs (x4 + (1 : Int32)).toNatClampNeg) (M40 22)) (fun r910 s41 => lc_let (va_up M40 22 s41) (fun M42 => lc_bd (P_X4_thrown  (M42 22)) (fun r916 => if r916 = r898 then if r898 = 0 then if (lg_cmp (M42 23 0 0).toInt64 r910.toInt64) = 0 then P_L_law_1619 K x4 M42 else some (0 : Int32) else P_L_law_1619 K x4 M42 else some (0 : Int32)))))))
set_option maxRecDepth 100000 in
set_option maxHeartbeats 4000000 in
theorem w_L_case13 {S : lc_Se} {X : lc_X} {Q : State → Prop} {bS L : Nat} {xs : Nat → Int32} {c0 s0 t : Nat} (C : lc_C X cL_law RL 7 ret room_1) (hl : X.2.1.stackTraces = false) (hX : va_X bS L xs (lc_Xs X) (lc_Xs X).heap) (hbl : bS < (lc_Xs X).heap.size) (hbA : ¬ lc_A S bS) (hr1 : c0 + t + 1 ≤ 601024) (hr2 : s0 + 6 * t + 6 ≤ 7293034) (hend : ∀ (k j pc : Nat) (lo : List (Nat × Value)) (M : lc_MM), k ≤ 601024 → j ≤ 7293034 → decode cL_law pc = .ok (.ireturn, 1) → lc_J S X 7 k j Q pc lo [.int 1] M) (K : Int32 → lc_MM → Option Int32) (hK : ∀ (x4 : Int32) (M : lc_MM), K x4 M = some 1 → lc_J S X 7 (c0 + t + 1) (s0 + 6 * t + 6) Q 23 [(0, .ref bS), (1, .ref (lc_ad S 194)), (2, .ref (lc_ad S 197)), (3, .ref (lc_ad S 206)), (4, .int x4)] [] M) (x4 : Int32) (M : lc_MM) (h : P_L_case13 L xs K x4 M = some 1) : lc_J S X 7 (c0 + t) (s0 + 6 * t) Q 890 [(0, .ref bS), (1, .ref (lc_ad S 194)), (2, .ref (lc_ad S 197)), (3, .ref (lc_ad S 206)), (4, .int x4)] [] M := by
  rw [P_L_case13] at h
  refine lc_aload_n C (pc' := 891) 1 dL_law_890 rfl rfl ?_
  refine lc_aload_n C (pc' := 892) 0 dL_law_891 rfl rfl ?_
  refine lc_iload C (pc' := 894) 4 dL_law_892 rfl rfl ?_
  refine lc_iconst C (pc' := 895) (v := (1 : Int32)) dL_law_894 (by decide) rfl ?_
  refine lc_iadd C (pc' := 896) dL_law_895 rfl ?_
  obtain ⟨hi896, h⟩ := lc_ife h
  refine lc_sld C (pc' := 897) hX hbl hbA hi896 dL_law_896 rfl ?_
  refine lc_aload_n C (pc' := 898) 3 dL_law_897 rfl rfl ?_
  obtain ⟨r898, M40, h898, h⟩ := lc_bd2e h
  refine lc_csW C (pc' := 901) (r := r898) (M' := M40) (As := [.ref (lc_ad S 194), .int (xs (x4 + (1 : Int32)).toNatClampNeg), .ref (lc_ad S 206)]) (rest := []) (c_L_draw S X.2.1 hl (xs (x4 + (1 : Int32)).toNatClampNeg) M (r898, M40) h898) kw_L_draw rfl rfl (Nat.le_of_ble_eq_true rfl) ⟨Nat.le_of_ble_eq_true rfl, Nat.le_of_ble_eq_true rfl⟩ ⟨hr1, hr2⟩ dL_law_898 rfl ?_
  refine lc_istore C (pc' := 903) (lo' := [(5, .int r898), (0, .ref bS), (1, .ref (lc_ad S 194)), (2, .ref (lc_ad S 197)), (3, .ref (lc_ad S 206)), (4, .int x4)]) dL_law_901 (Nat.le_of_ble_eq_true rfl) rfl rfl ?_
  refine lc_aload_n C (pc' := 904) 3 dL_law_903 rfl rfl ?_
  refine lc_aload_n C (pc' := 905) 1 dL_law_904 rfl rfl ?_
  refine lc_iload C (pc' := 907) 5 dL_law_905 rfl rfl ?_
  refine lc_iconst C (pc' := 908) (v := (1 : Int32)) dL_law_907 (by decide) rfl ?_
  refine lc_iadd C (pc' := 909) dL_law_908 rfl ?_
  obtain ⟨hi909, h⟩ := lc_ife h
  refine lc_sld C (pc' := 910) hX hbl hbA hi909 dL_law_909 rfl ?_
  refine lc_meq (lc_up_self M40 22).symm ?_
  obtain ⟨r910, s41, h910, h⟩ := lc_bd2e h
  refine lc_cvi C (pc' := 913) (r := r910) (M' := (va_up M40 22 s41)) (As := [.int (xs (x4 + (1 : Int32)).toNatClampNeg)]) (rest := []) (c_X4_draw S X.2.1 M40   (xs (x4 + (1 : Int32)).toNatClampNeg) (M40 22) (r910, s41) h910) kl_RL_145 (lc_at197 S _) rfl rfl rfl rfl (Nat.le_of_ble_eq_true rfl) ⟨Nat.le_of_ble_eq_true rfl, Nat.le_of_ble_eq_true rfl⟩ ⟨rfl, rfl⟩ ⟨hr1, hr2⟩ dL_law_910 rfl ?_
  obtain ⟨M42, eM42, h⟩ := lc_let2 h
  refine lc_meq eM42 ?_
  refine lc_istore C (pc' := 915) (lo' := [(6, .int r910), (5, .int r898), (0, .ref bS), (1, .ref (lc_ad S 194)), (2, .ref (lc_ad S 197)), (3, .ref (lc_ad S 206)), (4, .int x4)]) dL_law_913 (Nat.le_of_ble_eq_true rfl) rfl rfl ?_
  refine lc_aload_n C (pc' := 916) 4 dL_law_915 rfl rfl ?_
  refine lc_meq (lc_up_self M42 22).symm ?_
  obtain ⟨r916, h916, h⟩ := lc_bde h
  refine lc_cvi C (pc' := 919) (r := r916) (M' := (va_up M42 22 (M42 22))) (As := []) (rest := []) (c_X4_thrown S X.2.1 M42    (M42 22) r916 h916) kl_RL_98 (lc_at197 S _) rfl rfl rfl rfl (Nat.le_of_ble_eq_true rfl) ⟨Nat.le_of_ble_eq_true rfl, Nat.le_of_ble_eq_true rfl⟩ ⟨rfl, rfl⟩ ⟨hr1, hr2⟩ dL_law_916 rfl ?_
  refine lc_meq (lc_up_self M42 22) ?_
  refine lc_iload C (pc' := 921) 1 dL_law_919 rfl rfl ?_
  refine lc_icmp_eq C (pc' := 924) (tgt := 926) dL_law_921 (by decide) rfl (fun c921 => ?_) (fun c921 => ?_)
  · have h := (lc_if2 h).1 c921
    refine lc_iload C (pc' := 928) 1 dL_law_926 rfl rfl ?_
    refine lc_if_ne C (pc' := 931) (tgt := 943) dL_law_928 (by decide) rfl (fun c928 => ?_) (fun c928 => ?_)
    · have h := (lc_if2 h).2 c928
      refine lc_goto C (tgt := 1619) dL_law_943 (by decide) ?_
      refine lc_sub (lo' := [(0, .ref bS), (1, .ref (lc_ad S 194)), (2, .ref (lc_ad S 197)), (3, .ref (lc_ad S 206)), (4, .int x4)]) [2, 3, 4, 5, 6] rfl ?_
      exact w_L_law_1619 C K hK x4 M42 h
    · have h := (lc_if2 h).1 c928
      refine lc_aload_n C (pc' := 932) 5 dL_law_931 rfl rfl ?_
      refine lc_iconst C (pc' := 933) (v := (0 : Int32)) dL_law_932 (by decide) rfl ?_
      refine lc_lld C (pc' := 934) dL_law_933 rfl ?_
      refine lc_iload C (pc' := 936) 0 dL_law_934 rfl rfl ?_
      refine lc_i2l C (pc' := 937) dL_law_936 rfl ?_
      refine lc_lcmp C (pc' := 938) dL_law_937 rfl ?_
      refine lc_if_eq C (pc' := 941) (tgt := 943) dL_law_938 (by decide) rfl (fun c938 => ?_) (fun c938 => ?_)
      · have h := (lc_if2 h).1 c938
        refine lc_goto C (tgt := 1619) dL_law_943 (by decide) ?_
        refine lc_sub (lo' := [(0, .ref bS), (1, .ref (lc_ad S 194)), (2, .ref (lc_ad S 197)), (3, .ref (lc_ad S 206)), (4, .int x4)]) [2, 3, 4, 5, 6] rfl ?_
        exact w_L_law_1619 C K hK x4 M42 h
      · have h := (lc_if2 h).2 c938
        refine lc_iconst C (pc' := 942) (v := (0 : Int32)) dL_law_941 (by decide) rfl ?_
        exact absurd (Option.some.inj h) (by decide)
  · have h := (lc_if2 h).2 c921
    refine lc_iconst C (pc' := 925) (v := (0 : Int32)) dL_law_924 (by decide) rfl ?_
    exact absurd (Option.some.inj h) (by decide)
def P_L_case14 (L : Nat) (xs : Nat → Int32) (K : Int32 → lc_MM → Option Int32) (x4 : Int32) (M : lc_MM) : Option Int32 :=
  lc_if (lc_ok (x4 + (1 : Int32)) L) (lc_bd2 (P_L_pass (xs (x4 + (1 : Int32)).toNatClampNeg) M) (fun r954 M43 => lc_if (lc_ok (x4 + (1 : Int32)) L) (lc_bd2 (P_X4_pass (xs (x4 + (1 : Int32)).toNatClampNeg) (M43 22)) (fun r966 s44 => lc_let (va_up M43 22 s44) (fun M45 => lc_bd (P_X4_thrown  (M45 22)) (fun r972 => if r972 = r954 then if r954 = 0 then if (lg_cmp (M45 23 0 0).toInt64 r966.toInt64) = 0 then P_L_law_1619 K x4 M45 else some (0 : Int32) else P_L_law_1619 K x4 M45 else some (0 : Int32)))))))
set_option maxRecDepth 100000 in
set_option maxHeartbeats 4000000 in
theorem w_L_case14 {S : lc_Se} {X : lc_X} {Q : State → Prop} {bS L : Nat} {xs : Nat → Int32} {c0 s0 t : Nat} (C : lc_C X cL_law RL 7 ret room_1) (hl : X.2.1.stackTraces = false) (hX : va_X bS L xs (lc_Xs X) (lc_Xs X).heap) (hbl : bS < (lc_Xs X).heap.size) (hbA : ¬ lc_A S bS) (hr1 : c0 + t + 1 ≤ 601024) (hr2 : s0 + 6 * t + 6 ≤ 7293034) (hend : ∀ (k j pc : Nat) (lo : List (Nat × Value)) (M : lc_MM), k ≤ 601024 → j ≤ 7293034 → decode cL_law pc = .ok (.ireturn, 1) → lc_J S X 7 k j Q pc lo [.int 1] M) (K : Int32 → lc_MM → Option Int32) (hK : ∀ (x4 : Int32) (M : lc_MM), K x4 M = some 1 → lc_J S X 7 (c0 + t + 1) (s0 + 6 * t + 6) Q 23 [(0, .ref bS), (1, .ref (lc_ad S 194)), (2, .ref (lc_ad S 197)), (3, .ref (lc_ad S 206)), (4, .int x4)] [] M) (x4 : Int32) (M : lc_MM) (h : P_L_case14 L xs K x4 M = some 1) : lc_J S X 7 (c0 + t) (s0 + 6 * t) Q 946 [(0, .ref bS), (1, .ref (lc_ad S 194)), (2, .ref (lc_ad S 197)), (3, .ref (lc_ad S 206)), (4, .int x4)] [] M := by
  rw [P_L_case14] at h
  refine lc_aload_n C (pc' := 947) 1 dL_law_946 rfl rfl ?_
  refine lc_aload_n C (pc' := 948) 0 dL_law_947 rfl rfl ?_
  refine lc_iload C (pc' := 950) 4 dL_law_948 rfl rfl ?_
  refine lc_iconst C (pc' := 951) (v := (1 : Int32)) dL_law_950 (by decide) rfl ?_
  refine lc_iadd C (pc' := 952) dL_law_951 rfl ?_
  obtain ⟨hi952, h⟩ := lc_ife h
  refine lc_sld C (pc' := 953) hX hbl hbA hi952 dL_law_952 rfl ?_
  refine lc_aload_n C (pc' := 954) 3 dL_law_953 rfl rfl ?_
  obtain ⟨r954, M43, h954, h⟩ := lc_bd2e h
  refine lc_csW C (pc' := 957) (r := r954) (M' := M43) (As := [.ref (lc_ad S 194), .int (xs (x4 + (1 : Int32)).toNatClampNeg), .ref (lc_ad S 206)]) (rest := []) (c_L_pass S X.2.1 hl (xs (x4 + (1 : Int32)).toNatClampNeg) M (r954, M43) h954) kw_L_pass rfl rfl (Nat.le_of_ble_eq_true rfl) ⟨Nat.le_of_ble_eq_true rfl, Nat.le_of_ble_eq_true rfl⟩ ⟨hr1, hr2⟩ dL_law_954 rfl ?_
  refine lc_istore C (pc' := 959) (lo' := [(5, .int r954), (0, .ref bS), (1, .ref (lc_ad S 194)), (2, .ref (lc_ad S 197)), (3, .ref (lc_ad S 206)), (4, .int x4)]) dL_law_957 (Nat.le_of_ble_eq_true rfl) rfl rfl ?_
  refine lc_aload_n C (pc' := 960) 3 dL_law_959 rfl rfl ?_
  refine lc_aload_n C (pc' := 961) 1 dL_law_960 rfl rfl ?_
  refine lc_iload C (pc' := 963) 5 dL_law_961 rfl rfl ?_
  refine lc_iconst C (pc' := 964) (v := (1 : Int32)) dL_law_963 (by decide) rfl ?_
  refine lc_iadd C (pc' := 965) dL_law_964 rfl ?_
  obtain ⟨hi965, h⟩ := lc_ife h
  refine lc_sld C (pc' := 966) hX hbl hbA hi965 dL_law_965 rfl ?_
  refine lc_meq (lc_up_self M43 22).symm ?_
  obtain ⟨r966, s44, h966, h⟩ := lc_bd2e h
  refine lc_cvi C (pc' := 969) (r := r966) (M' := (va_up M43 22 s44)) (As := [.int (xs (x4 + (1 : Int32)).toNatClampNeg)]) (rest := []) (c_X4_pass S X.2.1 M43   (xs (x4 + (1 : Int32)).toNatClampNeg) (M43 22) (r966, s44) h966) kl_RL_148 (lc_at197 S _) rfl rfl rfl rfl (Nat.le_of_ble_eq_true rfl) ⟨Nat.le_of_ble_eq_true rfl, Nat.le_of_ble_eq_true rfl⟩ ⟨rfl, rfl⟩ ⟨hr1, hr2⟩ dL_law_966 rfl ?_
  obtain ⟨M45, eM45, h⟩ := lc_let2 h
  refine lc_meq eM45 ?_
  refine lc_istore C (pc' := 971) (lo' := [(6, .int r966), (5, .int r954), (0, .ref bS), (1, .ref (lc_ad S 194)), (2, .ref (lc_ad S 197)), (3, .ref (lc_ad S 206)), (4, .int x4)]) dL_law_969 (Nat.le_of_ble_eq_true rfl) rfl rfl ?_
  refine lc_aload_n C (pc' := 972) 4 dL_law_971 rfl rfl ?_
  refine lc_meq (lc_up_self M45 22).symm ?_
  obtain ⟨r972, h972, h⟩ := lc_bde h
  refine lc_cvi C (pc' := 975) (r := r972) (M' := (va_up M45 22 (M45 22))) (As := []) (rest := []) (c_X4_thrown S X.2.1 M45    (M45 22) r972 h972) kl_RL_98 (lc_at197 S _) rfl rfl rfl rfl (Nat.le_of_ble_eq_true rfl) ⟨Nat.le_of_ble_eq_true rfl, Nat.le_of_ble_eq_true rfl⟩ ⟨rfl, rfl⟩ ⟨hr1, hr2⟩ dL_law_972 rfl ?_
  refine lc_meq (lc_up_self M45 22) ?_
  refine lc_iload C (pc' := 977) 1 dL_law_975 rfl rfl ?_
  refine lc_icmp_eq C (pc' := 980) (tgt := 982) dL_law_977 (by decide) rfl (fun c977 => ?_) (fun c977 => ?_)
  · have h := (lc_if2 h).1 c977
    refine lc_iload C (pc' := 984) 1 dL_law_982 rfl rfl ?_
    refine lc_if_ne C (pc' := 987) (tgt := 999) dL_law_984 (by decide) rfl (fun c984 => ?_) (fun c984 => ?_)
    · have h := (lc_if2 h).2 c984
      refine lc_goto C (tgt := 1619) dL_law_999 (by decide) ?_
      refine lc_sub (lo' := [(0, .ref bS), (1, .ref (lc_ad S 194)), (2, .ref (lc_ad S 197)), (3, .ref (lc_ad S 206)), (4, .int x4)]) [2, 3, 4, 5, 6] rfl ?_
      exact w_L_law_1619 C K hK x4 M45 h
    · have h := (lc_if2 h).1 c984
      refine lc_aload_n C (pc' := 988) 5 dL_law_987 rfl rfl ?_
      refine lc_iconst C (pc' := 989) (v := (0 : Int32)) dL_law_988 (by decide) rfl ?_
      refine lc_lld C (pc' := 990) dL_law_989 rfl ?_
      refine lc_iload C (pc' := 992) 0 dL_law_990 rfl rfl ?_
      refine lc_i2l C (pc' := 993) dL_law_992 rfl ?_
      refine lc_lcmp C (pc' := 994) dL_law_993 rfl ?_
      refine lc_if_eq C (pc' := 997) (tgt := 999) dL_law_994 (by decide) rfl (fun c994 => ?_) (fun c994 => ?_)
      · have h := (lc_if2 h).1 c994
        refine lc_goto C (tgt := 1619) dL_law_999 (by decide) ?_
        refine lc_sub (lo' := [(0, .ref bS), (1, .ref (lc_ad S 194)), (2, .ref (lc_ad S 197)), (3, .ref (lc_ad S 206)), (4, .int x4)]) [2, 3, 4, 5, 6] rfl ?_
        exact w_L_law_1619 C K hK x4 M45 h
      · have h := (lc_if2 h).2 c994
        refine lc_iconst C (pc' := 998) (v := (0 : Int32)) dL_law_997 (by decide) rfl ?_
        exact absurd (Option.some.inj h) (by decide)
  · have h := (lc_if2 h).2 c977
    refine lc_iconst C (pc' := 981) (v := (0 : Int32)) dL_law_980 (by decide) rfl ?_
    exact absurd (Option.some.inj h) (by decide)
def P_L_case15 (L : Nat) (xs : Nat → Int32) (K : Int32 → lc_MM → Option Int32) (x4 : Int32) (M : lc_MM) : Option Int32 :=
  lc_bd2 (P_L_undo  M) (fun r1004 M46 => lc_bd2 (P_X4_undo  (M46 22)) (fun r1010 s47 => lc_let (va_up M46 22 s47) (fun M48 => lc_bd (P_X4_thrown  (M48 22)) (fun r1016 => if r1016 = r1004 then if r1004 = 0 then if (lg_cmp (M48 23 0 0).toInt64 r1010.toInt64) = 0 then P_L_law_1619 K x4 M48 else some (0 : Int32) else P_L_law_1619 K x4 M48 else some (0 : Int32)))))
set_option maxRecDepth 100000 in
set_option maxHeartbeats 4000000 in
theorem w_L_case15 {S : lc_Se} {X : lc_X} {Q : State → Prop} {bS L : Nat} {xs : Nat → Int32} {c0 s0 t : Nat} (C : lc_C X cL_law RL 7 ret room_1) (hl : X.2.1.stackTraces = false) (hX : va_X bS L xs (lc_Xs X) (lc_Xs X).heap) (hbl : bS < (lc_Xs X).heap.size) (hbA : ¬ lc_A S bS) (hr1 : c0 + t + 1 ≤ 601024) (hr2 : s0 + 6 * t + 6 ≤ 7293034) (hend : ∀ (k j pc : Nat) (lo : List (Nat × Value)) (M : lc_MM), k ≤ 601024 → j ≤ 7293034 → decode cL_law pc = .ok (.ireturn, 1) → lc_J S X 7 k j Q pc lo [.int 1] M) (K : Int32 → lc_MM → Option Int32) (hK : ∀ (x4 : Int32) (M : lc_MM), K x4 M = some 1 → lc_J S X 7 (c0 + t + 1) (s0 + 6 * t + 6) Q 23 [(0, .ref bS), (1, .ref (lc_ad S 194)), (2, .ref (lc_ad S 197)), (3, .ref (lc_ad S 206)), (4, .int x4)] [] M) (x4 : Int32) (M : lc_MM) (h : P_L_case15 L xs K x4 M = some 1) : lc_J S X 7 (c0 + t) (s0 + 6 * t) Q 1002 [(0, .ref bS), (1, .ref (lc_ad S 194)), (2, .ref (lc_ad S 197)), (3, .ref (lc_ad S 206)), (4, .int x4)] [] M := by
  rw [P_L_case15] at h
  refine lc_aload_n C (pc' := 1003) 1 dL_law_1002 rfl rfl ?_
  refine lc_aload_n C (pc' := 1004) 3 dL_law_1003 rfl rfl ?_
  obtain ⟨r1004, M46, h1004, h⟩ := lc_bd2e h
  refine lc_csW C (pc' := 1007) (r := r1004) (M' := M46) (As := [.ref (lc_ad S 194), .ref (lc_ad S 206)]) (rest := []) (c_L_undo S X.2.1 hl  M (r1004, M46) h1004) kw_L_undo rfl rfl (Nat.le_of_ble_eq_true rfl) ⟨Nat.le_of_ble_eq_true rfl, Nat.le_of_ble_eq_true rfl⟩ ⟨hr1, hr2⟩ dL_law_1004 rfl ?_
  refine lc_istore C (pc' := 1009) (lo' := [(5, .int r1004), (0, .ref bS), (1, .ref (lc_ad S 194)), (2, .ref (lc_ad S 197)), (3, .ref (lc_ad S 206)), (4, .int x4)]) dL_law_1007 (Nat.le_of_ble_eq_true rfl) rfl rfl ?_
  refine lc_aload_n C (pc' := 1010) 3 dL_law_1009 rfl rfl ?_
  refine lc_meq (lc_up_self M46 22).symm ?_
  obtain ⟨r1010, s47, h1010, h⟩ := lc_bd2e h
  refine lc_cvi C (pc' := 1013) (r := r1010) (M' := (va_up M46 22 s47)) (As := []) (rest := []) (c_X4_undo S X.2.1 M46    (M46 22) (r1010, s47) h1010) kl_RL_151 (lc_at197 S _) rfl rfl rfl rfl (Nat.le_of_ble_eq_true rfl) ⟨Nat.le_of_ble_eq_true rfl, Nat.le_of_ble_eq_true rfl⟩ ⟨rfl, rfl⟩ ⟨hr1, hr2⟩ dL_law_1010 rfl ?_
  obtain ⟨M48, eM48, h⟩ := lc_let2 h
  refine lc_meq eM48 ?_
  refine lc_istore C (pc' := 1015) (lo' := [(6, .int r1010), (5, .int r1004), (0, .ref bS), (1, .ref (lc_ad S 194)), (2, .ref (lc_ad S 197)), (3, .ref (lc_ad S 206)), (4, .int x4)]) dL_law_1013 (Nat.le_of_ble_eq_true rfl) rfl rfl ?_
  refine lc_aload_n C (pc' := 1016) 4 dL_law_1015 rfl rfl ?_
  refine lc_meq (lc_up_self M48 22).symm ?_
  obtain ⟨r1016, h1016, h⟩ := lc_bde h
  refine lc_cvi C (pc' := 1019) (r := r1016) (M' := (va_up M48 22 (M48 22))) (As := []) (rest := []) (c_X4_thrown S X.2.1 M48    (M48 22) r1016 h1016) kl_RL_98 (lc_at197 S _) rfl rfl rfl rfl (Nat.le_of_ble_eq_true rfl) ⟨Nat.le_of_ble_eq_true rfl, Nat.le_of_ble_eq_true rfl⟩ ⟨rfl, rfl⟩ ⟨hr1, hr2⟩ dL_law_1016 rfl ?_
  refine lc_meq (lc_up_self M48 22) ?_
  refine lc_iload C (pc' := 1021) 1 dL_law_1019 rfl rfl ?_
  refine lc_icmp_eq C (pc' := 1024) (tgt := 1026) dL_law_1021 (by decide) rfl (fun c1021 => ?_) (fun c1021 => ?_)
  · have h := (lc_if2 h).1 c1021
    refine lc_iload C (pc' := 1028) 1 dL_law_1026 rfl rfl ?_
    refine lc_if_ne C (pc' := 1031) (tgt := 1043) dL_law_1028 (by decide) rfl (fun c1028 => ?_) (fun c1028 => ?_)
    · have h := (lc_if2 h).2 c1028
      refine lc_goto C (tgt := 1619) dL_law_1043 (by decide) ?_
      refine lc_sub (lo' := [(0, .ref bS), (1, .ref (lc_ad S 194)), (2, .ref (lc_ad S 197)), (3, .ref (lc_ad S 206)), (4, .int x4)]) [2, 3, 4, 5, 6] rfl ?_
      exact w_L_law_1619 C K hK x4 M48 h
    · have h := (lc_if2 h).1 c1028
      refine lc_aload_n C (pc' := 1032) 5 dL_law_1031 rfl rfl ?_
      refine lc_iconst C (pc' := 1033) (v := (0 : Int32)) dL_law_1032 (by decide) rfl ?_
      refine lc_lld C (pc' := 1034) dL_law_1033 rfl ?_
      refine lc_iload C (pc' := 1036) 0 dL_law_1034 rfl rfl ?_
      refine lc_i2l C (pc' := 1037) dL_law_1036 rfl ?_
      refine lc_lcmp C (pc' := 1038) dL_law_1037 rfl ?_
      refine lc_if_eq C (pc' := 1041) (tgt := 1043) dL_law_1038 (by decide) rfl (fun c1038 => ?_) (fun c1038 => ?_)
      · have h := (lc_if2 h).1 c1038
        refine lc_goto C (tgt := 1619) dL_law_1043 (by decide) ?_
        refine lc_sub (lo' := [(0, .ref bS), (1, .ref (lc_ad S 194)), (2, .ref (lc_ad S 197)), (3, .ref (lc_ad S 206)), (4, .int x4)]) [2, 3, 4, 5, 6] rfl ?_
        exact w_L_law_1619 C K hK x4 M48 h
      · have h := (lc_if2 h).2 c1038
        refine lc_iconst C (pc' := 1042) (v := (0 : Int32)) dL_law_1041 (by decide) rfl ?_
        exact absurd (Option.some.inj h) (by decide)
  · have h := (lc_if2 h).2 c1021
    refine lc_iconst C (pc' := 1025) (v := (0 : Int32)) dL_law_1024 (by decide) rfl ?_
    exact absurd (Option.some.inj h) (by decide)
def P_L_case16 (L : Nat) (xs : Nat → Int32) (K : Int32 → lc_MM → Option Int32) (x4 : Int32) (M : lc_MM) : Option Int32 :=
  lc_if (lc_ok (x4 + (1 : Int32)) L) (lc_bd2 (P_L_holds (xs (x4 + (1 : Int32)).toNatClampNeg) M) (fun r1054 M49 => lc_if (lc_ok (x4 + (1 : Int32)) L) (lc_bd2 (P_X4_holds (xs (x4 + (1 : Int32)).toNatClampNeg) (M49 22)) (fun r1066 s50 => lc_let (va_up M49 22 s50) (fun M51 => lc_bd (P_X4_thrown  (M51 22)) (fun r1072 => if r1072 = r1054 then if r1054 = 0 then if (lg_cmp (M51 23 0 0).toInt64 r1066.toInt64) = 0 then P_L_law_1619 K x4 M51 else some (0 : Int32) else P_L_law_1619 K x4 M51 else some (0 : Int32)))))))
set_option maxRecDepth 100000 in
set_option maxHeartbeats 4000000 in
theorem w_L_case16 {S : lc_Se} {X : lc_X} {Q : State → Prop} {bS L : Nat} {xs : Nat → Int32} {c0 s0 t : Nat} (C : lc_C X cL_law RL 7 ret room_1) (hl : X.2.1.stackTraces = false) (hX : va_X bS L xs (lc_Xs X) (lc_Xs X).heap) (hbl : bS < (lc_Xs X).heap.size) (hbA : ¬ lc_A S bS) (hr1 : c0 + t + 1 ≤ 601024) (hr2 : s0 + 6 * t + 6 ≤ 7293034) (hend : ∀ (k j pc : Nat) (lo : List (Nat × Value)) (M : lc_MM), k ≤ 601024 → j ≤ 7293034 → decode cL_law pc = .ok (.ireturn, 1) → lc_J S X 7 k j Q pc lo [.int 1] M) (K : Int32 → lc_MM → Option Int32) (hK : ∀ (x4 : Int32) (M : lc_MM), K x4 M = some 1 → lc_J S X 7 (c0 + t + 1) (s0 + 6 * t + 6) Q 23 [(0, .ref bS), (1, .ref (lc_ad S 194)), (2, .ref (lc_ad S 197)), (3, .ref (lc_ad S 206)), (4, .int x4)] [] M) (x4 : Int32) (M : lc_MM) (h : P_L_case16 L xs K x4 M = some 1) : lc_J S X 7 (c0 + t) (s0 + 6 * t) Q 1046 [(0, .ref bS), (1, .ref (lc_ad S 194)), (2, .ref (lc_ad S 197)), (3, .ref (lc_ad S 206)), (4, .int x4)] [] M := by
  rw [P_L_case16] at h
  refine lc_aload_n C (pc' := 1047) 1 dL_law_1046 rfl rfl ?_
  refine lc_aload_n C (pc' := 1048) 0 dL_law_1047 rfl rfl ?_
  refine lc_iload C (pc' := 1050) 4 dL_law_1048 rfl rfl ?_
  refine lc_iconst C (pc' := 1051) (v := (1 : Int32)) dL_law_1050 (by decide) rfl ?_
  refine lc_iadd C (pc' := 1052) dL_law_1051 rfl ?_
  obtain ⟨hi1052, h⟩ := lc_ife h
  refine lc_sld C (pc' := 1053) hX hbl hbA hi1052 dL_law_1052 rfl ?_
  refine lc_aload_n C (pc' := 1054) 3 dL_law_1053 rfl rfl ?_
  obtain ⟨r1054, M49, h1054, h⟩ := lc_bd2e h
  refine lc_csW C (pc' := 1057) (r := r1054) (M' := M49) (As := [.ref (lc_ad S 194), .int (xs (x4 + (1 : Int32)).toNatClampNeg), .ref (lc_ad S 206)]) (rest := []) (c_L_holds S X.2.1 hl (xs (x4 + (1 : Int32)).toNatClampNeg) M (r1054, M49) h1054) kw_L_holds rfl rfl (Nat.le_of_ble_eq_true rfl) ⟨Nat.le_of_ble_eq_true rfl, Nat.le_of_ble_eq_true rfl⟩ ⟨hr1, hr2⟩ dL_law_1054 rfl ?_
  refine lc_istore C (pc' := 1059) (lo' := [(5, .int r1054), (0, .ref bS), (1, .ref (lc_ad S 194)), (2, .ref (lc_ad S 197)), (3, .ref (lc_ad S 206)), (4, .int x4)]) dL_law_1057 (Nat.le_of_ble_eq_true rfl) rfl rfl ?_
  refine lc_aload_n C (pc' := 1060) 3 dL_law_1059 rfl rfl ?_
  refine lc_aload_n C (pc' := 1061) 1 dL_law_1060 rfl rfl ?_
  refine lc_iload C (pc' := 1063) 5 dL_law_1061 rfl rfl ?_
  refine lc_iconst C (pc' := 1064) (v := (1 : Int32)) dL_law_1063 (by decide) rfl ?_
  refine lc_iadd C (pc' := 1065) dL_law_1064 rfl ?_
  obtain ⟨hi1065, h⟩ := lc_ife h
  refine lc_sld C (pc' := 1066) hX hbl hbA hi1065 dL_law_1065 rfl ?_
  refine lc_meq (lc_up_self M49 22).symm ?_
  obtain ⟨r1066, s50, h1066, h⟩ := lc_bd2e h
  refine lc_cvi C (pc' := 1069) (r := r1066) (M' := (va_up M49 22 s50)) (As := [.int (xs (x4 + (1 : Int32)).toNatClampNeg)]) (rest := []) (c_X4_holds S X.2.1 M49   (xs (x4 + (1 : Int32)).toNatClampNeg) (M49 22) (r1066, s50) h1066) kl_RL_154 (lc_at197 S _) rfl rfl rfl rfl (Nat.le_of_ble_eq_true rfl) ⟨Nat.le_of_ble_eq_true rfl, Nat.le_of_ble_eq_true rfl⟩ ⟨rfl, rfl⟩ ⟨hr1, hr2⟩ dL_law_1066 rfl ?_
  obtain ⟨M51, eM51, h⟩ := lc_let2 h
  refine lc_meq eM51 ?_
  refine lc_istore C (pc' := 1071) (lo' := [(6, .int r1066), (5, .int r1054), (0, .ref bS), (1, .ref (lc_ad S 194)), (2, .ref (lc_ad S 197)), (3, .ref (lc_ad S 206)), (4, .int x4)]) dL_law_1069 (Nat.le_of_ble_eq_true rfl) rfl rfl ?_
  refine lc_aload_n C (pc' := 1072) 4 dL_law_1071 rfl rfl ?_
  refine lc_meq (lc_up_self M51 22).symm ?_
  obtain ⟨r1072, h1072, h⟩ := lc_bde h
  refine lc_cvi C (pc' := 1075) (r := r1072) (M' := (va_up M51 22 (M51 22))) (As := []) (rest := []) (c_X4_thrown S X.2.1 M51    (M51 22) r1072 h1072) kl_RL_98 (lc_at197 S _) rfl rfl rfl rfl (Nat.le_of_ble_eq_true rfl) ⟨Nat.le_of_ble_eq_true rfl, Nat.le_of_ble_eq_true rfl⟩ ⟨rfl, rfl⟩ ⟨hr1, hr2⟩ dL_law_1072 rfl ?_
  refine lc_meq (lc_up_self M51 22) ?_
  refine lc_iload C (pc' := 1077) 1 dL_law_1075 rfl rfl ?_
  refine lc_icmp_eq C (pc' := 1080) (tgt := 1082) dL_law_1077 (by decide) rfl (fun c1077 => ?_) (fun c1077 => ?_)
  · have h := (lc_if2 h).1 c1077
    refine lc_iload C (pc' := 1084) 1 dL_law_1082 rfl rfl ?_
    refine lc_if_ne C (pc' := 1087) (tgt := 1099) dL_law_1084 (by decide) rfl (fun c1084 => ?_) (fun c1084 => ?_)
    · have h := (lc_if2 h).2 c1084
      refine lc_goto C (tgt := 1619) dL_law_1099 (by decide) ?_
      refine lc_sub (lo' := [(0, .ref bS), (1, .ref (lc_ad S 194)), (2, .ref (lc_ad S 197)), (3, .ref (lc_ad S 206)), (4, .int x4)]) [2, 3, 4, 5, 6] rfl ?_
      exact w_L_law_1619 C K hK x4 M51 h
    · have h := (lc_if2 h).1 c1084
      refine lc_aload_n C (pc' := 1088) 5 dL_law_1087 rfl rfl ?_
      refine lc_iconst C (pc' := 1089) (v := (0 : Int32)) dL_law_1088 (by decide) rfl ?_
      refine lc_lld C (pc' := 1090) dL_law_1089 rfl ?_
      refine lc_iload C (pc' := 1092) 0 dL_law_1090 rfl rfl ?_
      refine lc_i2l C (pc' := 1093) dL_law_1092 rfl ?_
      refine lc_lcmp C (pc' := 1094) dL_law_1093 rfl ?_
      refine lc_if_eq C (pc' := 1097) (tgt := 1099) dL_law_1094 (by decide) rfl (fun c1094 => ?_) (fun c1094 => ?_)
      · have h := (lc_if2 h).1 c1094
        refine lc_goto C (tgt := 1619) dL_law_1099 (by decide) ?_
        refine lc_sub (lo' := [(0, .ref bS), (1, .ref (lc_ad S 194)), (2, .ref (lc_ad S 197)), (3, .ref (lc_ad S 206)), (4, .int x4)]) [2, 3, 4, 5, 6] rfl ?_
        exact w_L_law_1619 C K hK x4 M51 h
      · have h := (lc_if2 h).2 c1094
        refine lc_iconst C (pc' := 1098) (v := (0 : Int32)) dL_law_1097 (by decide) rfl ?_
        exact absurd (Option.some.inj h) (by decide)
  · have h := (lc_if2 h).2 c1077
    refine lc_iconst C (pc' := 1081) (v := (0 : Int32)) dL_law_1080 (by decide) rfl ?_
    exact absurd (Option.some.inj h) (by decide)
def P_L_case17 (L : Nat) (xs : Nat → Int32) (K : Int32 → lc_MM → Option Int32) (x4 : Int32) (M : lc_MM) : Option Int32 :=
  lc_if (lc_ok (x4 + (1 : Int32)) L) (lc_bd2 (P_L_draws (xs (x4 + (1 : Int32)).toNatClampNeg) M) (fun r1110 M52 => lc_if (lc_ok (x4 + (1 : Int32)) L) (lc_bd2 (P_X4_draws (xs (x4 + (1 : Int32)).toNatClampNeg) (M52 22)) (fun r1122 s53 => lc_let (va_up M52 22 s53) (fun M54 => lc_bd (P_X4_thrown  (M54 22)) (fun r1128 => if r1128 = r1110 then if r1110 = 0 then if (lg_cmp (M54 23 0 0).toInt64 r1122.toInt64) = 0 then P_L_law_1619 K x4 M54 else some (0 : Int32) else P_L_law_1619 K x4 M54 else some (0 : Int32)))))))
set_option maxRecDepth 100000 in
set_option maxHeartbeats 4000000 in
theorem w_L_case17 {S : lc_Se} {X : lc_X} {Q : State → Prop} {bS L : Nat} {xs : Nat → Int32} {c0 s0 t : Nat} (C : lc_C X cL_law RL 7 ret room_1) (hl : X.2.1.stackTraces = false) (hX : va_X bS L xs (lc_Xs X) (lc_Xs X).heap) (hbl : bS < (lc_Xs X).heap.size) (hbA : ¬ lc_A S bS) (hr1 : c0 + t + 1 ≤ 601024) (hr2 : s0 + 6 * t + 6 ≤ 7293034) (hend : ∀ (k j pc : Nat) (lo : List (Nat × Value)) (M : lc_MM), k ≤ 601024 → j ≤ 7293034 → decode cL_law pc = .ok (.ireturn, 1) → lc_J S X 7 k j Q pc lo [.int 1] M) (K : Int32 → lc_MM → Option Int32) (hK : ∀ (x4 : Int32) (M : lc_MM), K x4 M = some 1 → lc_J S X 7 (c0 + t + 1) (s0 + 6 * t + 6) Q 23 [(0, .ref bS), (1, .ref (lc_ad S 194)), (2, .ref (lc_ad S 197)), (3, .ref (lc_ad S 206)), (4, .int x4)] [] M) (x4 : Int32) (M : lc_MM) (h : P_L_case17 L xs K x4 M = some 1) : lc_J S X 7 (c0 + t) (s0 + 6 * t) Q 1102 [(0, .ref bS), (1, .ref (lc_ad S 194)), (2, .ref (lc_ad S 197)), (3, .ref (lc_ad S 206)), (4, .int x4)] [] M := by
  rw [P_L_case17] at h
  refine lc_aload_n C (pc' := 1103) 1 dL_law_1102 rfl rfl ?_
  refine lc_aload_n C (pc' := 1104) 0 dL_law_1103 rfl rfl ?_
  refine lc_iload C (pc' := 1106) 4 dL_law_1104 rfl rfl ?_
  refine lc_iconst C (pc' := 1107) (v := (1 : Int32)) dL_law_1106 (by decide) rfl ?_
  refine lc_iadd C (pc' := 1108) dL_law_1107 rfl ?_
  obtain ⟨hi1108, h⟩ := lc_ife h
  refine lc_sld C (pc' := 1109) hX hbl hbA hi1108 dL_law_1108 rfl ?_
  refine lc_aload_n C (pc' := 1110) 3 dL_law_1109 rfl rfl ?_
  obtain ⟨r1110, M52, h1110, h⟩ := lc_bd2e h
  refine lc_csW C (pc' := 1113) (r := r1110) (M' := M52) (As := [.ref (lc_ad S 194), .int (xs (x4 + (1 : Int32)).toNatClampNeg), .ref (lc_ad S 206)]) (rest := []) (c_L_draws S X.2.1 hl (xs (x4 + (1 : Int32)).toNatClampNeg) M (r1110, M52) h1110) kw_L_draws rfl rfl (Nat.le_of_ble_eq_true rfl) ⟨Nat.le_of_ble_eq_true rfl, Nat.le_of_ble_eq_true rfl⟩ ⟨hr1, hr2⟩ dL_law_1110 rfl ?_
  refine lc_istore C (pc' := 1115) (lo' := [(5, .int r1110), (0, .ref bS), (1, .ref (lc_ad S 194)), (2, .ref (lc_ad S 197)), (3, .ref (lc_ad S 206)), (4, .int x4)]) dL_law_1113 (Nat.le_of_ble_eq_true rfl) rfl rfl ?_
  refine lc_aload_n C (pc' := 1116) 3 dL_law_1115 rfl rfl ?_
  refine lc_aload_n C (pc' := 1117) 1 dL_law_1116 rfl rfl ?_
  refine lc_iload C (pc' := 1119) 5 dL_law_1117 rfl rfl ?_
  refine lc_iconst C (pc' := 1120) (v := (1 : Int32)) dL_law_1119 (by decide) rfl ?_
  refine lc_iadd C (pc' := 1121) dL_law_1120 rfl ?_
  obtain ⟨hi1121, h⟩ := lc_ife h
  refine lc_sld C (pc' := 1122) hX hbl hbA hi1121 dL_law_1121 rfl ?_
  refine lc_meq (lc_up_self M52 22).symm ?_
  obtain ⟨r1122, s53, h1122, h⟩ := lc_bd2e h
  refine lc_cvi C (pc' := 1125) (r := r1122) (M' := (va_up M52 22 s53)) (As := [.int (xs (x4 + (1 : Int32)).toNatClampNeg)]) (rest := []) (c_X4_draws S X.2.1 M52   (xs (x4 + (1 : Int32)).toNatClampNeg) (M52 22) (r1122, s53) h1122) kl_RL_157 (lc_at197 S _) rfl rfl rfl rfl (Nat.le_of_ble_eq_true rfl) ⟨Nat.le_of_ble_eq_true rfl, Nat.le_of_ble_eq_true rfl⟩ ⟨rfl, rfl⟩ ⟨hr1, hr2⟩ dL_law_1122 rfl ?_
  obtain ⟨M54, eM54, h⟩ := lc_let2 h
  refine lc_meq eM54 ?_
  refine lc_istore C (pc' := 1127) (lo' := [(6, .int r1122), (5, .int r1110), (0, .ref bS), (1, .ref (lc_ad S 194)), (2, .ref (lc_ad S 197)), (3, .ref (lc_ad S 206)), (4, .int x4)]) dL_law_1125 (Nat.le_of_ble_eq_true rfl) rfl rfl ?_
  refine lc_aload_n C (pc' := 1128) 4 dL_law_1127 rfl rfl ?_
  refine lc_meq (lc_up_self M54 22).symm ?_
  obtain ⟨r1128, h1128, h⟩ := lc_bde h
  refine lc_cvi C (pc' := 1131) (r := r1128) (M' := (va_up M54 22 (M54 22))) (As := []) (rest := []) (c_X4_thrown S X.2.1 M54    (M54 22) r1128 h1128) kl_RL_98 (lc_at197 S _) rfl rfl rfl rfl (Nat.le_of_ble_eq_true rfl) ⟨Nat.le_of_ble_eq_true rfl, Nat.le_of_ble_eq_true rfl⟩ ⟨rfl, rfl⟩ ⟨hr1, hr2⟩ dL_law_1128 rfl ?_
  refine lc_meq (lc_up_self M54 22) ?_
  refine lc_iload C (pc' := 1133) 1 dL_law_1131 rfl rfl ?_
  refine lc_icmp_eq C (pc' := 1136) (tgt := 1138) dL_law_1133 (by decide) rfl (fun c1133 => ?_) (fun c1133 => ?_)
  · have h := (lc_if2 h).1 c1133
    refine lc_iload C (pc' := 1140) 1 dL_law_1138 rfl rfl ?_
    refine lc_if_ne C (pc' := 1143) (tgt := 1155) dL_law_1140 (by decide) rfl (fun c1140 => ?_) (fun c1140 => ?_)
    · have h := (lc_if2 h).2 c1140
      refine lc_goto C (tgt := 1619) dL_law_1155 (by decide) ?_
      refine lc_sub (lo' := [(0, .ref bS), (1, .ref (lc_ad S 194)), (2, .ref (lc_ad S 197)), (3, .ref (lc_ad S 206)), (4, .int x4)]) [2, 3, 4, 5, 6] rfl ?_
      exact w_L_law_1619 C K hK x4 M54 h
    · have h := (lc_if2 h).1 c1140
      refine lc_aload_n C (pc' := 1144) 5 dL_law_1143 rfl rfl ?_
      refine lc_iconst C (pc' := 1145) (v := (0 : Int32)) dL_law_1144 (by decide) rfl ?_
      refine lc_lld C (pc' := 1146) dL_law_1145 rfl ?_
      refine lc_iload C (pc' := 1148) 0 dL_law_1146 rfl rfl ?_
      refine lc_i2l C (pc' := 1149) dL_law_1148 rfl ?_
      refine lc_lcmp C (pc' := 1150) dL_law_1149 rfl ?_
      refine lc_if_eq C (pc' := 1153) (tgt := 1155) dL_law_1150 (by decide) rfl (fun c1150 => ?_) (fun c1150 => ?_)
      · have h := (lc_if2 h).1 c1150
        refine lc_goto C (tgt := 1619) dL_law_1155 (by decide) ?_
        refine lc_sub (lo' := [(0, .ref bS), (1, .ref (lc_ad S 194)), (2, .ref (lc_ad S 197)), (3, .ref (lc_ad S 206)), (4, .int x4)]) [2, 3, 4, 5, 6] rfl ?_
        exact w_L_law_1619 C K hK x4 M54 h
      · have h := (lc_if2 h).2 c1150
        refine lc_iconst C (pc' := 1154) (v := (0 : Int32)) dL_law_1153 (by decide) rfl ?_
        exact absurd (Option.some.inj h) (by decide)
  · have h := (lc_if2 h).2 c1133
    refine lc_iconst C (pc' := 1137) (v := (0 : Int32)) dL_law_1136 (by decide) rfl ?_
    exact absurd (Option.some.inj h) (by decide)
def P_L_case18 (L : Nat) (xs : Nat → Int32) (K : Int32 → lc_MM → Option Int32) (x4 : Int32) (M : lc_MM) : Option Int32 :=
  lc_bd2 (P_X3_most  M) (fun r1159 M55 => lc_bd2 (P_X4_most  (M55 22)) (fun r1163 s56 => lc_let (va_up M55 22 s56) (fun M57 => if r1159 = r1163 then P_L_law_1619 K x4 M57 else some (0 : Int32))))
set_option maxRecDepth 100000 in
set_option maxHeartbeats 4000000 in
theorem w_L_case18 {S : lc_Se} {X : lc_X} {Q : State → Prop} {bS L : Nat} {xs : Nat → Int32} {c0 s0 t : Nat} (C : lc_C X cL_law RL 7 ret room_1) (hl : X.2.1.stackTraces = false) (hX : va_X bS L xs (lc_Xs X) (lc_Xs X).heap) (hbl : bS < (lc_Xs X).heap.size) (hbA : ¬ lc_A S bS) (hr1 : c0 + t + 1 ≤ 601024) (hr2 : s0 + 6 * t + 6 ≤ 7293034) (hend : ∀ (k j pc : Nat) (lo : List (Nat × Value)) (M : lc_MM), k ≤ 601024 → j ≤ 7293034 → decode cL_law pc = .ok (.ireturn, 1) → lc_J S X 7 k j Q pc lo [.int 1] M) (K : Int32 → lc_MM → Option Int32) (hK : ∀ (x4 : Int32) (M : lc_MM), K x4 M = some 1 → lc_J S X 7 (c0 + t + 1) (s0 + 6 * t + 6) Q 23 [(0, .ref bS), (1, .ref (lc_ad S 194)), (2, .ref (lc_ad S 197)), (3, .ref (lc_ad S 206)), (4, .int x4)] [] M) (x4 : Int32) (M : lc_MM) (h : P_L_case18 L xs K x4 M = some 1) : lc_J S X 7 (c0 + t) (s0 + 6 * t) Q 1158 [(0, .ref bS), (1, .ref (lc_ad S 194)), (2, .ref (lc_ad S 197)), (3, .ref (lc_ad S 206)), (4, .int x4)] [] M := by
  rw [P_L_case18] at h
  refine lc_aload_n C (pc' := 1159) 1 dL_law_1158 rfl rfl ?_
  obtain ⟨r1159, M55, h1159, h⟩ := lc_bd2e h
  refine lc_cvi C (pc' := 1162) (r := r1159) (M' := M55) (As := []) (rest := []) (c_X3_most S X.2.1   M (r1159, M55) h1159) kl_RL_158 (lc_at194 S _) rfl rfl rfl rfl (Nat.le_of_ble_eq_true rfl) ⟨Nat.le_of_ble_eq_true rfl, Nat.le_of_ble_eq_true rfl⟩ ⟨rfl, rfl⟩ ⟨Nat.le_of_succ_le hr1, Nat.le_trans (Nat.le_add_right _ 6) hr2⟩ dL_law_1159 rfl ?_
  refine lc_aload_n C (pc' := 1163) 2 dL_law_1162 rfl rfl ?_
  refine lc_meq (lc_up_self M55 22).symm ?_
  obtain ⟨r1163, s56, h1163, h⟩ := lc_bd2e h
  refine lc_cvi C (pc' := 1166) (r := r1163) (M' := (va_up M55 22 s56)) (As := []) (rest := [.int r1159]) (c_X4_most S X.2.1 M55    (M55 22) (r1163, s56) h1163) kl_RL_161 (lc_at197 S _) rfl rfl rfl rfl (Nat.le_of_ble_eq_true rfl) ⟨Nat.le_of_ble_eq_true rfl, Nat.le_of_ble_eq_true rfl⟩ ⟨rfl, rfl⟩ ⟨Nat.le_of_succ_le hr1, Nat.le_trans (Nat.le_add_right _ 6) hr2⟩ dL_law_1163 rfl ?_
  obtain ⟨M57, eM57, h⟩ := lc_let2 h
  refine lc_meq eM57 ?_
  refine lc_icmp_eq C (pc' := 1169) (tgt := 1619) dL_law_1166 (by decide) rfl (fun c1166 => ?_) (fun c1166 => ?_)
  · have h := (lc_if2 h).1 c1166
    refine lc_wid (k' := c0 + t + 1) (j' := s0 + 6 * t + 6) (Nat.le_succ _) (Nat.le_add_right _ 6) ?_
    refine lc_sub (lo' := [(0, .ref bS), (1, .ref (lc_ad S 194)), (2, .ref (lc_ad S 197)), (3, .ref (lc_ad S 206)), (4, .int x4)]) [0, 1, 2, 3, 4] rfl ?_
    exact w_L_law_1619 C K hK x4 M57 h
  · have h := (lc_if2 h).2 c1166
    refine lc_iconst C (pc' := 1170) (v := (0 : Int32)) dL_law_1169 (by decide) rfl ?_
    exact absurd (Option.some.inj h) (by decide)
def P_L_case19 (L : Nat) (xs : Nat → Int32) (K : Int32 → lc_MM → Option Int32) (x4 : Int32) (M : lc_MM) : Option Int32 :=
  lc_if (lc_ok (x4 + (1 : Int32)) L) (lc_if (lc_ok (x4 + (2 : Int32)) L) (lc_bd2 (P_L_bestLender (xs (x4 + (1 : Int32)).toNatClampNeg) (xs (x4 + (2 : Int32)).toNatClampNeg) M) (fun r1185 M58 => lc_if (lc_ok (x4 + (1 : Int32)) L) (lc_if (lc_ok (x4 + (2 : Int32)) L) (lc_bd2 (P_X4_bestLender (xs (x4 + (1 : Int32)).toNatClampNeg) (xs (x4 + (2 : Int32)).toNatClampNeg) (M58 22)) (fun r1203 s59 => lc_let (va_up M58 22 s59) (fun M60 => lc_bd (P_X4_thrown  (M60 22)) (fun r1209 => if r1209 = r1185 then if r1185 = 0 then if (lg_cmp (M60 23 0 0).toInt64 r1203.toInt64) = 0 then P_L_law_1619 K x4 M60 else some (0 : Int32) else P_L_law_1619 K x4 M60 else some (0 : Int32)))))))))
set_option maxRecDepth 100000 in
set_option maxHeartbeats 4000000 in
theorem w_L_case19 {S : lc_Se} {X : lc_X} {Q : State → Prop} {bS L : Nat} {xs : Nat → Int32} {c0 s0 t : Nat} (C : lc_C X cL_law RL 7 ret room_1) (hl : X.2.1.stackTraces = false) (hX : va_X bS L xs (lc_Xs X) (lc_Xs X).heap) (hbl : bS < (lc_Xs X).heap.size) (hbA : ¬ lc_A S bS) (hr1 : c0 + t + 1 ≤ 601024) (hr2 : s0 + 6 * t + 6 ≤ 7293034) (hend : ∀ (k j pc : Nat) (lo : List (Nat × Value)) (M : lc_MM), k ≤ 601024 → j ≤ 7293034 → decode cL_law pc = .ok (.ireturn, 1) → lc_J S X 7 k j Q pc lo [.int 1] M) (K : Int32 → lc_MM → Option Int32) (hK : ∀ (x4 : Int32) (M : lc_MM), K x4 M = some 1 → lc_J S X 7 (c0 + t + 1) (s0 + 6 * t + 6) Q 23 [(0, .ref bS), (1, .ref (lc_ad S 194)), (2, .ref (lc_ad S 197)), (3, .ref (lc_ad S 206)), (4, .int x4)] [] M) (x4 : Int32) (M : lc_MM) (h : P_L_case19 L xs K x4 M = some 1) : lc_J S X 7 (c0 + t) (s0 + 6 * t) Q 1171 [(0, .ref bS), (1, .ref (lc_ad S 194)), (2, .ref (lc_ad S 197)), (3, .ref (lc_ad S 206)), (4, .int x4)] [] M := by
  rw [P_L_case19] at h
  refine lc_aload_n C (pc' := 1172) 1 dL_law_1171 rfl rfl ?_
  refine lc_aload_n C (pc' := 1173) 0 dL_law_1172 rfl rfl ?_
  refine lc_iload C (pc' := 1175) 4 dL_law_1173 rfl rfl ?_
  refine lc_iconst C (pc' := 1176) (v := (1 : Int32)) dL_law_1175 (by decide) rfl ?_
  refine lc_iadd C (pc' := 1177) dL_law_1176 rfl ?_
  obtain ⟨hi1177, h⟩ := lc_ife h
  refine lc_sld C (pc' := 1178) hX hbl hbA hi1177 dL_law_1177 rfl ?_
  refine lc_aload_n C (pc' := 1179) 0 dL_law_1178 rfl rfl ?_
  refine lc_iload C (pc' := 1181) 4 dL_law_1179 rfl rfl ?_
  refine lc_iconst C (pc' := 1182) (v := (2 : Int32)) dL_law_1181 (by decide) rfl ?_
  refine lc_iadd C (pc' := 1183) dL_law_1182 rfl ?_
  obtain ⟨hi1183, h⟩ := lc_ife h
  refine lc_sld C (pc' := 1184) hX hbl hbA hi1183 dL_law_1183 rfl ?_
  refine lc_aload_n C (pc' := 1185) 3 dL_law_1184 rfl rfl ?_
  obtain ⟨r1185, M58, h1185, h⟩ := lc_bd2e h
  refine lc_csW C (pc' := 1188) (r := r1185) (M' := M58) (As := [.ref (lc_ad S 194), .int (xs (x4 + (1 : Int32)).toNatClampNeg), .int (xs (x4 + (2 : Int32)).toNatClampNeg), .ref (lc_ad S 206)]) (rest := []) (c_L_bestLender S X.2.1 hl (xs (x4 + (1 : Int32)).toNatClampNeg) (xs (x4 + (2 : Int32)).toNatClampNeg) M (r1185, M58) h1185) kw_L_bestLender rfl rfl (Nat.le_of_ble_eq_true rfl) ⟨Nat.le_of_ble_eq_true rfl, Nat.le_of_ble_eq_true rfl⟩ ⟨hr1, hr2⟩ dL_law_1185 rfl ?_
  refine lc_istore C (pc' := 1190) (lo' := [(5, .int r1185), (0, .ref bS), (1, .ref (lc_ad S 194)), (2, .ref (lc_ad S 197)), (3, .ref (lc_ad S 206)), (4, .int x4)]) dL_law_1188 (Nat.le_of_ble_eq_true rfl) rfl rfl ?_
  refine lc_aload_n C (pc' := 1191) 3 dL_law_1190 rfl rfl ?_
  refine lc_aload_n C (pc' := 1192) 1 dL_law_1191 rfl rfl ?_
  refine lc_iload C (pc' := 1194) 5 dL_law_1192 rfl rfl ?_
  refine lc_iconst C (pc' := 1195) (v := (1 : Int32)) dL_law_1194 (by decide) rfl ?_
  refine lc_iadd C (pc' := 1196) dL_law_1195 rfl ?_
  obtain ⟨hi1196, h⟩ := lc_ife h
  refine lc_sld C (pc' := 1197) hX hbl hbA hi1196 dL_law_1196 rfl ?_
  refine lc_aload_n C (pc' := 1198) 1 dL_law_1197 rfl rfl ?_
  refine lc_iload C (pc' := 1200) 5 dL_law_1198 rfl rfl ?_
  refine lc_iconst C (pc' := 1201) (v := (2 : Int32)) dL_law_1200 (by decide) rfl ?_
  refine lc_iadd C (pc' := 1202) dL_law_1201 rfl ?_
  obtain ⟨hi1202, h⟩ := lc_ife h
  refine lc_sld C (pc' := 1203) hX hbl hbA hi1202 dL_law_1202 rfl ?_
  refine lc_meq (lc_up_self M58 22).symm ?_
  obtain ⟨r1203, s59, h1203, h⟩ := lc_bd2e h
  refine lc_cvi C (pc' := 1206) (r := r1203) (M' := (va_up M58 22 s59)) (As := [.int (xs (x4 + (1 : Int32)).toNatClampNeg), .int (xs (x4 + (2 : Int32)).toNatClampNeg)]) (rest := []) (c_X4_bestLender S X.2.1 M58   (xs (x4 + (1 : Int32)).toNatClampNeg) (xs (x4 + (2 : Int32)).toNatClampNeg) (M58 22) (r1203, s59) h1203) kl_RL_164 (lc_at197 S _) rfl rfl rfl rfl (Nat.le_of_ble_eq_true rfl) ⟨Nat.le_of_ble_eq_true rfl, Nat.le_of_ble_eq_true rfl⟩ ⟨rfl, rfl⟩ ⟨hr1, hr2⟩ dL_law_1203 rfl ?_
  obtain ⟨M60, eM60, h⟩ := lc_let2 h
  refine lc_meq eM60 ?_
  refine lc_istore C (pc' := 1208) (lo' := [(6, .int r1203), (5, .int r1185), (0, .ref bS), (1, .ref (lc_ad S 194)), (2, .ref (lc_ad S 197)), (3, .ref (lc_ad S 206)), (4, .int x4)]) dL_law_1206 (Nat.le_of_ble_eq_true rfl) rfl rfl ?_
  refine lc_aload_n C (pc' := 1209) 4 dL_law_1208 rfl rfl ?_
  refine lc_meq (lc_up_self M60 22).symm ?_
  obtain ⟨r1209, h1209, h⟩ := lc_bde h
  refine lc_cvi C (pc' := 1212) (r := r1209) (M' := (va_up M60 22 (M60 22))) (As := []) (rest := []) (c_X4_thrown S X.2.1 M60    (M60 22) r1209 h1209) kl_RL_98 (lc_at197 S _) rfl rfl rfl rfl (Nat.le_of_ble_eq_true rfl) ⟨Nat.le_of_ble_eq_true rfl, Nat.le_of_ble_eq_true rfl⟩ ⟨rfl, rfl⟩ ⟨hr1, hr2⟩ dL_law_1209 rfl ?_
  refine lc_meq (lc_up_self M60 22) ?_
  refine lc_iload C (pc' := 1214) 1 dL_law_1212 rfl rfl ?_
  refine lc_icmp_eq C (pc' := 1217) (tgt := 1219) dL_law_1214 (by decide) rfl (fun c1214 => ?_) (fun c1214 => ?_)
  · have h := (lc_if2 h).1 c1214
    refine lc_iload C (pc' := 1221) 1 dL_law_1219 rfl rfl ?_
    refine lc_if_ne C (pc' := 1224) (tgt := 1236) dL_law_1221 (by decide) rfl (fun c1221 => ?_) (fun c1221 => ?_)
    · have h := (lc_if2 h).2 c1221
      refine lc_goto C (tgt := 1619) dL_law_1236 (by decide) ?_
      refine lc_sub (lo' := [(0, .ref bS), (1, .ref (lc_ad S 194)), (2, .ref (lc_ad S 197)), (3, .ref (lc_ad S 206)), (4, .int x4)]) [2, 3, 4, 5, 6] rfl ?_
      exact w_L_law_1619 C K hK x4 M60 h
    · have h := (lc_if2 h).1 c1221
      refine lc_aload_n C (pc' := 1225) 5 dL_law_1224 rfl rfl ?_
      refine lc_iconst C (pc' := 1226) (v := (0 : Int32)) dL_law_1225 (by decide) rfl ?_
      refine lc_lld C (pc' := 1227) dL_law_1226 rfl ?_
      refine lc_iload C (pc' := 1229) 0 dL_law_1227 rfl rfl ?_
      refine lc_i2l C (pc' := 1230) dL_law_1229 rfl ?_
      refine lc_lcmp C (pc' := 1231) dL_law_1230 rfl ?_
      refine lc_if_eq C (pc' := 1234) (tgt := 1236) dL_law_1231 (by decide) rfl (fun c1231 => ?_) (fun c1231 => ?_)
      · have h := (lc_if2 h).1 c1231
        refine lc_goto C (tgt := 1619) dL_law_1236 (by decide) ?_
        refine lc_sub (lo' := [(0, .ref bS), (1, .ref (lc_ad S 194)), (2, .ref (lc_ad S 197)), (3, .ref (lc_ad S 206)), (4, .int x4)]) [2, 3, 4, 5, 6] rfl ?_
        exact w_L_law_1619 C K hK x4 M60 h
      · have h := (lc_if2 h).2 c1231
        refine lc_iconst C (pc' := 1235) (v := (0 : Int32)) dL_law_1234 (by decide) rfl ?_
        exact absurd (Option.some.inj h) (by decide)
  · have h := (lc_if2 h).2 c1214
    refine lc_iconst C (pc' := 1218) (v := (0 : Int32)) dL_law_1217 (by decide) rfl ?_
    exact absurd (Option.some.inj h) (by decide)
def P_L_case20 (L : Nat) (xs : Nat → Int32) (K : Int32 → lc_MM → Option Int32) (x4 : Int32) (M : lc_MM) : Option Int32 :=
  lc_if (lc_ok (x4 + (1 : Int32)) L) (lc_if (lc_ok (x4 + (2 : Int32)) L) (lc_bd2 (P_L_costs (xs (x4 + (1 : Int32)).toNatClampNeg) (xs (x4 + (2 : Int32)).toNatClampNeg) M) (fun r1253 M61 => lc_if (lc_ok (x4 + (1 : Int32)) L) (lc_if (lc_ok (x4 + (2 : Int32)) L) (lc_bd2 (P_X4_costs (xs (x4 + (1 : Int32)).toNatClampNeg) (xs (x4 + (2 : Int32)).toNatClampNeg) (M61 22)) (fun r1271 s62 => lc_let (va_up M61 22 s62) (fun M63 => lc_bd (P_X4_thrown  (M63 22)) (fun r1277 => if r1277 = r1253 then if r1253 = 0 then if (lg_cmp (M63 23 0 0).toInt64 r1271.toInt64) = 0 then P_L_law_1619 K x4 M63 else some (0 : Int32) else P_L_law_1619 K x4 M63 else some (0 : Int32)))))))))
set_option maxRecDepth 100000 in
set_option maxHeartbeats 4000000 in
theorem w_L_case20 {S : lc_Se} {X : lc_X} {Q : State → Prop} {bS L : Nat} {xs : Nat → Int32} {c0 s0 t : Nat} (C : lc_C X cL_law RL 7 ret room_1) (hl : X.2.1.stackTraces = false) (hX : va_X bS L xs (lc_Xs X) (lc_Xs X).heap) (hbl : bS < (lc_Xs X).heap.size) (hbA : ¬ lc_A S bS) (hr1 : c0 + t + 1 ≤ 601024) (hr2 : s0 + 6 * t + 6 ≤ 7293034) (hend : ∀ (k j pc : Nat) (lo : List (Nat × Value)) (M : lc_MM), k ≤ 601024 → j ≤ 7293034 → decode cL_law pc = .ok (.ireturn, 1) → lc_J S X 7 k j Q pc lo [.int 1] M) (K : Int32 → lc_MM → Option Int32) (hK : ∀ (x4 : Int32) (M : lc_MM), K x4 M = some 1 → lc_J S X 7 (c0 + t + 1) (s0 + 6 * t + 6) Q 23 [(0, .ref bS), (1, .ref (lc_ad S 194)), (2, .ref (lc_ad S 197)), (3, .ref (lc_ad S 206)), (4, .int x4)] [] M) (x4 : Int32) (M : lc_MM) (h : P_L_case20 L xs K x4 M = some 1) : lc_J S X 7 (c0 + t) (s0 + 6 * t) Q 1239 [(0, .ref bS), (1, .ref (lc_ad S 194)), (2, .ref (lc_ad S 197)), (3, .ref (lc_ad S 206)), (4, .int x4)] [] M := by
  rw [P_L_case20] at h
  refine lc_aload_n C (pc' := 1240) 1 dL_law_1239 rfl rfl ?_
  refine lc_aload_n C (pc' := 1241) 0 dL_law_1240 rfl rfl ?_
  refine lc_iload C (pc' := 1243) 4 dL_law_1241 rfl rfl ?_
  refine lc_iconst C (pc' := 1244) (v := (1 : Int32)) dL_law_1243 (by decide) rfl ?_
  refine lc_iadd C (pc' := 1245) dL_law_1244 rfl ?_
  obtain ⟨hi1245, h⟩ := lc_ife h
  refine lc_sld C (pc' := 1246) hX hbl hbA hi1245 dL_law_1245 rfl ?_
  refine lc_aload_n C (pc' := 1247) 0 dL_law_1246 rfl rfl ?_
  refine lc_iload C (pc' := 1249) 4 dL_law_1247 rfl rfl ?_
  refine lc_iconst C (pc' := 1250) (v := (2 : Int32)) dL_law_1249 (by decide) rfl ?_
  refine lc_iadd C (pc' := 1251) dL_law_1250 rfl ?_
  obtain ⟨hi1251, h⟩ := lc_ife h
  refine lc_sld C (pc' := 1252) hX hbl hbA hi1251 dL_law_1251 rfl ?_
  refine lc_aload_n C (pc' := 1253) 3 dL_law_1252 rfl rfl ?_
  obtain ⟨r1253, M61, h1253, h⟩ := lc_bd2e h
  refine lc_csW C (pc' := 1256) (r := r1253) (M' := M61) (As := [.ref (lc_ad S 194), .int (xs (x4 + (1 : Int32)).toNatClampNeg), .int (xs (x4 + (2 : Int32)).toNatClampNeg), .ref (lc_ad S 206)]) (rest := []) (c_L_costs S X.2.1 hl (xs (x4 + (1 : Int32)).toNatClampNeg) (xs (x4 + (2 : Int32)).toNatClampNeg) M (r1253, M61) h1253) kw_L_costs rfl rfl (Nat.le_of_ble_eq_true rfl) ⟨Nat.le_of_ble_eq_true rfl, Nat.le_of_ble_eq_true rfl⟩ ⟨hr1, hr2⟩ dL_law_1253 rfl ?_
  refine lc_istore C (pc' := 1258) (lo' := [(5, .int r1253), (0, .ref bS), (1, .ref (lc_ad S 194)), (2, .ref (lc_ad S 197)), (3, .ref (lc_ad S 206)), (4, .int x4)]) dL_law_1256 (Nat.le_of_ble_eq_true rfl) rfl rfl ?_
  refine lc_aload_n C (pc' := 1259) 3 dL_law_1258 rfl rfl ?_
  refine lc_aload_n C (pc' := 1260) 1 dL_law_1259 rfl rfl ?_
  refine lc_iload C (pc' := 1262) 5 dL_law_1260 rfl rfl ?_
  refine lc_iconst C (pc' := 1263) (v := (1 : Int32)) dL_law_1262 (by decide) rfl ?_
  refine lc_iadd C (pc' := 1264) dL_law_1263 rfl ?_
  obtain ⟨hi1264, h⟩ := lc_ife h
  refine lc_sld C (pc' := 1265) hX hbl hbA hi1264 dL_law_1264 rfl ?_
  refine lc_aload_n C (pc' := 1266) 1 dL_law_1265 rfl rfl ?_
  refine lc_iload C (pc' := 1268) 5 dL_law_1266 rfl rfl ?_
  refine lc_iconst C (pc' := 1269) (v := (2 : Int32)) dL_law_1268 (by decide) rfl ?_
  refine lc_iadd C (pc' := 1270) dL_law_1269 rfl ?_
  obtain ⟨hi1270, h⟩ := lc_ife h
  refine lc_sld C (pc' := 1271) hX hbl hbA hi1270 dL_law_1270 rfl ?_
  refine lc_meq (lc_up_self M61 22).symm ?_
  obtain ⟨r1271, s62, h1271, h⟩ := lc_bd2e h
  refine lc_cvi C (pc' := 1274) (r := r1271) (M' := (va_up M61 22 s62)) (As := [.int (xs (x4 + (1 : Int32)).toNatClampNeg), .int (xs (x4 + (2 : Int32)).toNatClampNeg)]) (rest := []) (c_X4_costs S X.2.1 M61   (xs (x4 + (1 : Int32)).toNatClampNeg) (xs (x4 + (2 : Int32)).toNatClampNeg) (M61 22) (r1271, s62) h1271) kl_RL_167 (lc_at197 S _) rfl rfl rfl rfl (Nat.le_of_ble_eq_true rfl) ⟨Nat.le_of_ble_eq_true rfl, Nat.le_of_ble_eq_true rfl⟩ ⟨rfl, rfl⟩ ⟨hr1, hr2⟩ dL_law_1271 rfl ?_
  obtain ⟨M63, eM63, h⟩ := lc_let2 h
  refine lc_meq eM63 ?_
  refine lc_istore C (pc' := 1276) (lo' := [(6, .int r1271), (5, .int r1253), (0, .ref bS), (1, .ref (lc_ad S 194)), (2, .ref (lc_ad S 197)), (3, .ref (lc_ad S 206)), (4, .int x4)]) dL_law_1274 (Nat.le_of_ble_eq_true rfl) rfl rfl ?_
  refine lc_aload_n C (pc' := 1277) 4 dL_law_1276 rfl rfl ?_
  refine lc_meq (lc_up_self M63 22).symm ?_
  obtain ⟨r1277, h1277, h⟩ := lc_bde h
  refine lc_cvi C (pc' := 1280) (r := r1277) (M' := (va_up M63 22 (M63 22))) (As := []) (rest := []) (c_X4_thrown S X.2.1 M63    (M63 22) r1277 h1277) kl_RL_98 (lc_at197 S _) rfl rfl rfl rfl (Nat.le_of_ble_eq_true rfl) ⟨Nat.le_of_ble_eq_true rfl, Nat.le_of_ble_eq_true rfl⟩ ⟨rfl, rfl⟩ ⟨hr1, hr2⟩ dL_law_1277 rfl ?_
  refine lc_meq (lc_up_self M63 22) ?_
  refine lc_iload C (pc' := 1282) 1 dL_law_1280 rfl rfl ?_
  refine lc_icmp_eq C (pc' := 1285) (tgt := 1287) dL_law_1282 (by decide) rfl (fun c1282 => ?_) (fun c1282 => ?_)
  · have h := (lc_if2 h).1 c1282
    refine lc_iload C (pc' := 1289) 1 dL_law_1287 rfl rfl ?_
    refine lc_if_ne C (pc' := 1292) (tgt := 1304) dL_law_1289 (by decide) rfl (fun c1289 => ?_) (fun c1289 => ?_)
    · have h := (lc_if2 h).2 c1289
      refine lc_goto C (tgt := 1619) dL_law_1304 (by decide) ?_
      refine lc_sub (lo' := [(0, .ref bS), (1, .ref (lc_ad S 194)), (2, .ref (lc_ad S 197)), (3, .ref (lc_ad S 206)), (4, .int x4)]) [2, 3, 4, 5, 6] rfl ?_
      exact w_L_law_1619 C K hK x4 M63 h
    · have h := (lc_if2 h).1 c1289
      refine lc_aload_n C (pc' := 1293) 5 dL_law_1292 rfl rfl ?_
      refine lc_iconst C (pc' := 1294) (v := (0 : Int32)) dL_law_1293 (by decide) rfl ?_
      refine lc_lld C (pc' := 1295) dL_law_1294 rfl ?_
      refine lc_iload C (pc' := 1297) 0 dL_law_1295 rfl rfl ?_
      refine lc_i2l C (pc' := 1298) dL_law_1297 rfl ?_
      refine lc_lcmp C (pc' := 1299) dL_law_1298 rfl ?_
      refine lc_if_eq C (pc' := 1302) (tgt := 1304) dL_law_1299 (by decide) rfl (fun c1299 => ?_) (fun c1299 => ?_)
      · have h := (lc_if2 h).1 c1299
        refine lc_goto C (tgt := 1619) dL_law_1304 (by decide) ?_
        refine lc_sub (lo' := [(0, .ref bS), (1, .ref (lc_ad S 194)), (2, .ref (lc_ad S 197)), (3, .ref (lc_ad S 206)), (4, .int x4)]) [2, 3, 4, 5, 6] rfl ?_
        exact w_L_law_1619 C K hK x4 M63 h
      · have h := (lc_if2 h).2 c1299
        refine lc_iconst C (pc' := 1303) (v := (0 : Int32)) dL_law_1302 (by decide) rfl ?_
        exact absurd (Option.some.inj h) (by decide)
  · have h := (lc_if2 h).2 c1282
    refine lc_iconst C (pc' := 1286) (v := (0 : Int32)) dL_law_1285 (by decide) rfl ?_
    exact absurd (Option.some.inj h) (by decide)
def P_L_case21 (L : Nat) (xs : Nat → Int32) (K : Int32 → lc_MM → Option Int32) (x4 : Int32) (M : lc_MM) : Option Int32 :=
  lc_if (lc_ok (x4 + (1 : Int32)) L) (lc_if (lc_ok (x4 + (2 : Int32)) L) (lc_if (lc_ok (x4 + (3 : Int32)) L) (lc_bd2 (P_L_runScript (xs (x4 + (1 : Int32)).toNatClampNeg) (((xs (x4 + (2 : Int32)).toNatClampNeg).toInt64 <<< ((32 : Int32).toInt64 &&& 63)) ||| ((xs (x4 + (3 : Int32)).toNatClampNeg).toInt64 &&& (4294967295 : Int64))) M) (fun r1337 M64 => lc_if (lc_ok (x4 + (1 : Int32)) L) (lc_if (lc_ok (x4 + (2 : Int32)) L) (lc_if (lc_ok (x4 + (3 : Int32)) L) (lc_bd2 (P_X4_runScript (xs (x4 + (1 : Int32)).toNatClampNeg) (((xs (x4 + (2 : Int32)).toNatClampNeg).toInt64 <<< ((32 : Int32).toInt64 &&& 63)) ||| ((xs (x4 + (3 : Int32)).toNatClampNeg).toInt64 &&& (4294967295 : Int64))) (M64 22)) (fun r1371 s65 => lc_let (va_up M64 22 s65) (fun M66 => lc_bd (P_X4_thrown  (M66 22)) (fun r1377 => if r1377 = r1337 then if r1337 = 0 then if (lg_cmp (M66 23 0 0).toInt64 r1371.toInt64) = 0 then P_L_law_1619 K x4 M66 else some (0 : Int32) else P_L_law_1619 K x4 M66 else some (0 : Int32)))))))))))
set_option maxRecDepth 100000 in
set_option maxHeartbeats 4000000 in
theorem w_L_case21 {S : lc_Se} {X : lc_X} {Q : State → Prop} {bS L : Nat} {xs : Nat → Int32} {c0 s0 t : Nat} (C : lc_C X cL_law RL 7 ret room_1) (hl : X.2.1.stackTraces = false) (hX : va_X bS L xs (lc_Xs X) (lc_Xs X).heap) (hbl : bS < (lc_Xs X).heap.size) (hbA : ¬ lc_A S bS) (hr1 : c0 + t + 1 ≤ 601024) (hr2 : s0 + 6 * t + 6 ≤ 7293034) (hend : ∀ (k j pc : Nat) (lo : List (Nat × Value)) (M : lc_MM), k ≤ 601024 → j ≤ 7293034 → decode cL_law pc = .ok (.ireturn, 1) → lc_J S X 7 k j Q pc lo [.int 1] M) (K : Int32 → lc_MM → Option Int32) (hK : ∀ (x4 : Int32) (M : lc_MM), K x4 M = some 1 → lc_J S X 7 (c0 + t + 1) (s0 + 6 * t + 6) Q 23 [(0, .ref bS), (1, .ref (lc_ad S 194)), (2, .ref (lc_ad S 197)), (3, .ref (lc_ad S 206)), (4, .int x4)] [] M) (x4 : Int32) (M : lc_MM) (h : P_L_case21 L xs K x4 M = some 1) : lc_J S X 7 (c0 + t) (s0 + 6 * t) Q 1307 [(0, .ref bS), (1, .ref (lc_ad S 194)), (2, .ref (lc_ad S 197)), (3, .ref (lc_ad S 206)), (4, .int x4)] [] M := by
  rw [P_L_case21] at h
  refine lc_aload_n C (pc' := 1308) 1 dL_law_1307 rfl rfl ?_
  refine lc_aload_n C (pc' := 1309) 0 dL_law_1308 rfl rfl ?_
  refine lc_iload C (pc' := 1311) 4 dL_law_1309 rfl rfl ?_
  refine lc_iconst C (pc' := 1312) (v := (1 : Int32)) dL_law_1311 (by decide) rfl ?_
  refine lc_iadd C (pc' := 1313) dL_law_1312 rfl ?_
  obtain ⟨hi1313, h⟩ := lc_ife h
  refine lc_sld C (pc' := 1314) hX hbl hbA hi1313 dL_law_1313 rfl ?_
  refine lc_aload_n C (pc' := 1315) 0 dL_law_1314 rfl rfl ?_
  refine lc_iload C (pc' := 1317) 4 dL_law_1315 rfl rfl ?_
  refine lc_iconst C (pc' := 1318) (v := (2 : Int32)) dL_law_1317 (by decide) rfl ?_
  refine lc_iadd C (pc' := 1319) dL_law_1318 rfl ?_
  obtain ⟨hi1319, h⟩ := lc_ife h
  refine lc_sld C (pc' := 1320) hX hbl hbA hi1319 dL_law_1319 rfl ?_
  refine lc_i2l C (pc' := 1321) dL_law_1320 rfl ?_
  refine lc_bipush C (pc' := 1323) (v := (32 : Int32)) dL_law_1321 (by decide) rfl ?_
  refine lc_lshl C (pc' := 1324) dL_law_1323 rfl ?_
  refine lc_aload_n C (pc' := 1325) 0 dL_law_1324 rfl rfl ?_
  refine lc_iload C (pc' := 1327) 4 dL_law_1325 rfl rfl ?_
  refine lc_iconst C (pc' := 1328) (v := (3 : Int32)) dL_law_1327 (by decide) rfl ?_
  refine lc_iadd C (pc' := 1329) dL_law_1328 rfl ?_
  obtain ⟨hi1329, h⟩ := lc_ife h
  refine lc_sld C (pc' := 1330) hX hbl hbA hi1329 dL_law_1329 rfl ?_
  refine lc_i2l C (pc' := 1331) dL_law_1330 rfl ?_
  refine lc_ldc2 C (pc' := 1334) (v := (4294967295 : Int64)) dL_law_1331 kcL_168 rfl ?_
  refine lc_land C (pc' := 1335) dL_law_1334 rfl ?_
  refine lc_lor C (pc' := 1336) dL_law_1335 rfl ?_
  refine lc_aload_n C (pc' := 1337) 3 dL_law_1336 rfl rfl ?_
  obtain ⟨r1337, M64, h1337, h⟩ := lc_bd2e h
  refine lc_csW C (pc' := 1340) (r := r1337) (M' := M64) (As := [.ref (lc_ad S 194), .int (xs (x4 + (1 : Int32)).toNatClampNeg), .long (((xs (x4 + (2 : Int32)).toNatClampNeg).toInt64 <<< ((32 : Int32).toInt64 &&& 63)) ||| ((xs (x4 + (3 : Int32)).toNatClampNeg).toInt64 &&& (4294967295 : Int64))), .ref (lc_ad S 206)]) (rest := []) (c_L_runScript S X.2.1 hl (xs (x4 + (1 : Int32)).toNatClampNeg) (((xs (x4 + (2 : Int32)).toNatClampNeg).toInt64 <<< ((32 : Int32).toInt64 &&& 63)) ||| ((xs (x4 + (3 : Int32)).toNatClampNeg).toInt64 &&& (4294967295 : Int64))) M (r1337, M64) h1337) kw_L_runScript rfl rfl (Nat.le_of_ble_eq_true rfl) ⟨Nat.le_of_ble_eq_true rfl, Nat.le_of_ble_eq_true rfl⟩ ⟨hr1, hr2⟩ dL_law_1337 rfl ?_
  refine lc_istore C (pc' := 1342) (lo' := [(5, .int r1337), (0, .ref bS), (1, .ref (lc_ad S 194)), (2, .ref (lc_ad S 197)), (3, .ref (lc_ad S 206)), (4, .int x4)]) dL_law_1340 (Nat.le_of_ble_eq_true rfl) rfl rfl ?_
  refine lc_aload_n C (pc' := 1343) 3 dL_law_1342 rfl rfl ?_
  refine lc_aload_n C (pc' := 1344) 1 dL_law_1343 rfl rfl ?_
  refine lc_iload C (pc' := 1346) 5 dL_law_1344 rfl rfl ?_
  refine lc_iconst C (pc' := 1347) (v := (1 : Int32)) dL_law_1346 (by decide) rfl ?_
  refine lc_iadd C (pc' := 1348) dL_law_1347 rfl ?_
  obtain ⟨hi1348, h⟩ := lc_ife h
  refine lc_sld C (pc' := 1349) hX hbl hbA hi1348 dL_law_1348 rfl ?_
  refine lc_aload_n C (pc' := 1350) 1 dL_law_1349 rfl rfl ?_
  refine lc_iload C (pc' := 1352) 5 dL_law_1350 rfl rfl ?_
  refine lc_iconst C (pc' := 1353) (v := (2 : Int32)) dL_law_1352 (by decide) rfl ?_
  refine lc_iadd C (pc' := 1354) dL_law_1353 rfl ?_
  obtain ⟨hi1354, h⟩ := lc_ife h
  refine lc_sld C (pc' := 1355) hX hbl hbA hi1354 dL_law_1354 rfl ?_
  refine lc_i2l C (pc' := 1356) dL_law_1355 rfl ?_
  refine lc_bipush C (pc' := 1358) (v := (32 : Int32)) dL_law_1356 (by decide) rfl ?_
  refine lc_lshl C (pc' := 1359) dL_law_1358 rfl ?_
  refine lc_aload_n C (pc' := 1360) 1 dL_law_1359 rfl rfl ?_
  refine lc_iload C (pc' := 1362) 5 dL_law_1360 rfl rfl ?_
  refine lc_iconst C (pc' := 1363) (v := (3 : Int32)) dL_law_1362 (by decide) rfl ?_
  refine lc_iadd C (pc' := 1364) dL_law_1363 rfl ?_
  obtain ⟨hi1364, h⟩ := lc_ife h
  refine lc_sld C (pc' := 1365) hX hbl hbA hi1364 dL_law_1364 rfl ?_
  refine lc_i2l C (pc' := 1366) dL_law_1365 rfl ?_
  refine lc_ldc2 C (pc' := 1369) (v := (4294967295 : Int64)) dL_law_1366 kcL_168 rfl ?_
  refine lc_land C (pc' := 1370) dL_law_1369 rfl ?_
  refine lc_lor C (pc' := 1371) dL_law_1370 rfl ?_
  refine lc_meq (lc_up_self M64 22).symm ?_
  obtain ⟨r1371, s65, h1371, h⟩ := lc_bd2e h
  refine lc_cvi C (pc' := 1374) (r := r1371) (M' := (va_up M64 22 s65)) (As := [.int (xs (x4 + (1 : Int32)).toNatClampNeg), .long (((xs (x4 + (2 : Int32)).toNatClampNeg).toInt64 <<< ((32 : Int32).toInt64 &&& 63)) ||| ((xs (x4 + (3 : Int32)).toNatClampNeg).toInt64 &&& (4294967295 : Int64)))]) (rest := []) (c_X4_runScript S X.2.1 M64   (xs (x4 + (1 : Int32)).toNatClampNeg) (((xs (x4 + (2 : Int32)).toNatClampNeg).toInt64 <<< ((32 : Int32).toInt64 &&& 63)) ||| ((xs (x4 + (3 : Int32)).toNatClampNeg).toInt64 &&& (4294967295 : Int64))) (M64 22) (r1371, s65) h1371) kl_RL_173 (lc_at197 S _) rfl rfl rfl rfl (Nat.le_of_ble_eq_true rfl) ⟨Nat.le_of_ble_eq_true rfl, Nat.le_of_ble_eq_true rfl⟩ ⟨rfl, rfl⟩ ⟨hr1, hr2⟩ dL_law_1371 rfl ?_
  obtain ⟨M66, eM66, h⟩ := lc_let2 h
  refine lc_meq eM66 ?_
  refine lc_istore C (pc' := 1376) (lo' := [(6, .int r1371), (5, .int r1337), (0, .ref bS), (1, .ref (lc_ad S 194)), (2, .ref (lc_ad S 197)), (3, .ref (lc_ad S 206)), (4, .int x4)]) dL_law_1374 (Nat.le_of_ble_eq_true rfl) rfl rfl ?_
  refine lc_aload_n C (pc' := 1377) 4 dL_law_1376 rfl rfl ?_
  refine lc_meq (lc_up_self M66 22).symm ?_
  obtain ⟨r1377, h1377, h⟩ := lc_bde h
  refine lc_cvi C (pc' := 1380) (r := r1377) (M' := (va_up M66 22 (M66 22))) (As := []) (rest := []) (c_X4_thrown S X.2.1 M66    (M66 22) r1377 h1377) kl_RL_98 (lc_at197 S _) rfl rfl rfl rfl (Nat.le_of_ble_eq_true rfl) ⟨Nat.le_of_ble_eq_true rfl, Nat.le_of_ble_eq_true rfl⟩ ⟨rfl, rfl⟩ ⟨hr1, hr2⟩ dL_law_1377 rfl ?_
  refine lc_meq (lc_up_self M66 22) ?_
  refine lc_iload C (pc' := 1382) 1 dL_law_1380 rfl rfl ?_
  refine lc_icmp_eq C (pc' := 1385) (tgt := 1387) dL_law_1382 (by decide) rfl (fun c1382 => ?_) (fun c1382 => ?_)
  · have h := (lc_if2 h).1 c1382
    refine lc_iload C (pc' := 1389) 1 dL_law_1387 rfl rfl ?_
    refine lc_if_ne C (pc' := 1392) (tgt := 1404) dL_law_1389 (by decide) rfl (fun c1389 => ?_) (fun c1389 => ?_)
    · have h := (lc_if2 h).2 c1389
      refine lc_goto C (tgt := 1619) dL_law_1404 (by decide) ?_
      refine lc_sub (lo' := [(0, .ref bS), (1, .ref (lc_ad S 194)), (2, .ref (lc_ad S 197)), (3, .ref (lc_ad S 206)), (4, .int x4)]) [2, 3, 4, 5, 6] rfl ?_
      exact w_L_law_1619 C K hK x4 M66 h
    · have h := (lc_if2 h).1 c1389
      refine lc_aload_n C (pc' := 1393) 5 dL_law_1392 rfl rfl ?_
      refine lc_iconst C (pc' := 1394) (v := (0 : Int32)) dL_law_1393 (by decide) rfl ?_
      refine lc_lld C (pc' := 1395) dL_law_1394 rfl ?_
      refine lc_iload C (pc' := 1397) 0 dL_law_1395 rfl rfl ?_
      refine lc_i2l C (pc' := 1398) dL_law_1397 rfl ?_
      refine lc_lcmp C (pc' := 1399) dL_law_1398 rfl ?_
      refine lc_if_eq C (pc' := 1402) (tgt := 1404) dL_law_1399 (by decide) rfl (fun c1399 => ?_) (fun c1399 => ?_)
      · have h := (lc_if2 h).1 c1399
        refine lc_goto C (tgt := 1619) dL_law_1404 (by decide) ?_
        refine lc_sub (lo' := [(0, .ref bS), (1, .ref (lc_ad S 194)), (2, .ref (lc_ad S 197)), (3, .ref (lc_ad S 206)), (4, .int x4)]) [2, 3, 4, 5, 6] rfl ?_
        exact w_L_law_1619 C K hK x4 M66 h
      · have h := (lc_if2 h).2 c1399
        refine lc_iconst C (pc' := 1403) (v := (0 : Int32)) dL_law_1402 (by decide) rfl ?_
        exact absurd (Option.some.inj h) (by decide)
  · have h := (lc_if2 h).2 c1382
    refine lc_iconst C (pc' := 1386) (v := (0 : Int32)) dL_law_1385 (by decide) rfl ?_
    exact absurd (Option.some.inj h) (by decide)
def P_L_case22 (L : Nat) (xs : Nat → Int32) (K : Int32 → lc_MM → Option Int32) (x4 : Int32) (M : lc_MM) : Option Int32 :=
  lc_if (lc_ok (x4 + (1 : Int32)) L) (lc_if (lc_ok (x4 + (2 : Int32)) L) (lc_if (lc_ok (x4 + (3 : Int32)) L) (lc_bd2 (P_L_simulate (((xs (x4 + (1 : Int32)).toNatClampNeg).toInt64 <<< ((32 : Int32).toInt64 &&& 63)) ||| ((xs (x4 + (2 : Int32)).toNatClampNeg).toInt64 &&& (4294967295 : Int64))) (xs (x4 + (3 : Int32)).toNatClampNeg) M) (fun r1437 M67 => lc_if (lc_ok (x4 + (1 : Int32)) L) (lc_if (lc_ok (x4 + (2 : Int32)) L) (lc_if (lc_ok (x4 + (3 : Int32)) L) (lc_bd2 (P_X4_simulate (((xs (x4 + (1 : Int32)).toNatClampNeg).toInt64 <<< ((32 : Int32).toInt64 &&& 63)) ||| ((xs (x4 + (2 : Int32)).toNatClampNeg).toInt64 &&& (4294967295 : Int64))) (xs (x4 + (3 : Int32)).toNatClampNeg) (M67 22)) (fun r1471 s68 => lc_let (va_up M67 22 s68) (fun M69 => lc_bd (P_X4_thrown  (M69 22)) (fun r1477 => if r1477 = r1437 then if r1437 = 0 then if (lg_cmp (M69 23 0 0).toInt64 r1471.toInt64) = 0 then P_L_law_1619 K x4 M69 else some (0 : Int32) else P_L_law_1619 K x4 M69 else some (0 : Int32)))))))))))
set_option maxRecDepth 100000 in
set_option maxHeartbeats 4000000 in
theorem w_L_case22 {S : lc_Se} {X : lc_X} {Q : State → Prop} {bS L : Nat} {xs : Nat → Int32} {c0 s0 t : Nat} (C : lc_C X cL_law RL 7 ret room_1) (hl : X.2.1.stackTraces = false) (hX : va_X bS L xs (lc_Xs X) (lc_Xs X).heap) (hbl : bS < (lc_Xs X).heap.size) (hbA : ¬ lc_A S bS) (hr1 : c0 + t + 1 ≤ 601024) (hr2 : s0 + 6 * t + 6 ≤ 7293034) (hend : ∀ (k j pc : Nat) (lo : List (Nat × Value)) (M : lc_MM), k ≤ 601024 → j ≤ 7293034 → decode cL_law pc = .ok (.ireturn, 1) → lc_J S X 7 k j Q pc lo [.int 1] M) (K : Int32 → lc_MM → Option Int32) (hK : ∀ (x4 : Int32) (M : lc_MM), K x4 M = some 1 → lc_J S X 7 (c0 + t + 1) (s0 + 6 * t + 6) Q 23 [(0, .ref bS), (1, .ref (lc_ad S 194)), (2, .ref (lc_ad S 197)), (3, .ref (lc_ad S 206)), (4, .int x4)] [] M) (x4 : Int32) (M : lc_MM) (h : P_L_case22 L xs K x4 M = some 1) : lc_J S X 7 (c0 + t) (s0 + 6 * t) Q 1407 [(0, .ref bS), (1, .ref (lc_ad S 194)), (2, .ref (lc_ad S 197)), (3, .ref (lc_ad S 206)), (4, .int x4)] [] M := by
  rw [P_L_case22] at h
  refine lc_aload_n C (pc' := 1408) 1 dL_law_1407 rfl rfl ?_
  refine lc_aload_n C (pc' := 1409) 0 dL_law_1408 rfl rfl ?_
  refine lc_iload C (pc' := 1411) 4 dL_law_1409 rfl rfl ?_
  refine lc_iconst C (pc' := 1412) (v := (1 : Int32)) dL_law_1411 (by decide) rfl ?_
  refine lc_iadd C (pc' := 1413) dL_law_1412 rfl ?_
  obtain ⟨hi1413, h⟩ := lc_ife h
  refine lc_sld C (pc' := 1414) hX hbl hbA hi1413 dL_law_1413 rfl ?_
  refine lc_i2l C (pc' := 1415) dL_law_1414 rfl ?_
  refine lc_bipush C (pc' := 1417) (v := (32 : Int32)) dL_law_1415 (by decide) rfl ?_
  refine lc_lshl C (pc' := 1418) dL_law_1417 rfl ?_
  refine lc_aload_n C (pc' := 1419) 0 dL_law_1418 rfl rfl ?_
  refine lc_iload C (pc' := 1421) 4 dL_law_1419 rfl rfl ?_
  refine lc_iconst C (pc' := 1422) (v := (2 : Int32)) dL_law_1421 (by decide) rfl ?_
  refine lc_iadd C (pc' := 1423) dL_law_1422 rfl ?_
  obtain ⟨hi1423, h⟩ := lc_ife h
  refine lc_sld C (pc' := 1424) hX hbl hbA hi1423 dL_law_1423 rfl ?_
  refine lc_i2l C (pc' := 1425) dL_law_1424 rfl ?_
  refine lc_ldc2 C (pc' := 1428) (v := (4294967295 : Int64)) dL_law_1425 kcL_168 rfl ?_
  refine lc_land C (pc' := 1429) dL_law_1428 rfl ?_
  refine lc_lor C (pc' := 1430) dL_law_1429 rfl ?_
  refine lc_aload_n C (pc' := 1431) 0 dL_law_1430 rfl rfl ?_
  refine lc_iload C (pc' := 1433) 4 dL_law_1431 rfl rfl ?_
  refine lc_iconst C (pc' := 1434) (v := (3 : Int32)) dL_law_1433 (by decide) rfl ?_
  refine lc_iadd C (pc' := 1435) dL_law_1434 rfl ?_
  obtain ⟨hi1435, h⟩ := lc_ife h
  refine lc_sld C (pc' := 1436) hX hbl hbA hi1435 dL_law_1435 rfl ?_
  refine lc_aload_n C (pc' := 1437) 3 dL_law_1436 rfl rfl ?_
  obtain ⟨r1437, M67, h1437, h⟩ := lc_bd2e h
  refine lc_csW C (pc' := 1440) (r := r1437) (M' := M67) (As := [.ref (lc_ad S 194), .long (((xs (x4 + (1 : Int32)).toNatClampNeg).toInt64 <<< ((32 : Int32).toInt64 &&& 63)) ||| ((xs (x4 + (2 : Int32)).toNatClampNeg).toInt64 &&& (4294967295 : Int64))), .int (xs (x4 + (3 : Int32)).toNatClampNeg), .ref (lc_ad S 206)]) (rest := []) (c_L_simulate S X.2.1 hl (((xs (x4 + (1 : Int32)).toNatClampNeg).toInt64 <<< ((32 : Int32).toInt64 &&& 63)) ||| ((xs (x4 + (2 : Int32)).toNatClampNeg).toInt64 &&& (4294967295 : Int64))) (xs (x4 + (3 : Int32)).toNatClampNeg) M (r1437, M67) h1437) kw_L_simulate rfl rfl (Nat.le_of_ble_eq_true rfl) ⟨Nat.le_of_ble_eq_true rfl, Nat.le_of_ble_eq_true rfl⟩ ⟨hr1, hr2⟩ dL_law_1437 rfl ?_
  refine lc_istore C (pc' := 1442) (lo' := [(5, .int r1437), (0, .ref bS), (1, .ref (lc_ad S 194)), (2, .ref (lc_ad S 197)), (3, .ref (lc_ad S 206)), (4, .int x4)]) dL_law_1440 (Nat.le_of_ble_eq_true rfl) rfl rfl ?_
  refine lc_aload_n C (pc' := 1443) 3 dL_law_1442 rfl rfl ?_
  refine lc_aload_n C (pc' := 1444) 1 dL_law_1443 rfl rfl ?_
  refine lc_iload C (pc' := 1446) 5 dL_law_1444 rfl rfl ?_
  refine lc_iconst C (pc' := 1447) (v := (1 : Int32)) dL_law_1446 (by decide) rfl ?_
  refine lc_iadd C (pc' := 1448) dL_law_1447 rfl ?_
  obtain ⟨hi1448, h⟩ := lc_ife h
  refine lc_sld C (pc' := 1449) hX hbl hbA hi1448 dL_law_1448 rfl ?_
  refine lc_i2l C (pc' := 1450) dL_law_1449 rfl ?_
  refine lc_bipush C (pc' := 1452) (v := (32 : Int32)) dL_law_1450 (by decide) rfl ?_
  refine lc_lshl C (pc' := 1453) dL_law_1452 rfl ?_
  refine lc_aload_n C (pc' := 1454) 1 dL_law_1453 rfl rfl ?_
  refine lc_iload C (pc' := 1456) 5 dL_law_1454 rfl rfl ?_
  refine lc_iconst C (pc' := 1457) (v := (2 : Int32)) dL_law_1456 (by decide) rfl ?_
  refine lc_iadd C (pc' := 1458) dL_law_1457 rfl ?_
  obtain ⟨hi1458, h⟩ := lc_ife h
  refine lc_sld C (pc' := 1459) hX hbl hbA hi1458 dL_law_1458 rfl ?_
  refine lc_i2l C (pc' := 1460) dL_law_1459 rfl ?_
  refine lc_ldc2 C (pc' := 1463) (v := (4294967295 : Int64)) dL_law_1460 kcL_168 rfl ?_
  refine lc_land C (pc' := 1464) dL_law_1463 rfl ?_
  refine lc_lor C (pc' := 1465) dL_law_1464 rfl ?_
  refine lc_aload_n C (pc' := 1466) 1 dL_law_1465 rfl rfl ?_
  refine lc_iload C (pc' := 1468) 5 dL_law_1466 rfl rfl ?_
  refine lc_iconst C (pc' := 1469) (v := (3 : Int32)) dL_law_1468 (by decide) rfl ?_
  refine lc_iadd C (pc' := 1470) dL_law_1469 rfl ?_
  obtain ⟨hi1470, h⟩ := lc_ife h
  refine lc_sld C (pc' := 1471) hX hbl hbA hi1470 dL_law_1470 rfl ?_
  refine lc_meq (lc_up_self M67 22).symm ?_
  obtain ⟨r1471, s68, h1471, h⟩ := lc_bd2e h
  refine lc_cvi C (pc' := 1474) (r := r1471) (M' := (va_up M67 22 s68)) (As := [.long (((xs (x4 + (1 : Int32)).toNatClampNeg).toInt64 <<< ((32 : Int32).toInt64 &&& 63)) ||| ((xs (x4 + (2 : Int32)).toNatClampNeg).toInt64 &&& (4294967295 : Int64))), .int (xs (x4 + (3 : Int32)).toNatClampNeg)]) (rest := []) (c_X4_simulate S X.2.1 M67   (((xs (x4 + (1 : Int32)).toNatClampNeg).toInt64 <<< ((32 : Int32).toInt64 &&& 63)) ||| ((xs (x4 + (2 : Int32)).toNatClampNeg).toInt64 &&& (4294967295 : Int64))) (xs (x4 + (3 : Int32)).toNatClampNeg) (M67 22) (r1471, s68) h1471) kl_RL_177 (lc_at197 S _) rfl rfl rfl rfl (Nat.le_of_ble_eq_true rfl) ⟨Nat.le_of_ble_eq_true rfl, Nat.le_of_ble_eq_true rfl⟩ ⟨rfl, rfl⟩ ⟨hr1, hr2⟩ dL_law_1471 rfl ?_
  obtain ⟨M69, eM69, h⟩ := lc_let2 h
  refine lc_meq eM69 ?_
  refine lc_istore C (pc' := 1476) (lo' := [(6, .int r1471), (5, .int r1437), (0, .ref bS), (1, .ref (lc_ad S 194)), (2, .ref (lc_ad S 197)), (3, .ref (lc_ad S 206)), (4, .int x4)]) dL_law_1474 (Nat.le_of_ble_eq_true rfl) rfl rfl ?_
  refine lc_aload_n C (pc' := 1477) 4 dL_law_1476 rfl rfl ?_
  refine lc_meq (lc_up_self M69 22).symm ?_
  obtain ⟨r1477, h1477, h⟩ := lc_bde h
  refine lc_cvi C (pc' := 1480) (r := r1477) (M' := (va_up M69 22 (M69 22))) (As := []) (rest := []) (c_X4_thrown S X.2.1 M69    (M69 22) r1477 h1477) kl_RL_98 (lc_at197 S _) rfl rfl rfl rfl (Nat.le_of_ble_eq_true rfl) ⟨Nat.le_of_ble_eq_true rfl, Nat.le_of_ble_eq_true rfl⟩ ⟨rfl, rfl⟩ ⟨hr1, hr2⟩ dL_law_1477 rfl ?_
  refine lc_meq (lc_up_self M69 22) ?_
  refine lc_iload C (pc' := 1482) 1 dL_law_1480 rfl rfl ?_
  refine lc_icmp_eq C (pc' := 1485) (tgt := 1487) dL_law_1482 (by decide) rfl (fun c1482 => ?_) (fun c1482 => ?_)
  · have h := (lc_if2 h).1 c1482
    refine lc_iload C (pc' := 1489) 1 dL_law_1487 rfl rfl ?_
    refine lc_if_ne C (pc' := 1492) (tgt := 1504) dL_law_1489 (by decide) rfl (fun c1489 => ?_) (fun c1489 => ?_)
    · have h := (lc_if2 h).2 c1489
      refine lc_goto C (tgt := 1619) dL_law_1504 (by decide) ?_
      refine lc_sub (lo' := [(0, .ref bS), (1, .ref (lc_ad S 194)), (2, .ref (lc_ad S 197)), (3, .ref (lc_ad S 206)), (4, .int x4)]) [2, 3, 4, 5, 6] rfl ?_
      exact w_L_law_1619 C K hK x4 M69 h
    · have h := (lc_if2 h).1 c1489
      refine lc_aload_n C (pc' := 1493) 5 dL_law_1492 rfl rfl ?_
      refine lc_iconst C (pc' := 1494) (v := (0 : Int32)) dL_law_1493 (by decide) rfl ?_
      refine lc_lld C (pc' := 1495) dL_law_1494 rfl ?_
      refine lc_iload C (pc' := 1497) 0 dL_law_1495 rfl rfl ?_
      refine lc_i2l C (pc' := 1498) dL_law_1497 rfl ?_
      refine lc_lcmp C (pc' := 1499) dL_law_1498 rfl ?_
      refine lc_if_eq C (pc' := 1502) (tgt := 1504) dL_law_1499 (by decide) rfl (fun c1499 => ?_) (fun c1499 => ?_)
      · have h := (lc_if2 h).1 c1499
        refine lc_goto C (tgt := 1619) dL_law_1504 (by decide) ?_
        refine lc_sub (lo' := [(0, .ref bS), (1, .ref (lc_ad S 194)), (2, .ref (lc_ad S 197)), (3, .ref (lc_ad S 206)), (4, .int x4)]) [2, 3, 4, 5, 6] rfl ?_
        exact w_L_law_1619 C K hK x4 M69 h
      · have h := (lc_if2 h).2 c1499
        refine lc_iconst C (pc' := 1503) (v := (0 : Int32)) dL_law_1502 (by decide) rfl ?_
        exact absurd (Option.some.inj h) (by decide)
  · have h := (lc_if2 h).2 c1482
    refine lc_iconst C (pc' := 1486) (v := (0 : Int32)) dL_law_1485 (by decide) rfl ?_
    exact absurd (Option.some.inj h) (by decide)
def P_L_case23 (L : Nat) (xs : Nat → Int32) (K : Int32 → lc_MM → Option Int32) (x4 : Int32) (M : lc_MM) : Option Int32 :=
  lc_if (lc_ok (x4 + (1 : Int32)) L) (lc_bd2 (P_L_save (xs (x4 + (1 : Int32)).toNatClampNeg) M) (fun r1515 M70 => lc_if (lc_ok (x4 + (1 : Int32)) L) (lc_bd2 (P_X4_save (xs (x4 + (1 : Int32)).toNatClampNeg) (M70 22)) (fun r1527 s71 => lc_let (va_up M70 22 s71) (fun M72 => lc_bd (P_X4_thrown  (M72 22)) (fun r1533 => if r1533 = r1515 then if r1515 = 0 then if (lg_cmp (M72 23 0 0).toInt64 r1527.toInt64) = 0 then P_L_law_1619 K x4 M72 else some (0 : Int32) else P_L_law_1619 K x4 M72 else some (0 : Int32)))))))
set_option maxRecDepth 100000 in
set_option maxHeartbeats 4000000 in
theorem w_L_case23 {S : lc_Se} {X : lc_X} {Q : State → Prop} {bS L : Nat} {xs : Nat → Int32} {c0 s0 t : Nat} (C : lc_C X cL_law RL 7 ret room_1) (hl : X.2.1.stackTraces = false) (hX : va_X bS L xs (lc_Xs X) (lc_Xs X).heap) (hbl : bS < (lc_Xs X).heap.size) (hbA : ¬ lc_A S bS) (hr1 : c0 + t + 1 ≤ 601024) (hr2 : s0 + 6 * t + 6 ≤ 7293034) (hend : ∀ (k j pc : Nat) (lo : List (Nat × Value)) (M : lc_MM), k ≤ 601024 → j ≤ 7293034 → decode cL_law pc = .ok (.ireturn, 1) → lc_J S X 7 k j Q pc lo [.int 1] M) (K : Int32 → lc_MM → Option Int32) (hK : ∀ (x4 : Int32) (M : lc_MM), K x4 M = some 1 → lc_J S X 7 (c0 + t + 1) (s0 + 6 * t + 6) Q 23 [(0, .ref bS), (1, .ref (lc_ad S 194)), (2, .ref (lc_ad S 197)), (3, .ref (lc_ad S 206)), (4, .int x4)] [] M) (x4 : Int32) (M : lc_MM) (h : P_L_case23 L xs K x4 M = some 1) : lc_J S X 7 (c0 + t) (s0 + 6 * t) Q 1507 [(0, .ref bS), (1, .ref (lc_ad S 194)), (2, .ref (lc_ad S 197)), (3, .ref (lc_ad S 206)), (4, .int x4)] [] M := by
  rw [P_L_case23] at h
  refine lc_aload_n C (pc' := 1508) 1 dL_law_1507 rfl rfl ?_
  refine lc_aload_n C (pc' := 1509) 0 dL_law_1508 rfl rfl ?_
  refine lc_iload C (pc' := 1511) 4 dL_law_1509 rfl rfl ?_
  refine lc_iconst C (pc' := 1512) (v := (1 : Int32)) dL_law_1511 (by decide) rfl ?_
  refine lc_iadd C (pc' := 1513) dL_law_1512 rfl ?_
  obtain ⟨hi1513, h⟩ := lc_ife h
  refine lc_sld C (pc' := 1514) hX hbl hbA hi1513 dL_law_1513 rfl ?_
  refine lc_aload_n C (pc' := 1515) 3 dL_law_1514 rfl rfl ?_
  obtain ⟨r1515, M70, h1515, h⟩ := lc_bd2e h
  refine lc_csW C (pc' := 1518) (r := r1515) (M' := M70) (As := [.ref (lc_ad S 194), .int (xs (x4 + (1 : Int32)).toNatClampNeg), .ref (lc_ad S 206)]) (rest := []) (c_L_save S X.2.1 hl (xs (x4 + (1 : Int32)).toNatClampNeg) M (r1515, M70) h1515) kw_L_save rfl rfl (Nat.le_of_ble_eq_true rfl) ⟨Nat.le_of_ble_eq_true rfl, Nat.le_of_ble_eq_true rfl⟩ ⟨hr1, hr2⟩ dL_law_1515 rfl ?_
  refine lc_istore C (pc' := 1520) (lo' := [(5, .int r1515), (0, .ref bS), (1, .ref (lc_ad S 194)), (2, .ref (lc_ad S 197)), (3, .ref (lc_ad S 206)), (4, .int x4)]) dL_law_1518 (Nat.le_of_ble_eq_true rfl) rfl rfl ?_
  refine lc_aload_n C (pc' := 1521) 3 dL_law_1520 rfl rfl ?_
  refine lc_aload_n C (pc' := 1522) 1 dL_law_1521 rfl rfl ?_
  refine lc_iload C (pc' := 1524) 5 dL_law_1522 rfl rfl ?_
  refine lc_iconst C (pc' := 1525) (v := (1 : Int32)) dL_law_1524 (by decide) rfl ?_
  refine lc_iadd C (pc' := 1526) dL_law_1525 rfl ?_
  obtain ⟨hi1526, h⟩ := lc_ife h
  refine lc_sld C (pc' := 1527) hX hbl hbA hi1526 dL_law_1526 rfl ?_
  refine lc_meq (lc_up_self M70 22).symm ?_
  obtain ⟨r1527, s71, h1527, h⟩ := lc_bd2e h
  refine lc_cvi C (pc' := 1530) (r := r1527) (M' := (va_up M70 22 s71)) (As := [.int (xs (x4 + (1 : Int32)).toNatClampNeg)]) (rest := []) (c_X4_save S X.2.1 M70   (xs (x4 + (1 : Int32)).toNatClampNeg) (M70 22) (r1527, s71) h1527) kl_RL_180 (lc_at197 S _) rfl rfl rfl rfl (Nat.le_of_ble_eq_true rfl) ⟨Nat.le_of_ble_eq_true rfl, Nat.le_of_ble_eq_true rfl⟩ ⟨rfl, rfl⟩ ⟨hr1, hr2⟩ dL_law_1527 rfl ?_
  obtain ⟨M72, eM72, h⟩ := lc_let2 h
  refine lc_meq eM72 ?_
  refine lc_istore C (pc' := 1532) (lo' := [(6, .int r1527), (5, .int r1515), (0, .ref bS), (1, .ref (lc_ad S 194)), (2, .ref (lc_ad S 197)), (3, .ref (lc_ad S 206)), (4, .int x4)]) dL_law_1530 (Nat.le_of_ble_eq_true rfl) rfl rfl ?_
  refine lc_aload_n C (pc' := 1533) 4 dL_law_1532 rfl rfl ?_
  refine lc_meq (lc_up_self M72 22).symm ?_
  obtain ⟨r1533, h1533, h⟩ := lc_bde h
  refine lc_cvi C (pc' := 1536) (r := r1533) (M' := (va_up M72 22 (M72 22))) (As := []) (rest := []) (c_X4_thrown S X.2.1 M72    (M72 22) r1533 h1533) kl_RL_98 (lc_at197 S _) rfl rfl rfl rfl (Nat.le_of_ble_eq_true rfl) ⟨Nat.le_of_ble_eq_true rfl, Nat.le_of_ble_eq_true rfl⟩ ⟨rfl, rfl⟩ ⟨hr1, hr2⟩ dL_law_1533 rfl ?_
  refine lc_meq (lc_up_self M72 22) ?_
  refine lc_iload C (pc' := 1538) 1 dL_law_1536 rfl rfl ?_
  refine lc_icmp_eq C (pc' := 1541) (tgt := 1543) dL_law_1538 (by decide) rfl (fun c1538 => ?_) (fun c1538 => ?_)
  · have h := (lc_if2 h).1 c1538
    refine lc_iload C (pc' := 1545) 1 dL_law_1543 rfl rfl ?_
    refine lc_if_ne C (pc' := 1548) (tgt := 1560) dL_law_1545 (by decide) rfl (fun c1545 => ?_) (fun c1545 => ?_)
    · have h := (lc_if2 h).2 c1545
      refine lc_goto C (tgt := 1619) dL_law_1560 (by decide) ?_
      refine lc_sub (lo' := [(0, .ref bS), (1, .ref (lc_ad S 194)), (2, .ref (lc_ad S 197)), (3, .ref (lc_ad S 206)), (4, .int x4)]) [2, 3, 4, 5, 6] rfl ?_
      exact w_L_law_1619 C K hK x4 M72 h
    · have h := (lc_if2 h).1 c1545
      refine lc_aload_n C (pc' := 1549) 5 dL_law_1548 rfl rfl ?_
      refine lc_iconst C (pc' := 1550) (v := (0 : Int32)) dL_law_1549 (by decide) rfl ?_
      refine lc_lld C (pc' := 1551) dL_law_1550 rfl ?_
      refine lc_iload C (pc' := 1553) 0 dL_law_1551 rfl rfl ?_
      refine lc_i2l C (pc' := 1554) dL_law_1553 rfl ?_
      refine lc_lcmp C (pc' := 1555) dL_law_1554 rfl ?_
      refine lc_if_eq C (pc' := 1558) (tgt := 1560) dL_law_1555 (by decide) rfl (fun c1555 => ?_) (fun c1555 => ?_)
      · have h := (lc_if2 h).1 c1555
        refine lc_goto C (tgt := 1619) dL_law_1560 (by decide) ?_
        refine lc_sub (lo' := [(0, .ref bS), (1, .ref (lc_ad S 194)), (2, .ref (lc_ad S 197)), (3, .ref (lc_ad S 206)), (4, .int x4)]) [2, 3, 4, 5, 6] rfl ?_
        exact w_L_law_1619 C K hK x4 M72 h
      · have h := (lc_if2 h).2 c1555
        refine lc_iconst C (pc' := 1559) (v := (0 : Int32)) dL_law_1558 (by decide) rfl ?_
        exact absurd (Option.some.inj h) (by decide)
  · have h := (lc_if2 h).2 c1538
    refine lc_iconst C (pc' := 1542) (v := (0 : Int32)) dL_law_1541 (by decide) rfl ?_
    exact absurd (Option.some.inj h) (by decide)
def P_L_case24 (L : Nat) (xs : Nat → Int32) (K : Int32 → lc_MM → Option Int32) (x4 : Int32) (M : lc_MM) : Option Int32 :=
  lc_if (lc_ok (x4 + (1 : Int32)) L) (lc_bd2 (P_L_restore (xs (x4 + (1 : Int32)).toNatClampNeg) M) (fun r1571 M73 => lc_if (lc_ok (x4 + (1 : Int32)) L) (lc_bd2 (P_X4_restore (xs (x4 + (1 : Int32)).toNatClampNeg) (M73 22)) (fun r1583 s74 => lc_let (va_up M73 22 s74) (fun M75 => lc_bd (P_X4_thrown  (M75 22)) (fun r1589 => if r1589 = r1571 then if r1571 = 0 then if (lg_cmp (M75 23 0 0).toInt64 r1583.toInt64) = 0 then P_L_law_1619 K x4 M75 else some (0 : Int32) else P_L_law_1619 K x4 M75 else some (0 : Int32)))))))
set_option maxRecDepth 100000 in
set_option maxHeartbeats 4000000 in
theorem w_L_case24 {S : lc_Se} {X : lc_X} {Q : State → Prop} {bS L : Nat} {xs : Nat → Int32} {c0 s0 t : Nat} (C : lc_C X cL_law RL 7 ret room_1) (hl : X.2.1.stackTraces = false) (hX : va_X bS L xs (lc_Xs X) (lc_Xs X).heap) (hbl : bS < (lc_Xs X).heap.size) (hbA : ¬ lc_A S bS) (hr1 : c0 + t + 1 ≤ 601024) (hr2 : s0 + 6 * t + 6 ≤ 7293034) (hend : ∀ (k j pc : Nat) (lo : List (Nat × Value)) (M : lc_MM), k ≤ 601024 → j ≤ 7293034 → decode cL_law pc = .ok (.ireturn, 1) → lc_J S X 7 k j Q pc lo [.int 1] M) (K : Int32 → lc_MM → Option Int32) (hK : ∀ (x4 : Int32) (M : lc_MM), K x4 M = some 1 → lc_J S X 7 (c0 + t + 1) (s0 + 6 * t + 6) Q 23 [(0, .ref bS), (1, .ref (lc_ad S 194)), (2, .ref (lc_ad S 197)), (3, .ref (lc_ad S 206)), (4, .int x4)] [] M) (x4 : Int32) (M : lc_MM) (h : P_L_case24 L xs K x4 M = some 1) : lc_J S X 7 (c0 + t) (s0 + 6 * t) Q 1563 [(0, .ref bS), (1, .ref (lc_ad S 194)), (2, .ref (lc_ad S 197)), (3, .ref (lc_ad S 206)), (4, .int x4)] [] M := by
  rw [P_L_case24] at h
  refine lc_aload_n C (pc' := 1564) 1 dL_law_1563 rfl rfl ?_
  refine lc_aload_n C (pc' := 1565) 0 dL_law_1564 rfl rfl ?_
  refine lc_iload C (pc' := 1567) 4 dL_law_1565 rfl rfl ?_
  refine lc_iconst C (pc' := 1568) (v := (1 : Int32)) dL_law_1567 (by decide) rfl ?_
  refine lc_iadd C (pc' := 1569) dL_law_1568 rfl ?_
  obtain ⟨hi1569, h⟩ := lc_ife h
  refine lc_sld C (pc' := 1570) hX hbl hbA hi1569 dL_law_1569 rfl ?_
  refine lc_aload_n C (pc' := 1571) 3 dL_law_1570 rfl rfl ?_
  obtain ⟨r1571, M73, h1571, h⟩ := lc_bd2e h
  refine lc_csW C (pc' := 1574) (r := r1571) (M' := M73) (As := [.ref (lc_ad S 194), .int (xs (x4 + (1 : Int32)).toNatClampNeg), .ref (lc_ad S 206)]) (rest := []) (c_L_restore S X.2.1 hl (xs (x4 + (1 : Int32)).toNatClampNeg) M (r1571, M73) h1571) kw_L_restore rfl rfl (Nat.le_of_ble_eq_true rfl) ⟨Nat.le_of_ble_eq_true rfl, Nat.le_of_ble_eq_true rfl⟩ ⟨hr1, hr2⟩ dL_law_1571 rfl ?_
  refine lc_istore C (pc' := 1576) (lo' := [(5, .int r1571), (0, .ref bS), (1, .ref (lc_ad S 194)), (2, .ref (lc_ad S 197)), (3, .ref (lc_ad S 206)), (4, .int x4)]) dL_law_1574 (Nat.le_of_ble_eq_true rfl) rfl rfl ?_
  refine lc_aload_n C (pc' := 1577) 3 dL_law_1576 rfl rfl ?_
  refine lc_aload_n C (pc' := 1578) 1 dL_law_1577 rfl rfl ?_
  refine lc_iload C (pc' := 1580) 5 dL_law_1578 rfl rfl ?_
  refine lc_iconst C (pc' := 1581) (v := (1 : Int32)) dL_law_1580 (by decide) rfl ?_
  refine lc_iadd C (pc' := 1582) dL_law_1581 rfl ?_
  obtain ⟨hi1582, h⟩ := lc_ife h
  refine lc_sld C (pc' := 1583) hX hbl hbA hi1582 dL_law_1582 rfl ?_
  refine lc_meq (lc_up_self M73 22).symm ?_
  obtain ⟨r1583, s74, h1583, h⟩ := lc_bd2e h
  refine lc_cvi C (pc' := 1586) (r := r1583) (M' := (va_up M73 22 s74)) (As := [.int (xs (x4 + (1 : Int32)).toNatClampNeg)]) (rest := []) (c_X4_restore S X.2.1 M73   (xs (x4 + (1 : Int32)).toNatClampNeg) (M73 22) (r1583, s74) h1583) kl_RL_183 (lc_at197 S _) rfl rfl rfl rfl (Nat.le_of_ble_eq_true rfl) ⟨Nat.le_of_ble_eq_true rfl, Nat.le_of_ble_eq_true rfl⟩ ⟨rfl, rfl⟩ ⟨hr1, hr2⟩ dL_law_1583 rfl ?_
  obtain ⟨M75, eM75, h⟩ := lc_let2 h
  refine lc_meq eM75 ?_
  refine lc_istore C (pc' := 1588) (lo' := [(6, .int r1583), (5, .int r1571), (0, .ref bS), (1, .ref (lc_ad S 194)), (2, .ref (lc_ad S 197)), (3, .ref (lc_ad S 206)), (4, .int x4)]) dL_law_1586 (Nat.le_of_ble_eq_true rfl) rfl rfl ?_
  refine lc_aload_n C (pc' := 1589) 4 dL_law_1588 rfl rfl ?_
  refine lc_meq (lc_up_self M75 22).symm ?_
  obtain ⟨r1589, h1589, h⟩ := lc_bde h
  refine lc_cvi C (pc' := 1592) (r := r1589) (M' := (va_up M75 22 (M75 22))) (As := []) (rest := []) (c_X4_thrown S X.2.1 M75    (M75 22) r1589 h1589) kl_RL_98 (lc_at197 S _) rfl rfl rfl rfl (Nat.le_of_ble_eq_true rfl) ⟨Nat.le_of_ble_eq_true rfl, Nat.le_of_ble_eq_true rfl⟩ ⟨rfl, rfl⟩ ⟨hr1, hr2⟩ dL_law_1589 rfl ?_
  refine lc_meq (lc_up_self M75 22) ?_
  refine lc_iload C (pc' := 1594) 1 dL_law_1592 rfl rfl ?_
  refine lc_icmp_eq C (pc' := 1597) (tgt := 1599) dL_law_1594 (by decide) rfl (fun c1594 => ?_) (fun c1594 => ?_)
  · have h := (lc_if2 h).1 c1594
    refine lc_iload C (pc' := 1601) 1 dL_law_1599 rfl rfl ?_
    refine lc_if_ne C (pc' := 1604) (tgt := 1616) dL_law_1601 (by decide) rfl (fun c1601 => ?_) (fun c1601 => ?_)
    · have h := (lc_if2 h).2 c1601
      refine lc_goto C (tgt := 1619) dL_law_1616 (by decide) ?_
      refine lc_sub (lo' := [(0, .ref bS), (1, .ref (lc_ad S 194)), (2, .ref (lc_ad S 197)), (3, .ref (lc_ad S 206)), (4, .int x4)]) [2, 3, 4, 5, 6] rfl ?_
      exact w_L_law_1619 C K hK x4 M75 h
    · have h := (lc_if2 h).1 c1601
      refine lc_aload_n C (pc' := 1605) 5 dL_law_1604 rfl rfl ?_
      refine lc_iconst C (pc' := 1606) (v := (0 : Int32)) dL_law_1605 (by decide) rfl ?_
      refine lc_lld C (pc' := 1607) dL_law_1606 rfl ?_
      refine lc_iload C (pc' := 1609) 0 dL_law_1607 rfl rfl ?_
      refine lc_i2l C (pc' := 1610) dL_law_1609 rfl ?_
      refine lc_lcmp C (pc' := 1611) dL_law_1610 rfl ?_
      refine lc_if_eq C (pc' := 1614) (tgt := 1616) dL_law_1611 (by decide) rfl (fun c1611 => ?_) (fun c1611 => ?_)
      · have h := (lc_if2 h).1 c1611
        refine lc_goto C (tgt := 1619) dL_law_1616 (by decide) ?_
        refine lc_sub (lo' := [(0, .ref bS), (1, .ref (lc_ad S 194)), (2, .ref (lc_ad S 197)), (3, .ref (lc_ad S 206)), (4, .int x4)]) [2, 3, 4, 5, 6] rfl ?_
        exact w_L_law_1619 C K hK x4 M75 h
      · have h := (lc_if2 h).2 c1611
        refine lc_iconst C (pc' := 1615) (v := (0 : Int32)) dL_law_1614 (by decide) rfl ?_
        exact absurd (Option.some.inj h) (by decide)
  · have h := (lc_if2 h).2 c1594
    refine lc_iconst C (pc' := 1598) (v := (0 : Int32)) dL_law_1597 (by decide) rfl ?_
    exact absurd (Option.some.inj h) (by decide)
def P_L_law_23 (L : Nat) (xs : Nat → Int32) : Nat → Int32 → lc_MM → Option Int32
  | 0, _, _ => none
  | n + 1, x4, M =>
    if ((Int32.ofNat L) - (5 : Int32)) < x4 then some (1 : Int32) else lc_if (lc_ok x4 L) (lc_let ((xs x4.toNatClampNeg) &&& (31 : Int32)) (fun y39 => if y39 = (0 : Int32) then P_L_case0 L xs (fun x4 M => P_L_law_23 L xs n x4 M) x4 M else if y39 = (1 : Int32) then P_L_case1 L xs (fun x4 M => P_L_law_23 L xs n x4 M) x4 M else if y39 = (2 : Int32) then P_L_case2 L xs (fun x4 M => P_L_law_23 L xs n x4 M) x4 M else if y39 = (3 : Int32) then P_L_case3 L xs (fun x4 M => P_L_law_23 L xs n x4 M) x4 M else if y39 = (4 : Int32) then P_L_case4 L xs (fun x4 M => P_L_law_23 L xs n x4 M) x4 M else if y39 = (5 : Int32) then P_L_case5 L xs (fun x4 M => P_L_law_23 L xs n x4 M) x4 M else if y39 = (6 : Int32) then P_L_case6 L xs (fun x4 M => P_L_law_23 L xs n x4 M) x4 M else if y39 = (7 : Int32) then P_L_case7 L xs (fun x4 M => P_L_law_23 L xs n x4 M) x4 M else if y39 = (8 : Int32) then P_L_case8 L xs (fun x4 M => P_L_law_23 L xs n x4 M) x4 M else if y39 = (9 : Int32) then P_L_case9 L xs (fun x4 M => P_L_law_23 L xs n x4 M) x4 M else if y39 = (10 : Int32) then P_L_case10 L xs (fun x4 M => P_L_law_23 L xs n x4 M) x4 M else if y39 = (11 : Int32) then P_L_case11 L xs (fun x4 M => P_L_law_23 L xs n x4 M) x4 M else if y39 = (12 : Int32) then P_L_case12 L xs (fun x4 M => P_L_law_23 L xs n x4 M) x4 M else if y39 = (13 : Int32) then P_L_case13 L xs (fun x4 M => P_L_law_23 L xs n x4 M) x4 M else if y39 = (14 : Int32) then P_L_case14 L xs (fun x4 M => P_L_law_23 L xs n x4 M) x4 M else if y39 = (15 : Int32) then P_L_case15 L xs (fun x4 M => P_L_law_23 L xs n x4 M) x4 M else if y39 = (16 : Int32) then P_L_case16 L xs (fun x4 M => P_L_law_23 L xs n x4 M) x4 M else if y39 = (17 : Int32) then P_L_case17 L xs (fun x4 M => P_L_law_23 L xs n x4 M) x4 M else if y39 = (18 : Int32) then P_L_case18 L xs (fun x4 M => P_L_law_23 L xs n x4 M) x4 M else if y39 = (19 : Int32) then P_L_case19 L xs (fun x4 M => P_L_law_23 L xs n x4 M) x4 M else if y39 = (20 : Int32) then P_L_case20 L xs (fun x4 M => P_L_law_23 L xs n x4 M) x4 M else if y39 = (21 : Int32) then P_L_case21 L xs (fun x4 M => P_L_law_23 L xs n x4 M) x4 M else if y39 = (22 : Int32) then P_L_case22 L xs (fun x4 M => P_L_law_23 L xs n x4 M) x4 M else if y39 = (23 : Int32) then P_L_case23 L xs (fun x4 M => P_L_law_23 L xs n x4 M) x4 M else if y39 = (24 : Int32) then P_L_case24 L xs (fun x4 M => P_L_law_23 L xs n x4 M) x4 M else P_L_law_1619 (fun x4 M => P_L_law_23 L xs n x4 M) x4 M))
set_option maxRecDepth 100000 in
set_option maxHeartbeats 4000000 in
theorem w_L_law_23 {S : lc_Se} {X : lc_X} {Q : State → Prop} {bS L : Nat} {xs : Nat → Int32} {c0 s0 : Nat} (C : lc_C X cL_law RL 7 ret room_1) (hl : X.2.1.stackTraces = false) (hX : va_X bS L xs (lc_Xs X) (lc_Xs X).heap) (hbl : bS < (lc_Xs X).heap.size) (hbA : ¬ lc_A S bS) (hc0 : c0 + 600 ≤ 601024) (hs0 : s0 + 3600 ≤ 7293034) (hend : ∀ (k j pc : Nat) (lo : List (Nat × Value)) (M : lc_MM), k ≤ 601024 → j ≤ 7293034 → decode cL_law pc = .ok (.ireturn, 1) → lc_J S X 7 k j Q pc lo [.int 1] M) : ∀ (n t : Nat) (x4 : Int32) (M : lc_MM), P_L_law_23 L xs n x4 M = some 1 → t + n ≤ 600 → lc_J S X 7 (c0 + t) (s0 + 6 * t) Q 23 [(0, .ref bS), (1, .ref (lc_ad S 194)), (2, .ref (lc_ad S 197)), (3, .ref (lc_ad S 206)), (4, .int x4)] [] M := by
  intro n
  induction n with
  | zero =>
    intro t x4 M h
    rw [P_L_law_23] at h
    cases h
  | succ n ih =>
    intro t x4 M h htn
    have hr1 : c0 + t + 1 ≤ 601024 := by omega
    have hr2 : s0 + 6 * t + 6 ≤ 7293034 := by omega
    have hK : ∀ (x4 : Int32) (M : lc_MM), (fun x4 M => P_L_law_23 L xs n x4 M) x4 M = some 1 → lc_J S X 7 (c0 + t + 1) (s0 + 6 * t + 6) Q 23 [(0, .ref bS), (1, .ref (lc_ad S 194)), (2, .ref (lc_ad S 197)), (3, .ref (lc_ad S 206)), (4, .int x4)] [] M := fun x4 M h => lc_keq (by omega) (by omega) (ih (t + 1) x4 M h (by omega))
    rw [P_L_law_23] at h
    refine lc_iload C (pc' := 25) 4 dL_law_23 rfl rfl ?_
    refine lc_aload_n C (pc' := 26) 0 dL_law_25 rfl rfl ?_
    refine lc_slen C (pc' := 27) hX hbl hbA dL_law_26 rfl ?_
    refine lc_iconst C (pc' := 28) (v := (5 : Int32)) dL_law_27 (by decide) rfl ?_
    refine lc_isub C (pc' := 29) dL_law_28 rfl ?_
    refine lc_icmp_gt C (pc' := 32) (tgt := 1625) dL_law_29 (by decide) rfl (fun c29 => ?_) (fun c29 => ?_)
    · have h := (lc_if2 h).1 c29
      refine lc_iconst C (pc' := 1626) (v := (1 : Int32)) dL_law_1625 (by decide) rfl ?_
      exact hend _ _ _ _ _ (Nat.le_of_succ_le hr1) (Nat.le_trans (Nat.le_add_right _ 6) hr2) dL_law_1626
    · have h := (lc_if2 h).2 c29
      refine lc_aload_n C (pc' := 33) 0 dL_law_32 rfl rfl ?_
      refine lc_iload C (pc' := 35) 4 dL_law_33 rfl rfl ?_
      obtain ⟨hi35, h⟩ := lc_ife h
      refine lc_sld C (pc' := 36) hX hbl hbA hi35 dL_law_35 rfl ?_
      refine lc_bipush C (pc' := 38) (v := (31 : Int32)) dL_law_36 (by decide) rfl ?_
      refine lc_iand C (pc' := 39) dL_law_38 rfl ?_
      obtain ⟨y39, ey39, h⟩ := lc_let2 h
      rw [ey39]
      by_cases q0 : y39 = (0 : Int32)
      · have h := (lc_if2 h).1 q0
        refine lc_tabIn C (tgt := 152) dL_law_39 (0 : Int) (by rw [q0]; decide) (by decide) (by decide) rfl (by decide) ?_
        exact w_L_case0 C hl hX hbl hbA hr1 hr2 hend _ hK x4 M h
      have h := (lc_if2 h).2 q0
      by_cases q1 : y39 = (1 : Int32)
      · have h := (lc_if2 h).1 q1
        refine lc_tabIn C (tgt := 208) dL_law_39 (1 : Int) (by rw [q1]; decide) (by decide) (by decide) rfl (by decide) ?_
        exact w_L_case1 C hl hX hbl hbA hr1 hr2 hend _ hK x4 M h
      have h := (lc_if2 h).2 q1
      by_cases q2 : y39 = (2 : Int32)
      · have h := (lc_if2 h).1 q2
        refine lc_tabIn C (tgt := 221) dL_law_39 (2 : Int) (by rw [q2]; decide) (by decide) (by decide) rfl (by decide) ?_
        exact w_L_case2 C hl hX hbl hbA hr1 hr2 hend _ hK x4 M h
      have h := (lc_if2 h).2 q2
      by_cases q3 : y39 = (3 : Int32)
      · have h := (lc_if2 h).1 q3
        refine lc_tabIn C (tgt := 234) dL_law_39 (3 : Int) (by rw [q3]; decide) (by decide) (by decide) rfl (by decide) ?_
        exact w_L_case3 C hl hX hbl hbA hr1 hr2 hend _ hK x4 M h
      have h := (lc_if2 h).2 q3
      by_cases q4 : y39 = (4 : Int32)
      · have h := (lc_if2 h).1 q4
        refine lc_tabIn C (tgt := 278) dL_law_39 (4 : Int) (by rw [q4]; decide) (by decide) (by decide) rfl (by decide) ?_
        exact w_L_case4 C hl hX hbl hbA hr1 hr2 hend _ hK x4 M h
      have h := (lc_if2 h).2 q4
      by_cases q5 : y39 = (5 : Int32)
      · have h := (lc_if2 h).1 q5
        refine lc_tabIn C (tgt := 334) dL_law_39 (5 : Int) (by rw [q5]; decide) (by decide) (by decide) rfl (by decide) ?_
        exact w_L_case5 C hl hX hbl hbA hr1 hr2 hend _ hK x4 M h
      have h := (lc_if2 h).2 q5
      by_cases q6 : y39 = (6 : Int32)
      · have h := (lc_if2 h).1 q6
        refine lc_tabIn C (tgt := 402) dL_law_39 (6 : Int) (by rw [q6]; decide) (by decide) (by decide) rfl (by decide) ?_
        exact w_L_case6 C hl hX hbl hbA hr1 hr2 hend _ hK x4 M h
      have h := (lc_if2 h).2 q6
      by_cases q7 : y39 = (7 : Int32)
      · have h := (lc_if2 h).1 q7
        refine lc_tabIn C (tgt := 470) dL_law_39 (7 : Int) (by rw [q7]; decide) (by decide) (by decide) rfl (by decide) ?_
        exact w_L_case7 C hl hX hbl hbA hr1 hr2 hend _ hK x4 M h
      have h := (lc_if2 h).2 q7
      by_cases q8 : y39 = (8 : Int32)
      · have h := (lc_if2 h).1 q8
        refine lc_tabIn C (tgt := 526) dL_law_39 (8 : Int) (by rw [q8]; decide) (by decide) (by decide) rfl (by decide) ?_
        exact w_L_case8 C hl hX hbl hbA hr1 hr2 hend _ hK x4 M h
      have h := (lc_if2 h).2 q8
      by_cases q9 : y39 = (9 : Int32)
      · have h := (lc_if2 h).1 q9
        refine lc_tabIn C (tgt := 606) dL_law_39 (9 : Int) (by rw [q9]; decide) (by decide) (by decide) rfl (by decide) ?_
        exact w_L_case9 C hl hX hbl hbA hr1 hr2 hend _ hK x4 M h
      have h := (lc_if2 h).2 q9
      by_cases q10 : y39 = (10 : Int32)
      · have h := (lc_if2 h).1 q10
        refine lc_tabIn C (tgt := 698) dL_law_39 (10 : Int) (by rw [q10]; decide) (by decide) (by decide) rfl (by decide) ?_
        exact w_L_case10 C hl hX hbl hbA hr1 hr2 hend _ hK x4 M h
      have h := (lc_if2 h).2 q10
      by_cases q11 : y39 = (11 : Int32)
      · have h := (lc_if2 h).1 q11
        refine lc_tabIn C (tgt := 766) dL_law_39 (11 : Int) (by rw [q11]; decide) (by decide) (by decide) rfl (by decide) ?_
        exact w_L_case11 C hl hX hbl hbA hr1 hr2 hend _ hK x4 M h
      have h := (lc_if2 h).2 q11
      by_cases q12 : y39 = (12 : Int32)
      · have h := (lc_if2 h).1 q12
        refine lc_tabIn C (tgt := 834) dL_law_39 (12 : Int) (by rw [q12]; decide) (by decide) (by decide) rfl (by decide) ?_
        exact w_L_case12 C hl hX hbl hbA hr1 hr2 hend _ hK x4 M h
      have h := (lc_if2 h).2 q12
      by_cases q13 : y39 = (13 : Int32)
      · have h := (lc_if2 h).1 q13
        refine lc_tabIn C (tgt := 890) dL_law_39 (13 : Int) (by rw [q13]; decide) (by decide) (by decide) rfl (by decide) ?_
        exact w_L_case13 C hl hX hbl hbA hr1 hr2 hend _ hK x4 M h
      have h := (lc_if2 h).2 q13
      by_cases q14 : y39 = (14 : Int32)
      · have h := (lc_if2 h).1 q14
        refine lc_tabIn C (tgt := 946) dL_law_39 (14 : Int) (by rw [q14]; decide) (by decide) (by decide) rfl (by decide) ?_
        exact w_L_case14 C hl hX hbl hbA hr1 hr2 hend _ hK x4 M h
      have h := (lc_if2 h).2 q14
      by_cases q15 : y39 = (15 : Int32)
      · have h := (lc_if2 h).1 q15
        refine lc_tabIn C (tgt := 1002) dL_law_39 (15 : Int) (by rw [q15]; decide) (by decide) (by decide) rfl (by decide) ?_
        exact w_L_case15 C hl hX hbl hbA hr1 hr2 hend _ hK x4 M h
      have h := (lc_if2 h).2 q15
      by_cases q16 : y39 = (16 : Int32)
      · have h := (lc_if2 h).1 q16
        refine lc_tabIn C (tgt := 1046) dL_law_39 (16 : Int) (by rw [q16]; decide) (by decide) (by decide) rfl (by decide) ?_
        exact w_L_case16 C hl hX hbl hbA hr1 hr2 hend _ hK x4 M h
      have h := (lc_if2 h).2 q16
      by_cases q17 : y39 = (17 : Int32)
      · have h := (lc_if2 h).1 q17
        refine lc_tabIn C (tgt := 1102) dL_law_39 (17 : Int) (by rw [q17]; decide) (by decide) (by decide) rfl (by decide) ?_
        exact w_L_case17 C hl hX hbl hbA hr1 hr2 hend _ hK x4 M h
      have h := (lc_if2 h).2 q17
      by_cases q18 : y39 = (18 : Int32)
      · have h := (lc_if2 h).1 q18
        refine lc_tabIn C (tgt := 1158) dL_law_39 (18 : Int) (by rw [q18]; decide) (by decide) (by decide) rfl (by decide) ?_
        exact w_L_case18 C hl hX hbl hbA hr1 hr2 hend _ hK x4 M h
      have h := (lc_if2 h).2 q18
      by_cases q19 : y39 = (19 : Int32)
      · have h := (lc_if2 h).1 q19
        refine lc_tabIn C (tgt := 1171) dL_law_39 (19 : Int) (by rw [q19]; decide) (by decide) (by decide) rfl (by decide) ?_
        exact w_L_case19 C hl hX hbl hbA hr1 hr2 hend _ hK x4 M h
      have h := (lc_if2 h).2 q19
      by_cases q20 : y39 = (20 : Int32)
      · have h := (lc_if2 h).1 q20
        refine lc_tabIn C (tgt := 1239) dL_law_39 (20 : Int) (by rw [q20]; decide) (by decide) (by decide) rfl (by decide) ?_
        exact w_L_case20 C hl hX hbl hbA hr1 hr2 hend _ hK x4 M h
      have h := (lc_if2 h).2 q20
      by_cases q21 : y39 = (21 : Int32)
      · have h := (lc_if2 h).1 q21
        refine lc_tabIn C (tgt := 1307) dL_law_39 (21 : Int) (by rw [q21]; decide) (by decide) (by decide) rfl (by decide) ?_
        exact w_L_case21 C hl hX hbl hbA hr1 hr2 hend _ hK x4 M h
      have h := (lc_if2 h).2 q21
      by_cases q22 : y39 = (22 : Int32)
      · have h := (lc_if2 h).1 q22
        refine lc_tabIn C (tgt := 1407) dL_law_39 (22 : Int) (by rw [q22]; decide) (by decide) (by decide) rfl (by decide) ?_
        exact w_L_case22 C hl hX hbl hbA hr1 hr2 hend _ hK x4 M h
      have h := (lc_if2 h).2 q22
      by_cases q23 : y39 = (23 : Int32)
      · have h := (lc_if2 h).1 q23
        refine lc_tabIn C (tgt := 1507) dL_law_39 (23 : Int) (by rw [q23]; decide) (by decide) (by decide) rfl (by decide) ?_
        exact w_L_case23 C hl hX hbl hbA hr1 hr2 hend _ hK x4 M h
      have h := (lc_if2 h).2 q23
      by_cases q24 : y39 = (24 : Int32)
      · have h := (lc_if2 h).1 q24
        refine lc_tabIn C (tgt := 1563) dL_law_39 (24 : Int) (by rw [q24]; decide) (by decide) (by decide) rfl (by decide) ?_
        exact w_L_case24 C hl hX hbl hbA hr1 hr2 hend _ hK x4 M h
      have h := (lc_if2 h).2 q24
      refine lc_tabOut C (tgt := 1619) dL_law_39 (by have n0 : y39.toInt ≠ 0 := fun q => q0 (Int32.toInt_inj.mp q); have n1 : y39.toInt ≠ 1 := fun q => q1 (Int32.toInt_inj.mp q); have n2 : y39.toInt ≠ 2 := fun q => q2 (Int32.toInt_inj.mp q); have n3 : y39.toInt ≠ 3 := fun q => q3 (Int32.toInt_inj.mp q); have n4 : y39.toInt ≠ 4 := fun q => q4 (Int32.toInt_inj.mp q); have n5 : y39.toInt ≠ 5 := fun q => q5 (Int32.toInt_inj.mp q); have n6 : y39.toInt ≠ 6 := fun q => q6 (Int32.toInt_inj.mp q); have n7 : y39.toInt ≠ 7 := fun q => q7 (Int32.toInt_inj.mp q); have n8 : y39.toInt ≠ 8 := fun q => q8 (Int32.toInt_inj.mp q); have n9 : y39.toInt ≠ 9 := fun q => q9 (Int32.toInt_inj.mp q); have n10 : y39.toInt ≠ 10 := fun q => q10 (Int32.toInt_inj.mp q); have n11 : y39.toInt ≠ 11 := fun q => q11 (Int32.toInt_inj.mp q); have n12 : y39.toInt ≠ 12 := fun q => q12 (Int32.toInt_inj.mp q); have n13 : y39.toInt ≠ 13 := fun q => q13 (Int32.toInt_inj.mp q); have n14 : y39.toInt ≠ 14 := fun q => q14 (Int32.toInt_inj.mp q); have n15 : y39.toInt ≠ 15 := fun q => q15 (Int32.toInt_inj.mp q); have n16 : y39.toInt ≠ 16 := fun q => q16 (Int32.toInt_inj.mp q); have n17 : y39.toInt ≠ 17 := fun q => q17 (Int32.toInt_inj.mp q); have n18 : y39.toInt ≠ 18 := fun q => q18 (Int32.toInt_inj.mp q); have n19 : y39.toInt ≠ 19 := fun q => q19 (Int32.toInt_inj.mp q); have n20 : y39.toInt ≠ 20 := fun q => q20 (Int32.toInt_inj.mp q); have n21 : y39.toInt ≠ 21 := fun q => q21 (Int32.toInt_inj.mp q); have n22 : y39.toInt ≠ 22 := fun q => q22 (Int32.toInt_inj.mp q); have n23 : y39.toInt ≠ 23 := fun q => q23 (Int32.toInt_inj.mp q); have n24 : y39.toInt ≠ 24 := fun q => q24 (Int32.toInt_inj.mp q); omega) (by decide) ?_
      refine lc_wid (k' := c0 + t + 1) (j' := s0 + 6 * t + 6) (Nat.le_succ _) (Nat.le_add_right _ 6) ?_
      refine lc_sub (lo' := [(0, .ref bS), (1, .ref (lc_ad S 194)), (2, .ref (lc_ad S 197)), (3, .ref (lc_ad S 206)), (4, .int x4)]) [0, 1, 2, 3, 4] rfl ?_
      exact w_L_law_1619 C (fun x4 M => P_L_law_23 L xs n x4 M) hK x4 M h
