/-! ===== the pure claim: interest burned, the mask and the row of the missed ===== -/
variable {e : Nat} {d : Option Int32} {m : lc_St} {g : Nat → Nat → Nat}
def bit (c : Nat) : Int32 := (nI 1) <<< (nI c &&& 31)
theorem bit_and : ∀ b, b < 8 → ∀ c, c < 8 → bit b &&& bit c = (if b = c then bit b else 0) := by decide +kernel
theorem bit_n0 : ∀ b, b < 8 → bit b ≠ 0 := by decide +kernel
theorem i_or0 (x y : Int32) : x ||| y = 0 ↔ x = 0 ∧ y = 0 := by
  constructor
  · intro h
    have h2 := congrArg Int32.toBitVec h
    rw [Int32.toBitVec_or] at h2
    have h3 : x.toBitVec ||| y.toBitVec = 0#32 := h2
    constructor
    · apply Int32.toBitVec_inj.mp
      show x.toBitVec = 0#32
      ext i hi
      have := congrArg (fun v => v.getLsbD i) h3
      simp at this
      simp [BitVec.getLsbD_eq_getElem hi] at this
      simp [this.1]
    · apply Int32.toBitVec_inj.mp
      show y.toBitVec = 0#32
      ext i hi
      have := congrArg (fun v => v.getLsbD i) h3
      simp at this
      simp [BitVec.getLsbD_eq_getElem hi] at this
      simp [this.2]
  · rintro ⟨rfl, rfl⟩; rfl
theorem i_dis (x y z : Int32) : (x ||| y) &&& z = (x &&& z) ||| (y &&& z) := by
  apply Int32.toBitVec_inj.mp
  simp only [Int32.toBitVec_and, Int32.toBitVec_or]
  ext i hi
  simp [Bool.and_or_distrib_right]
def Mk (x : Int32) (m : lc_St) : Prop := ∀ c, c < 8 → (x &&& bit c = 0 ↔ m 7 c = 0)
theorem Mk_or {x : Int32} (h : Mk x m) {b : Nat} (hb : b < 8) : Mk (x ||| bit b) (lc_ss m 7 b (nI 1)) := by
  intro c hc
  rw [i_dis, i_or0, bit_and b hb c hc]
  by_cases q : b = c
  · subst q
    rw [if_pos rfl, ss_eq]
    constructor
    · intro z; exact absurd z.2 (bit_n0 b hb)
    · intro z; exact absurd z (by decide +kernel)
  · rw [if_neg q, ss_ne _ _ _ (fun z => q z.symm), ← h c hc]
    exact ⟨fun z => z.1, fun z => ⟨z, rfl⟩⟩
theorem Mk_keep {x : Int32} (h : Mk x m) {b : Nat} (w : Int32) (hw : w = 0 ↔ m 7 b = 0) : Mk x (lc_ss m 7 b w) := by
  intro c hc
  by_cases q : c = b
  · subst q; rw [ss_eq, hw]; exact h c hc
  · rw [ss_ne _ _ _ q]; exact h c hc
theorem Mk_of {x : Int32} {m' : lc_St} (h : Mk x m) (h7 : m' 7 = m 7) : Mk x m' := fun c hc => by rw [h7]; exact h c hc
theorem nar1 : vp_nar .boolean (nI 1) = nI 1 := by decide +kernel
theorem nar0 : vp_nar .boolean (nI 0) = nI 0 := by decide +kernel
theorem l_miss0 : ∀ k c (m : lc_St) n, c + k = 8 → k < n → (∀ b, b < c → m 7 b = nI 0) → RM 8 d m g → ∃ m', P_X4_burnInterest_2 n (nI c) m = P_X4_burnInterest_23 lc_FU (nI 0) m' ∧ RM 8 d m' g ∧ Fr m m' ∧ (∀ b, b < 8 → m' 7 b = nI 0) := by
  intro k
  induction k with
  | zero =>
    intro c m n hc h1 hz hr
    obtain ⟨n, rfl⟩ : ∃ q, n = q + 1 := ⟨n - 1, by omega⟩
    rw [P_X4_burnInterest_2]
    simp (disch := omega) only [nB_at, q_0, q_1, q_2, q_3, q_4, q_5, q_6, q_7, q_8, q_10, q_12, q_14, q_20, q_47, q_50, q_99, q_100, q_107, q_120, q_792, nI_ltI, nI_leI, nI_eq, q_okn, nI_clamp, nI_add, pk_mul, pk_sub, pk_div, q_nlt9, q_neg0, q_ne9, q_9ne, q_nle9, lc_let, q_ift, q_ifT, q_iff, q_bd, q_bd2, q_bd3, q_nbd, q_nbd2, ↓reduceIte, and_true, true_and, Nat.one_ne_zero, Nat.reduceEqDiff, Nat.reduceLeDiff, Nat.reduceLT, show 8 ≤ c by omega]
    exact ⟨m, rfl, hr, Fr.rf m, fun b hb => hz b (by omega)⟩
  | succ k ih =>
    intro c m n hc h1 hz hr
    obtain ⟨n, rfl⟩ : ∃ q, n = q + 1 := ⟨n - 1, by omega⟩
    rw [P_X4_burnInterest_2]
    simp (disch := omega) only [nB_at, q_0, q_1, q_2, q_3, q_4, q_5, q_6, q_7, q_8, q_10, q_12, q_14, q_20, q_47, q_50, q_99, q_100, q_107, q_120, q_792, nI_ltI, nI_leI, nI_eq, q_okn, nI_clamp, nI_add, pk_mul, pk_sub, pk_div, q_nlt9, q_neg0, q_ne9, q_9ne, q_nle9, lc_let, q_ift, q_ifT, q_iff, q_bd, q_bd2, q_bd3, q_nbd, q_nbd2, ↓reduceIte, and_true, true_and, Nat.one_ne_zero, Nat.reduceEqDiff, Nat.reduceLeDiff, Nat.reduceLT, show ¬ 8 ≤ c by omega, nar0]
    obtain ⟨m', p1, p2, p3, p4⟩ := ih (c + 1) (lc_ss m 7 c (nI 0)) n (by omega) (by omega) (fun b hb => by
      by_cases q : b = c
      · subst q; rw [ss_eq]
      · rw [ss_ne _ _ _ q]; exact hz b (by omega)) (RM_off hr c (nI 0) (by omega))
    exact ⟨m', p1, p2, ((Fr.rf m).s7 _ _).tr p3, p4⟩
theorem q_burned {w o : Int32} {y : Nat} (h : W4 d o y) (x : Nat) (hw : w = o + nI x) : W4 d w (y + x) := by
  cases d with
  | none => trivial
  | some d =>
    have h' : o + d = nI y := h
    show w + d = nI (y + x)
    rw [hw, Int32.add_assoc, Int32.add_comm (nI x) d, ← Int32.add_assoc, h', nI_add]
/-- where one burns and the other doesn't, nothing is held -/
theorem q_burnx {o w : Int32} {i y z : Nat} (h : W3 d o y) (q : ¬ (nI i = nI y ↔ nI i = o)) : W4 d w z := by
  cases d with
  | none => trivial
  | some d =>
    have h' : o = nI y := h
    exact absurd (by rw [h']) q
theorem l_burn : ∀ k i x (g : Nat → Nat → Nat) (m : lc_St) n1 n2, RM 8 d m g → Iv g → Mk x m → i + k = g 0 1 → k < n1 → k < n2 → ∃ r g' m', P_X0_burnInterest_4 n1 x (nI i) (nB g) = some (r, nB g') ∧ P_X4_burnInterest_23 n2 (nI i) m = some m' ∧ RM 8 d m' g' ∧ Iv g' ∧ Mk r m' ∧ Fr m m' ∧ g' 4 = g 4 ∧ g' 0 0 = g 0 0 := by
  intro k
  induction k with
  | zero =>
    intro i x g m n1 n2 hr hi hm hc h1 h2
    have h12 := hi.2.1
    obtain ⟨n1, rfl⟩ : ∃ q, n1 = q + 1 := ⟨n1 - 1, by omega⟩; obtain ⟨n2, rfl⟩ : ∃ q, n2 = q + 1 := ⟨n2 - 1, by omega⟩
    have hle : g 0 1 ≤ i := by omega
    rw [P_X0_burnInterest_4, P_X4_burnInterest_23]
    simp (disch := omega) only [nB_at, q_0, q_1, q_2, q_3, q_4, q_5, q_6, q_7, q_8, q_10, q_12, q_14, q_20, q_47, q_50, q_99, q_100, q_107, q_120, q_792, nI_ltI, nI_leI, nI_eq, q_okn, nI_clamp, nI_add, pk_mul, pk_sub, pk_div, q_nlt9, q_neg0, q_ne9, q_9ne, q_nle9, lc_let, q_ift, q_ifT, q_iff, q_bd, q_bd2, q_bd3, q_nbd, q_nbd2, ↓reduceIte, and_true, true_and, Nat.one_ne_zero, Nat.reduceEqDiff, Nat.reduceLeDiff, Nat.reduceLT, hle, rm_nl hr]
    exact ⟨x, g, m, rfl, rfl, hr, hi, hm, Fr.rf m, rfl, rfl⟩
  | succ k ih =>
    intro i x g m n1 n2 hr hi hm hc h1 h2
    have h8 := hi.1
    have h12 := hi.2.1
    obtain ⟨n1, rfl⟩ : ∃ q, n1 = q + 1 := ⟨n1 - 1, by omega⟩; obtain ⟨n2, rfl⟩ : ∃ q, n2 = q + 1 := ⟨n2 - 1, by omega⟩
    have hlt : i < g 0 1 := by omega
    have hl := hi.2.2.2 i hlt
    have hb := hl.2.1
    have hb8 : g 6 i < 8 := by omega
    have hbl := hi.2.2.1 _ hb
    have hint := (itr_le hi hlt).2
    -- what both do once the amount v and the new mask are known
    have step : ∀ v y, v ≤ g 2 (g 6 i) → ∀ m7, RM 8 d m7 g → Mk y m7 → Fr m m7 → ∃ r g' m', P_X0_burnInterest_63 (fun x1 x2 s => P_X0_burnInterest_4 n1 x1 x2 s) y (nI i) (nI v) (nB (loS g (g 6 i) v)) = some (r, nB g') ∧ lc_bd (P_X4_more (nI (g 6 i)) (nI 1) (-nI v) m7) (fun s2 => lc_let (lc_ss s2 1 5 (s2 1 5 + nI v)) (fun s3 => if nI i = s3 0 3 then P_X4_burnInterest_133 (fun x1 s => P_X4_burnInterest_23 n2 x1 s) (nI i) (s3 0 4) (nI v) s3 else P_X4_burnInterest_133 (fun x1 s => P_X4_burnInterest_23 n2 x1 s) (nI i) (s3 0 4) (nI 0) s3)) = some m' ∧ RM 8 d m' g' ∧ Iv g' ∧ Mk r m' ∧ Fr m m' ∧ g' 4 = g 4 ∧ g' 0 0 = g 0 0 := by
      intro v y hv m7 hr7 hm7 hf7
      obtain ⟨b1, b2⟩ := x4_lo hr7 hb h8 hv
      have r5 := RM_lo hr7 hb8 v
      have i5 := Iv_lo hi hb v
      have w3 := r5.1.2.2.2.2.2.2.2.1
      rw [loS_0 g (g 6 i) v (show 7 ≠ 5 by omega)] at w3
      have w4 := r5.1.2.2.2.2.2.2.2.2
      rw [bE b1]
      simp only [lc_let]
      rw [b2]
      unfold P_X0_burnInterest_63 P_X4_burnInterest_133
      simp only [P_X0_burnInterest_82, lc_let, nB_at, q_0, q_1, q_2, q_3, q_4, q_5, q_6, q_7, q_8, q_10, q_12, q_14, q_20, q_47, q_50, q_99, q_100, q_107, q_120, q_792, nI_add, loS_0 g (g 6 i) v (show 7 ≠ 5 by omega)]
      have fa : ∀ w, W4 d w (loS g (g 6 i) v 0 8 + v) → ∃ r g' m', P_X0_burnInterest_4 n1 y (nI (i + 1)) (nB (gs (loS g (g 6 i) v) 0 8 (loS g (g 6 i) v 0 8 + v))) = some (r, nB g') ∧ P_X4_burnInterest_23 n2 (nI (i + 1)) (lc_ss (loM m7 g (g 6 i) v) 0 4 w) = some m' ∧ RM 8 d m' g' ∧ Iv g' ∧ Mk r m' ∧ Fr m m' ∧ g' 4 = g 4 ∧ g' 0 0 = g 0 0 := fun w hw => by
        have r6 := RM_w4 r5 (loS g (g 6 i) v 0 8 + v) w hw
        obtain ⟨r, g', m', p1, p2, p3, p4, p5, p6, p7, p8⟩ := ih (i + 1) y _ _ n1 n2 r6 (Iv_a i5 (by omega) _) (Mk_of hm7 (by rw [ss_off _ _ _ (by omega), loM_7 _ _ _ _ (by omega)])) (by rw [gs_i _ _ _ (by omega), loS_0 _ _ _ (by omega)]; omega) (by omega) (by omega)
        exact ⟨r, g', m', p1, p2, p3, p4, p5, (hf7.tr ((loM_fr _ _ _ _).s04 _)).tr p6, by rw [p7, gs_r _ _ _ (by omega), loS_r _ _ _ (by omega) (by omega)], by rw [p8, gs_i _ _ _ (by omega), loS_0 _ _ _ (by omega)]⟩
      have fb : ∀ w, W4 d w (loS g (g 6 i) v 0 8 + 0) → ∃ r g' m', P_X0_burnInterest_4 n1 y (nI (i + 1)) (nB (loS g (g 6 i) v)) = some (r, nB g') ∧ P_X4_burnInterest_23 n2 (nI (i + 1)) (lc_ss (loM m7 g (g 6 i) v) 0 4 w) = some m' ∧ RM 8 d m' g' ∧ Iv g' ∧ Mk r m' ∧ Fr m m' ∧ g' 4 = g 4 ∧ g' 0 0 = g 0 0 := fun w hw => by
        have r6 := RM_w4 r5 (loS g (g 6 i) v 0 8 + 0) w hw
        rw [Nat.add_zero, gs_self] at r6
        obtain ⟨r, g', m', p1, p2, p3, p4, p5, p6, p7, p8⟩ := ih (i + 1) y _ _ n1 n2 r6 i5 (Mk_of hm7 (by rw [ss_off _ _ _ (by omega), loM_7 _ _ _ _ (by omega)])) (by rw [loS_0 _ _ _ (by omega)]; omega) (by omega) (by omega)
        exact ⟨r, g', m', p1, p2, p3, p4, p5, (hf7.tr ((loM_fr _ _ _ _).s04 _)).tr p6, by rw [p7, loS_r _ _ _ (by omega) (by omega)], by rw [p8, loS_0 _ _ _ (by omega)]⟩
      by_cases q : nI i = nI (g 0 7)
      · by_cases q2 : nI i = loM m7 g (g 6 i) v 0 3
        · rw [if_pos q, if_pos q2, nB_ss]
          exact fa _ (q_burned w4 v rfl)
        · rw [if_pos q, if_neg q2, nB_ss]
          exact fa _ (q_burnx (i := i) w3 (fun z => q2 (z.mp q)))
      · by_cases q2 : nI i = loM m7 g (g 6 i) v 0 3
        · rw [if_neg q, if_pos q2]
          exact fb _ (q_burnx (i := i) w3 (fun z => q (z.mpr q2)))
        · rw [if_neg q, if_neg q2]
          exact fb _ (q_burned w4 0 rfl)
    rw [P_X0_burnInterest_4, P_X4_burnInterest_23]
    simp only [q_0, q_1, q_2, q_3, q_4, q_5, q_6, q_7, q_8, q_10, q_12, q_14, q_20, q_47, q_50, q_99, q_100, q_107, q_120, q_792]
    have n7 : ∀ v, (nB (loS g (g 6 i) v)) 6 i = nI (g 6 i) := fun v => by rw [nB_at, loS_r _ _ _ (by omega) (by omega)]
    by_cases hq : itr g i ≤ g 2 (g 6 i)
    · have ha := x0_lose h8 hb hq
      simp (disch := omega) only [nI_ltI, nI_leI, nI_eq, q_okn, nI_clamp, nI_add, pk_mul, pk_sub, pk_div, q_nlt9, q_neg0, q_ne9, q_9ne, q_nle9, ↓bE (x0_interest hi hlt), ↓bE (x0_charge hi hb), ↓bE (x4_ol1 hr hi hlt), ↓bE (x4_interest hr hi hlt), ↓bE (x4_of1 hr hi hb), nB_at, rm_nl hr, Nat.not_le.mpr hlt, Nat.not_lt.mpr hq, hq, ↓reduceIte, q_ift, lc_let, P_X4_burnInterest_66, P_X4_burnInterest_88, P_X4_burnInterest_93, q_0, q_1, q_2, q_3, q_4, q_5, q_6, q_7, q_8, q_10, q_12, q_14, q_20, q_47, q_50, q_99, q_100, q_107, q_120, q_792, Nat.le_refl, nar0, nar1]
      rw [bE ha]
      by_cases hz : m 7 (g 6 i) = nI 0
      · rw [if_pos hz]
        exact step _ x hq _ (RM_off hr _ _ (by omega)) (Mk_keep hm _ ⟨fun _ => hz, fun _ => rfl⟩) ((Fr.rf m).s7 _ _)
      · rw [if_neg hz]
        exact step _ x hq _ (RM_off hr _ _ (by omega)) (Mk_keep hm _ ⟨fun z => absurd z (by decide +kernel), fun z => absurd z hz⟩) ((Fr.rf m).s7 _ _)
    · have ha := x0_lose h8 hb (Nat.le_refl (g 2 (g 6 i)))
      simp (disch := omega) only [nI_ltI, nI_leI, nI_eq, q_okn, nI_clamp, nI_add, pk_mul, pk_sub, pk_div, q_nlt9, q_neg0, q_ne9, q_9ne, q_nle9, ↓bE (x0_interest hi hlt), ↓bE (x0_charge hi hb), ↓bE (x4_ol1 hr hi hlt), ↓bE (x4_interest hr hi hlt), ↓bE (x4_of1 hr hi hb), nB_at, rm_nl hr, Nat.not_le.mpr hlt, Nat.not_le.mp hq, hq, ↓reduceIte, q_ift, lc_let, P_X4_burnInterest_66, P_X4_burnInterest_88, P_X4_burnInterest_93, q_0, q_1, q_2, q_3, q_4, q_5, q_6, q_7, q_8, q_10, q_12, q_14, q_20, q_47, q_50, q_99, q_100, q_107, q_120, q_792, nar0, nar1]
      rw [bE ha]
      have e1 : (nI 1 <<< (nB (loS g (g 6 i) (g 2 (g 6 i))) 6 i &&& 31)) = bit (g 6 i) := by rw [n7]; rfl
      have fin := step (g 2 (g 6 i)) (x ||| bit (g 6 i)) (Nat.le_refl _) _ (RM_off hr (g 6 i) (nI 1) (by omega)) (Mk_or hm hb8) ((Fr.rf m).s7 _ _)
      split
      · exact fin
      · exact fin
theorem q_burn (hr : RM 8 d m g) (hi : Iv g) : ∃ r g' m', P_X0_burnInterest (nB g) = some (r, nB g') ∧ P_X4_burnInterest m = some m' ∧ RM 8 d m' g' ∧ Iv g' ∧ Mk r m' ∧ Fr m m' ∧ g' 4 = g 4 ∧ g' 0 0 = g 0 0 := by
  have h12 := hi.2.1
  obtain ⟨m0, e1, r0, f0, z0⟩ := l_miss0 (d := d) (g := g) 8 0 m lc_FU (by omega) (q_FUn (by omega)) (fun b hb => by omega) hr
  have hm : Mk (nI 0) m0 := fun c hc => by
    rw [z0 c hc]
    exact ⟨fun _ => rfl, fun _ => by
      show (0 : Int32) &&& bit c = 0
      exact Int32.zero_and⟩
  obtain ⟨r, g', m', p1, p2, p3, p4, p5, p6, p7, p8⟩ := l_burn (g 0 1) 0 (nI 0) g m0 lc_FU lc_FU r0 hi hm (by omega) (q_FUn (by omega)) (q_FUn (by omega))
  exact ⟨r, g', m', p1, e1.trans p2, p3, p4, p5, f0.tr p6, p7, p8⟩
