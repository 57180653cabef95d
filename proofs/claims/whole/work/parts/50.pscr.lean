/-! ===== the pure claim: the commands of a script ===== -/
variable {d : Option Int32} {m : lc_St} {g : Nat → Nat → Nat}
theorem q_1000 : (1000 : Int32) = nI 1000 := by decide +kernel
theorem q_10000 : (10000 : Int32) = nI 10000 := by decide +kernel
theorem units1 {u : Nat} (h1 : 1 ≤ u) (h2 : u ≤ 99) : P_X3_isUnits (nI u) = some (nI 1) := by
  refine x3_units (nI u) ?_ (by omega)
  rw [x4_in 1 99 u (by omega) (by omega) (by omega), if_pos ⟨h1, h2⟩]
theorem units0 : P_X3_isUnits (nI 0) = some (nI 0) := by
  refine x3_units (nI 0) ?_ (by omega)
  rw [x4_in 1 99 0 (by omega) (by omega) (by omega), if_neg (by omega)]
/-- what a command gives, on both sides -/
def Sx (d : Option Int32) (m : lc_St) (X Y : Option (Int32 × lc_St)) : Prop := ∃ ok g' m', ok ≤ 1 ∧ X = some (nI ok, nB g') ∧ Y = some (nI ok, m') ∧ Fw m m' ∧ (ok = 1 → RM 8 d m' g' ∧ Iv g')
theorem Sx.no {X Y : Option (Int32 × lc_St)} {g' : Nat → Nat → Nat} {m' : lc_St} (hX : X = some (nI 0, nB g')) (hY : Y = some (nI 0, m')) (hf : Fw m m') : Sx d m X Y := ⟨0, g', m', by omega, hX, hY, hf, fun h => absurd h (by omega)⟩
theorem Sx.yes {X Y : Option (Int32 × lc_St)} {g' : Nat → Nat → Nat} {m' : lc_St} (hX : X = some (nI 1, nB g')) (hY : Y = some (nI 1, m')) (hf : Fw m m') (hr : RM 8 d m' g') (hi : Iv g') : Sx d m X Y := ⟨1, g', m', by omega, hX, hY, hf, fun _ => ⟨hr, hi⟩⟩
theorem x0_canLendn (hi : Iv g) {a b : Nat} {w : Int32} (ha : a < 2 ^ 31) (hb : b < 2 ^ 31) (h : ¬ (a < g 0 0 ∧ b < g 0 0 ∧ a ≠ b)) : P_X0_canLend (nI a) (nI b) w (nB g) = some (nI 0) := by
  have a1 := x0_has hi ha
  have b1 := x0_has hi hb
  unfold P_X0_canLend
  simp only [q_0, q_1, q_2, q_3, q_4, q_5, q_6, q_7, q_8, q_10, q_12, q_14, q_20, q_47, q_50, q_99, q_100, q_107, q_120, q_792]
  by_cases h1 : a < g 0 0
  · by_cases h2 : b < g 0 0
    · have h3 : a = b := by
        by_cases q : a = b
        · exact q
        · exact absurd ⟨h1, h2, q⟩ h
      rw [if_pos h1] at a1
      rw [if_pos h2] at b1
      rw [bE a1, if_neg (by decide +kernel), bE b1, if_neg (by decide +kernel), if_pos (by rw [h3])]
    · rw [if_pos h1] at a1
      rw [if_neg h2] at b1
      rw [bE a1, if_neg (by decide +kernel), bE b1, if_pos rfl]
  · rw [if_neg h1] at a1
    rw [bE a1, if_pos rfl]
theorem x0_makeLoann (hi : Iv g) {a b : Nat} {w v : Int32} (ha : a < 2 ^ 31) (hb : b < 2 ^ 31) (h : ¬ (a < g 0 0 ∧ b < g 0 0 ∧ a ≠ b)) : P_X0_makeLoan (nI a) (nI b) w v (nB g) = some (-9, nB g) := by
  unfold P_X0_makeLoan
  rw [bE (x0_canLendn hi ha hb h)]
  split
  · rfl
  · rw [if_pos n00]
theorem x4_whyLendn (hr : RM 8 d m g) (hi : Iv g) {a b u : Nat} {w : Int32} (ha : a < 2 ^ 31) (hb : b < 2 ^ 31) (hu : u < 100) (h : ¬ (a < g 0 0 ∧ b < g 0 0 ∧ a ≠ b ∧ 1 ≤ u)) : ∃ k, 0 < k ∧ k < 4 ∧ P_X4_whyNoLend (nI a) (nI b) (nI u) w m = some (nI k) := by
  have a1 := x4_isCell hr hi ha
  have b1 := x4_isCell hr hi hb
  unfold P_X4_whyNoLend
  simp only [q_0, q_1, q_2, q_3, q_4, q_5, q_6, q_7, q_8, q_10, q_12, q_14, q_20, q_47, q_50, q_99, q_100, q_107, q_120, q_792]
  by_cases h1 : a < g 0 0
  · rw [if_pos h1] at a1
    by_cases h2 : b < g 0 0
    · rw [if_pos h2] at b1
      by_cases h3 : a = b
      · refine ⟨2, by omega, by omega, ?_⟩
        rw [bE a1, if_neg (by decide +kernel), bE b1, if_neg (by decide +kernel), if_pos (by rw [h3])]
      · refine ⟨2, by omega, by omega, ?_⟩
        have hu0 : u = 0 := by
          by_cases q : u = 0
          · exact q
          · exact absurd ⟨h1, h2, h3, by omega⟩ h
        subst hu0
        have e := x4_in 1 99 0 (by omega) (by omega) (by omega)
        rw [if_neg (by omega)] at e
        rw [bE a1, if_neg (by decide +kernel), bE b1, if_neg (by decide +kernel), if_neg (by rw [nI_eq ha hb]; exact h3), bE e, if_pos rfl]
    · rw [if_neg h2] at b1
      refine ⟨1, by omega, by omega, ?_⟩
      rw [bE a1, if_neg (by decide +kernel), bE b1, if_pos rfl]
  · rw [if_neg h1] at a1
    refine ⟨1, by omega, by omega, ?_⟩
    rw [bE a1, if_pos rfl]
theorem x4_isLentn {a b c : Int32} {k : Nat} (hk : 0 < k) (hk4 : k < 4) (h : P_X4_whyNoLend a b c 10 m = some (nI k)) : P_X4_isLent a b c m = some (nI 0, m) := by
  unfold P_X4_isLent P_X4_isLent_17
  rw [bE h, if_neg (nI_ne0 hk (by omega)), if_pos rfl, q_ift (Or.inl rfl)]; rfl
theorem s_lent (hr : RM 8 d m g) (hi : Iv g) {a b u : Nat} (ha9 : a < 10) (hb9 : b < 10) (hu : u < 100) : Sx d m (lc_bd (P_X3_isUnits (nI u)) (fun r106 => if r106 = nI 0 then some (nI 0, nB g) else lc_bd2 (P_X0_makeLoan (nI a) (nI b) (nI u) (nI 10) (nB g)) (fun r119 s1 => if r119 = -9 then some (nI 0, s1) else some (nI 1, s1)))) (P_X4_isLent (nI a) (nI b) (nI u) m) := by
  by_cases h : a < g 0 0 ∧ b < g 0 0 ∧ a ≠ b ∧ 1 ≤ u
  · obtain ⟨ha, hb, hab, hu1⟩ := h
    have hL := x0_makeLoan (r := 10) hi ha hb hab (show u ≤ 1000 by omega)
    have hwhy := x4_whyLend (r := 10) hr hi ha hb hab hu1 (by omega) (by omega)
    by_cases hG : clG g a b u
    · rw [if_pos hG] at hL hwhy
      obtain ⟨m', q1, q2, q3, q4⟩ := x4_makeLoan (r := 10) hr hi ha hb hab hu1 (show u ≤ 99 by omega) (by omega) hG
      have := arr_le u a b
      refine Sx.yes (g' := lendS g a b u 10) (m' := m') ?_ ?_ q4.w q2 q3
      · rw [bE (units1 hu1 (by omega)), if_neg (by decide +kernel), bE2 hL, if_neg (by rw [q_ne9 (by omega)]; exact not_false)]
      · unfold P_X4_isLent P_X4_isLent_17
        have hw2 : P_X4_whyNoLend (nI a) (nI b) (nI u) 10 m = some (nI 0) := hwhy
        have q12 : P_X4_makeLoan (nI a) (nI b) (nI u) 10 m = some (nI (arr u a b), m') := q1
        rw [bE hw2, if_pos n00, if_neg (by decide +kernel), bE2 q12, q_ift (Or.inr rfl)]; rfl
    · rw [if_neg hG] at hL hwhy
      refine Sx.no (g' := g) (m' := m) ?_ (x4_isLentn (k := 3) (by omega) (by omega) hwhy) (Fw.rf m)
      rw [bE (units1 hu1 (by omega)), if_neg (by decide +kernel), bE2 hL, if_pos rfl]
  · obtain ⟨k, hk, hk4, e⟩ := x4_whyLendn (w := nI 10) hr hi (a := a) (b := b) (by omega) (by omega) hu h
    refine Sx.no (g' := g) (m' := m) ?_ (x4_isLentn hk hk4 e) (Fw.rf m)
    by_cases hu1 : 1 ≤ u
    · rw [bE (units1 hu1 (by omega)), if_neg (by decide +kernel), bE2 (x0_makeLoann hi (by omega) (by omega) (fun z => h ⟨z.1, z.2.1, z.2.2, hu1⟩)), if_pos rfl]
    · have : u = 0 := by omega
      subst this
      rw [bE units0, if_pos rfl]
theorem s_repaid (hr : RM 8 d m g) (hi : Iv g) {i u : Nat} (hi9 : i < 100) (hu : u < 100) : Sx d m (lc_bd (P_X3_isUnits (nI u)) (fun r135 => if r135 = nI 0 then some (nI 0, nB g) else lc_bd2 (P_X0_payBack (nI i) (nI u) (nB g)) (fun r151 s2 => if r151 = -9 then some (nI 0, s2) else some (nI 1, s2)))) (P_X4_isRepaid (nI i) (nI u) m) := by
  have non : ∀ k, 0 < k → k < 4 → P_X4_whyNoRepay (nI i) (nI u) m = some (nI k) → P_X4_isRepaid (nI i) (nI u) m = some (nI 0, m) := fun k hk hk4 e => by
    unfold P_X4_isRepaid P_X4_isRepaid_14
    rw [bE e, if_neg (nI_ne0 hk (by omega)), if_pos rfl, q_ift (Or.inl rfl)]; rfl
  have a2 := x4_isLoan hr hi (show i < 2 ^ 31 by omega)
  by_cases hu1 : 1 ≤ u
  · by_cases hl : i < g 0 1
    · have hwhy := x4_whyPay hr hi hl hu1 (show u ≤ 99 by omega)
      by_cases hG : cpG g i u
      · rw [if_pos hG] at hwhy
        obtain ⟨r, g', m', q1, q2, q3, q4, q5, q6⟩ := q_pay hr hi hl (show u ≤ 99 by omega) hG
        refine Sx.yes (g' := g') (m' := m') ?_ ?_ q5.w q3 q4
        · rw [bE (units1 hu1 (by omega)), if_neg (by decide +kernel), bE2 q1, if_neg (by rw [q_ne9 (by omega)]; exact not_false)]
        · unfold P_X4_isRepaid P_X4_isRepaid_14
          rw [bE hwhy, if_pos n00, if_neg (by decide +kernel), bE2 q2, q_ift (Or.inr rfl)]; rfl
      · rw [if_neg hG] at hwhy
        refine Sx.no (g' := g) (m' := m) ?_ (non 3 (by omega) (by omega) hwhy) (Fw.rf m)
        rw [bE (units1 hu1 (by omega)), if_neg (by decide +kernel), bE2 (q_payn hi (by omega) (by omega) (fun z => hG z.2)), if_pos rfl]
    · rw [if_neg hl] at a2
      refine Sx.no (g' := g) (m' := m) ?_ (non 1 (by omega) (by omega) ?_) (Fw.rf m)
      · rw [bE (units1 hu1 (by omega)), if_neg (by decide +kernel), bE2 (q_payn hi (by omega) (by omega) (fun z => hl z.1)), if_pos rfl]
      · unfold P_X4_whyNoRepay; rw [bE a2, if_pos n00]; rfl
  · have : u = 0 := by omega
    subst this
    have e := x4_in 1 99 0 (by omega) (by omega) (by omega)
    rw [if_neg (by omega)] at e
    have e2 : P_X4_in (nI 0) 1 99 = some (nI 0) := e
    refine Sx.no (g' := g) (m' := m) (by rw [bE units0, if_pos rfl]) ?_ (Fw.rf m)
    by_cases hl : i < g 0 1
    · rw [if_pos hl] at a2
      refine non 2 (by omega) (by omega) ?_
      unfold P_X4_whyNoRepay; rw [bE a2, if_neg (by decide +kernel), bE e2, if_pos n00]; rfl
    · rw [if_neg hl] at a2
      refine non 1 (by omega) (by omega) ?_
      unfold P_X4_whyNoRepay; rw [bE a2, if_pos n00]; rfl
theorem s_charged (hr : RM 8 d m g) (hi : Iv g) {u : Nat} (hu : u < 100) : Sx d m (lc_bd (P_X3_isUnits (nI u)) (fun r172 => if r172 = nI 0 then some (nI 0, nB g) else lc_bd2 (P_X0_fillEach (nI u) (nB g)) (fun r181 s3 => if r181 = -9 then some (nI 0, s3) else some (nI 1, s3)))) (P_X4_isCharged (nI u) m) := by
  by_cases hu1 : 1 ≤ u
  · obtain ⟨r, g', m', p1, p2, p3, p4, p5, p6, p7, p8⟩ := q_fill hr hi (show u ≤ 99 by omega)
    refine Sx.yes (g' := g') (m' := m') ?_ ?_ p5.w p3 p4
    · rw [bE (units1 hu1 (by omega)), if_neg (by decide +kernel), bE2 p1, if_neg (by rw [q_ne9 (by omega)]; exact not_false)]
    · unfold P_X4_isCharged P_X4_isCharged_10
      rw [if_neg (nI_nle hu1 (by omega)), bE2 p2, if_neg (nI_nle hu1 (by omega))]; rfl
  · have : u = 0 := by omega
    subst this
    refine Sx.no (g' := g) (m' := m) (by rw [bE units0, if_pos rfl]) ?_ (Fw.rf m)
    unfold P_X4_isCharged P_X4_isCharged_10
    rw [if_pos le00, if_pos le00]; rfl
theorem s_drawn (hr : RM 8 d m g) (hi : Iv g) {u : Nat} (hu : u < 100) : Sx d m (lc_bd (P_X3_isUnits (nI u)) (fun r202 => if r202 = nI 0 then some (nI 0, nB g) else lc_bd2 (P_X0_giveEach (nI u) (nB g)) (fun r211 s4 => if r211 ≤ nI 0 then some (nI 0, s4) else some (nI 1, s4)))) (if u ≤ 0 then some (nI 0, m) else lc_bd2 (P_X4_drawn (nI u) m) (fun r137 s4 => if r137 ≤ nI 0 then some (nI 0, s4) else some (nI 1, s4))) := by
  by_cases hu1 : 1 ≤ u
  · obtain ⟨r, g', m', p1, p2, p3, p4, p5, p6⟩ := q_drawn hr hi (show u ≤ 99 by omega)
    by_cases q : r = 0
    · subst q
      refine Sx.no (g' := g') (m' := m') ?_ ?_ p3
      · rw [bE (units1 hu1 (by omega)), if_neg (by decide +kernel), bE2 p1, if_pos (by decide +kernel)]
      · rw [if_neg (by omega), bE2 p2, if_pos (by decide +kernel)]
    · obtain ⟨p7, p8, -⟩ := p5 q
      refine Sx.yes (g' := g') (m' := m') ?_ ?_ p3 p7 p8
      · rw [bE (units1 hu1 (by omega)), if_neg (by decide +kernel), bE2 p1, if_neg (by rw [nI_leI (by omega) (by omega)]; omega)]
      · rw [if_neg (by omega), bE2 p2, if_neg (by rw [nI_leI (by omega) (by omega)]; omega)]
  · have : u = 0 := by omega
    subst this
    refine Sx.no (g' := g) (m' := m) (by rw [bE units0, if_pos rfl]) ?_ (Fw.rf m)
    rw [if_pos (by omega)]
theorem s_passed (hr : RM 8 d m g) (hi : Iv g) {u : Nat} (hu : u < 100) : Sx d m (lc_bd (P_X3_isWithin (nI u) (nI 1) (nI 50)) (fun r233 => if r233 = nI 0 then some (nI 0, nB g) else lc_bd2 (P_X0_letRoundsGoBy (nI u) (nB g)) (fun r242 s5 => if r242 = -9 then some (nI 0, s5) else some (nI 1, s5)))) (lc_bd2 (P_X4_isPassed (nI u) m) (fun r158 s5 => if r158 = nI 0 then some (nI 0, s5) else some (nI 1, s5))) := by
  have e := x4_in 1 50 u (by omega) (by omega) (by omega)
  by_cases h : 1 ≤ u ∧ u ≤ 50
  · rw [if_pos h] at e
    have e1 : P_X3_isWithin (nI u) (nI 1) (nI 50) = some (nI 1) := e
    have e2 : P_X4_in (nI u) 1 50 = some (nI 1) := e
    obtain ⟨r, g', m', p1, p2, p3, p4, p5, p6, p7⟩ := q_rounds hr hi (show u ≤ 100 by omega)
    have hP : P_X4_isPassed (nI u) m = some (nI 1, m') := by
      unfold P_X4_isPassed P_X4_isPassed_18
      rw [bE e2, if_neg (by decide +kernel), bE2 p2, q_ift (show nI 1 = (0 : Int32) ∨ nI 1 = (1 : Int32) from Or.inr rfl)]
    refine Sx.yes (g' := g') (m' := m') ?_ ?_ p5.w p3 p4
    · rw [bE e1, if_neg (by decide +kernel), bE2 p1, if_neg (by rw [q_ne9 (by omega)]; exact not_false)]
    · rw [bE2 hP, if_neg (by decide +kernel)]
  · rw [if_neg h] at e
    have e1 : P_X3_isWithin (nI u) (nI 1) (nI 50) = some (nI 0) := e
    have e2 : P_X4_in (nI u) 1 50 = some (nI 0) := e
    obtain ⟨r, g', m', p1, p2, p3, p4, p5, p6, p7⟩ := q_rounds hr hi (show 0 ≤ 100 by omega)
    have p2' : P_X4_rounds 0 m = some (nI r, m') := p2
    have hP : P_X4_isPassed (nI u) m = some (nI 0, m') := by
      unfold P_X4_isPassed P_X4_isPassed_18
      rw [bE e2, if_pos n00, bE2 p2', q_ift (Or.inl n00)]
    refine Sx.no (g' := g) (m' := m') (by rw [bE e1, if_pos rfl]) ?_ p5.w
    rw [bE2 hP, if_pos rfl]
