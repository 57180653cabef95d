/-! ===== the pure claim: numbers ===== -/
theorem q_0 : (0 : Int32) = nI 0 := by decide +kernel
theorem q_1 : (1 : Int32) = nI 1 := by decide +kernel
theorem q_2 : (2 : Int32) = nI 2 := by decide +kernel
theorem q_3 : (3 : Int32) = nI 3 := by decide +kernel
theorem q_4 : (4 : Int32) = nI 4 := by decide +kernel
theorem q_5 : (5 : Int32) = nI 5 := by decide +kernel
theorem q_6 : (6 : Int32) = nI 6 := by decide +kernel
theorem q_7 : (7 : Int32) = nI 7 := by decide +kernel
theorem q_8 : (8 : Int32) = nI 8 := by decide +kernel
theorem q_10 : (10 : Int32) = nI 10 := by decide +kernel
theorem q_12 : (12 : Int32) = nI 12 := by decide +kernel
theorem q_14 : (14 : Int32) = nI 14 := by decide +kernel
theorem q_20 : (20 : Int32) = nI 20 := by decide +kernel
theorem q_50 : (50 : Int32) = nI 50 := by decide +kernel
theorem q_11 : (11 : Int32) = nI 11 := by decide +kernel
theorem q_13 : (13 : Int32) = nI 13 := by decide +kernel
theorem q_19 : (19 : Int32) = nI 19 := by decide +kernel
theorem q_26 : (26 : Int32) = nI 26 := by decide +kernel
theorem q_30 : (30 : Int32) = nI 30 := by decide +kernel
theorem q_31 : (31 : Int32) = nI 31 := by decide +kernel
theorem q_40 : (40 : Int32) = nI 40 := by decide +kernel
theorem q_51 : (51 : Int32) = nI 51 := by decide +kernel
theorem q_56 : (56 : Int32) = nI 56 := by decide +kernel
theorem q_60 : (60 : Int32) = nI 60 := by decide +kernel
theorem q_90 : (90 : Int32) = nI 90 := by decide +kernel
theorem q_9L : (9 : Int32) = nI 9 := by decide +kernel
theorem q_99 : (99 : Int32) = nI 99 := by decide +kernel
theorem q_100 : (100 : Int32) = nI 100 := by decide +kernel
theorem q_ift {α : Type} {c : Prop} [Decidable c] {x : Option α} (h : c) : lc_if c x = x := if_pos h
theorem q_ifT {α : Type} {i : Decidable True} (x : Option α) : @lc_if α True i x = x := if_pos trivial
theorem q_iff {α : Type} {c : Prop} [Decidable c] {x : Option α} (h : ¬ c) : lc_if c x = none := if_neg h
theorem q_bd {α β : Type} (a : α) (f : α → Option β) : lc_bd (some a) f = f a := rfl
theorem q_bd2 {α β γ : Type} (a : α) (b : β) (f : α → β → Option γ) : lc_bd2 (some (a, b)) f = f a b := rfl
theorem q_bd3 {α β γ δ : Type} (a : α) (b : β) (c : γ) (f : α → β → γ → Option δ) : lc_bd3 (some (a, b, c)) f = f a b c := rfl
theorem q_nbd {α β : Type} (f : α → Option β) : lc_bd none f = none := rfl
theorem q_nbd2 {α β γ : Type} (f : α → β → Option γ) : lc_bd2 none f = none := rfl
theorem bE {α β : Type} {x : Option α} {a : α} (h : x = some a) (f : α → Option β) : lc_bd x f = f a := by rw [h]; rfl
theorem bE2 {α β γ : Type} {x : Option (α × β)} {a : α} {b : β} (h : x = some (a, b)) (f : α → β → Option γ) : lc_bd2 x f = f a b := by rw [h]; rfl
theorem q_okn {n N : Nat} (h : n < 2 ^ 31) : lc_ok (nI n) N ↔ n < N := by
  unfold lc_ok
  rw [nI_clamp h]
  have := nI_pos h
  constructor
  · intro q
    exact Nat.not_le.mp (fun z => q (Or.inr z))
  · intro q z
    rcases z with z | z
    · exact this z
    · omega
theorem q_n9 : (-9 : Int32).toInt = -9 := by decide +kernel
theorem q_nlt9 {n : Nat} (h : n < 2 ^ 31) : (nI n < -9) = False := by
  rw [eq_iff_iff, iff_false, Int32.lt_iff_toInt_lt, nI_toInt h, q_n9]; omega
theorem q_nle9 {n : Nat} (h : n < 2 ^ 31) : (nI n ≤ -9) = False := by
  rw [eq_iff_iff, iff_false, Int32.le_iff_toInt_le, nI_toInt h, q_n9]; omega
theorem q_neg0 : ((-9 : Int32) < nI 0) = True := by decide +kernel
theorem q_ne9 {n : Nat} (h : n < 2 ^ 31) : (nI n = -9) = False := by
  rw [eq_iff_iff, iff_false]; intro q
  have := congrArg Int32.toInt q
  rw [nI_toInt h, q_n9] at this; omega
theorem q_9ne {n : Nat} (h : n < 2 ^ 31) : ((-9 : Int32) = nI n) = False := by
  rw [eq_iff_iff, iff_false]; intro q
  have := congrArg Int32.toInt q
  rw [nI_toInt h, q_n9] at this; omega
/-- an Int32 is a count, or below zero -/
theorem q_cases (x : Int32) : x < 0 ∨ ∃ n, n < 2 ^ 31 ∧ x = nI n := by
  by_cases h : x < 0
  · exact Or.inl h
  · exact Or.inr (nI_of h)
theorem q_lt {x : Int32} (h : x < 0) {n : Nat} (hn : n < 2 ^ 31) : x < nI n := by
  rw [Int32.lt_iff_toInt_lt] at h ⊢
  rw [nI_toInt hn]
  have : (0 : Int32).toInt = 0 := by decide +kernel
  omega
theorem q_nle {x : Int32} (h : x < 0) {n : Nat} (hn : n < 2 ^ 31) : ¬ nI n ≤ x := by
  rw [Int32.lt_iff_toInt_lt] at h
  rw [Int32.le_iff_toInt_le, nI_toInt hn]
  have : (0 : Int32).toInt = 0 := by decide +kernel
  omega
theorem q_nne {x : Int32} (h : x < 0) {n : Nat} (hn : n < 2 ^ 31) : x ≠ nI n := by
  intro q
  rw [q] at h
  exact nI_pos hn h
/-! ===== two-dimensional states of numbers ===== -/
def gs (g : Nat → Nat → Nat) (r i v : Nat) : Nat → Nat → Nat := va_up g r (va_up (g r) i v)
theorem gs_at (g : Nat → Nat → Nat) (r i v : Nat) : gs g r i v r i = v := by simp [gs, va_up]
theorem gs_r (g : Nat → Nat → Nat) {r r' : Nat} (i v : Nat) (h : r' ≠ r) : gs g r i v r' = g r' := by simp [gs, va_up, h]
theorem gs_i (g : Nat → Nat → Nat) (r : Nat) {i i' : Nat} (v : Nat) (h : i' ≠ i) : gs g r i v r i' = g r i' := by simp [gs, va_up, h]
theorem gs_if (g : Nat → Nat → Nat) (r i v i' : Nat) : gs g r i v r i' = if i' = i then v else g r i' := by simp [gs, va_up]
def nB (g : Nat → Nat → Nat) : lc_St := fun r i => nI (g r i)
theorem nB_at (g : Nat → Nat → Nat) (r i : Nat) : nB g r i = nI (g r i) := rfl
theorem nB_ss (g : Nat → Nat → Nat) (r i v : Nat) : lc_ss (nB g) r i (nI v) = nB (gs g r i v) := by
  funext a b
  by_cases h : a = r
  · subst h
    by_cases h2 : b = i
    · subst h2; simp [lc_ss, va_up, upd, nB, gs]
    · simp [lc_ss, va_up, upd, nB, gs, h2]
  · simp [lc_ss, va_up, nB, gs, h]
theorem nB_ex (b : lc_St) : ∃ g, b = nB g := by
  refine ⟨fun r i => (b r i).toBitVec.toNat, ?_⟩
  funext r i
  show b r i = Int32.ofNat _
  apply Int32.toBitVec_inj.mp
  simp
theorem ss_eq (m : lc_St) (r p : Nat) (w : Int32) : lc_ss m r p w r p = w := by simp [lc_ss, va_up, upd]
theorem ss_ne (m : lc_St) (r : Nat) {p q : Nat} (w : Int32) (h : q ≠ p) : lc_ss m r p w r q = m r q := by simp [lc_ss, va_up, upd, h]
theorem ss_off (m : lc_St) {r r' : Nat} (p : Nat) (w : Int32) (h : r' ≠ r) : lc_ss m r p w r' = m r' := by simp [lc_ss, va_up, h]
theorem q_FU : lc_FU = 1999 + 1 := rfl
theorem q_FUn {n : Nat} (h : n < 2000) : n < lc_FU := h
theorem q_let {α β : Type} (x : α) (f : α → β) : lc_let x f = f x := of_eq_true (eq_self _)
