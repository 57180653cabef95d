/-! ===== the pure claim: one write ===== -/
variable {e : Nat} {d : Option Int32} {m : lc_St} {g : Nat → Nat → Nat}
theorem RM_c1 (hr : RM e d m g) {c : Nat} (hc : c < 8) (v : Nat) : RM e d (lc_ss m 1 (7 + 5 * c + 1) (nI v)) (gs g 2 c v) := by
  obtain ⟨⟨a0, a1, a2, a3, a4, a5, a6, a7, a8⟩, hcc, hl⟩ := hr
  refine ⟨⟨by simp (disch := omega) only [ss_eq, ss_ne, ss_off, gs_at, gs_r, gs_i, a0], by simp (disch := omega) only [ss_eq, ss_ne, ss_off, gs_at, gs_r, gs_i, a1], by simp (disch := omega) only [ss_eq, ss_ne, ss_off, gs_at, gs_r, gs_i, a2], by simp (disch := omega) only [ss_eq, ss_ne, ss_off, gs_at, gs_r, gs_i, a3], by simp (disch := omega) only [ss_eq, ss_ne, ss_off, gs_at, gs_r, gs_i, a4], by simp (disch := omega) only [ss_eq, ss_ne, ss_off, gs_at, gs_r, gs_i, a5], by simp (disch := omega) only [ss_eq, ss_ne, ss_off, gs_at, gs_r, gs_i, a6], by simp (disch := omega) only [ss_eq, ss_ne, ss_off, gs_at, gs_r, gs_i, a7], by simp (disch := omega) only [ss_eq, ss_ne, ss_off, gs_at, gs_r, gs_i, a8]⟩, fun x hx => ?_, fun j hj => ?_⟩
  · replace hx : x < g 0 0 := by simpa (disch := omega) only [gs_r, gs_i] using hx
    obtain ⟨b0, b1, b2, b3, b4⟩ := hcc x hx
    by_cases hxc : x = c
    · subst hxc; exact ⟨by simp (disch := omega) only [ss_eq, ss_ne, ss_off, gs_at, gs_r, gs_i, b0], by simp (disch := omega) only [ss_eq, ss_ne, ss_off, gs_at, gs_r, gs_i, b1], by simp (disch := omega) only [ss_eq, ss_ne, ss_off, gs_at, gs_r, gs_i, b2], by simp (disch := omega) only [ss_eq, ss_ne, ss_off, gs_at, gs_r, gs_i, b3], fun z => by simp (disch := omega) only [ss_eq, ss_ne, ss_off, gs_at, gs_r, gs_i, b4 z]⟩
    · exact ⟨by simp (disch := omega) only [ss_eq, ss_ne, ss_off, gs_at, gs_r, gs_i, b0], by simp (disch := omega) only [ss_eq, ss_ne, ss_off, gs_at, gs_r, gs_i, b1], by simp (disch := omega) only [ss_eq, ss_ne, ss_off, gs_at, gs_r, gs_i, b2], by simp (disch := omega) only [ss_eq, ss_ne, ss_off, gs_at, gs_r, gs_i, b3], fun z => by simp (disch := omega) only [ss_eq, ss_ne, ss_off, gs_at, gs_r, gs_i, b4 z]⟩
  · replace hj : j < g 0 1 := by simpa (disch := omega) only [gs_r, gs_i] using hj
    obtain ⟨b0, b1, b2, b3, b4⟩ := hl j hj
    exact ⟨by simp (disch := omega) only [ss_eq, ss_ne, ss_off, gs_at, gs_r, gs_i, b0], by simp (disch := omega) only [ss_eq, ss_ne, ss_off, gs_at, gs_r, gs_i, b1], by simp (disch := omega) only [ss_eq, ss_ne, ss_off, gs_at, gs_r, gs_i, b2], by simp (disch := omega) only [ss_eq, ss_ne, ss_off, gs_at, gs_r, gs_i, b3], by simp (disch := omega) only [ss_eq, ss_ne, ss_off, gs_at, gs_r, gs_i, b4]⟩
theorem RM_c2 (hr : RM e d m g) {c : Nat} (hc : c < 8) (v : Nat) : RM e d (lc_ss m 1 (7 + 5 * c + 2) (nI v)) (gs g 3 c v) := by
  obtain ⟨⟨a0, a1, a2, a3, a4, a5, a6, a7, a8⟩, hcc, hl⟩ := hr
  refine ⟨⟨by simp (disch := omega) only [ss_eq, ss_ne, ss_off, gs_at, gs_r, gs_i, a0], by simp (disch := omega) only [ss_eq, ss_ne, ss_off, gs_at, gs_r, gs_i, a1], by simp (disch := omega) only [ss_eq, ss_ne, ss_off, gs_at, gs_r, gs_i, a2], by simp (disch := omega) only [ss_eq, ss_ne, ss_off, gs_at, gs_r, gs_i, a3], by simp (disch := omega) only [ss_eq, ss_ne, ss_off, gs_at, gs_r, gs_i, a4], by simp (disch := omega) only [ss_eq, ss_ne, ss_off, gs_at, gs_r, gs_i, a5], by simp (disch := omega) only [ss_eq, ss_ne, ss_off, gs_at, gs_r, gs_i, a6], by simp (disch := omega) only [ss_eq, ss_ne, ss_off, gs_at, gs_r, gs_i, a7], by simp (disch := omega) only [ss_eq, ss_ne, ss_off, gs_at, gs_r, gs_i, a8]⟩, fun x hx => ?_, fun j hj => ?_⟩
  · replace hx : x < g 0 0 := by simpa (disch := omega) only [gs_r, gs_i] using hx
    obtain ⟨b0, b1, b2, b3, b4⟩ := hcc x hx
    by_cases hxc : x = c
    · subst hxc; exact ⟨by simp (disch := omega) only [ss_eq, ss_ne, ss_off, gs_at, gs_r, gs_i, b0], by simp (disch := omega) only [ss_eq, ss_ne, ss_off, gs_at, gs_r, gs_i, b1], by simp (disch := omega) only [ss_eq, ss_ne, ss_off, gs_at, gs_r, gs_i, b2], by simp (disch := omega) only [ss_eq, ss_ne, ss_off, gs_at, gs_r, gs_i, b3], fun z => by simp (disch := omega) only [ss_eq, ss_ne, ss_off, gs_at, gs_r, gs_i, b4 z]⟩
    · exact ⟨by simp (disch := omega) only [ss_eq, ss_ne, ss_off, gs_at, gs_r, gs_i, b0], by simp (disch := omega) only [ss_eq, ss_ne, ss_off, gs_at, gs_r, gs_i, b1], by simp (disch := omega) only [ss_eq, ss_ne, ss_off, gs_at, gs_r, gs_i, b2], by simp (disch := omega) only [ss_eq, ss_ne, ss_off, gs_at, gs_r, gs_i, b3], fun z => by simp (disch := omega) only [ss_eq, ss_ne, ss_off, gs_at, gs_r, gs_i, b4 z]⟩
  · replace hj : j < g 0 1 := by simpa (disch := omega) only [gs_r, gs_i] using hj
    obtain ⟨b0, b1, b2, b3, b4⟩ := hl j hj
    exact ⟨by simp (disch := omega) only [ss_eq, ss_ne, ss_off, gs_at, gs_r, gs_i, b0], by simp (disch := omega) only [ss_eq, ss_ne, ss_off, gs_at, gs_r, gs_i, b1], by simp (disch := omega) only [ss_eq, ss_ne, ss_off, gs_at, gs_r, gs_i, b2], by simp (disch := omega) only [ss_eq, ss_ne, ss_off, gs_at, gs_r, gs_i, b3], by simp (disch := omega) only [ss_eq, ss_ne, ss_off, gs_at, gs_r, gs_i, b4]⟩
theorem RM_c3 (hr : RM e d m g) {c : Nat} (hc : c < 8) (v : Nat) (hf : c ≠ e → m 1 (7 + 5 * c + 4) = nI (if v < 3 then 0 else 1)) : RM e d (lc_ss m 1 (7 + 5 * c + 3) (nI v)) (gs g 4 c v) := by
  obtain ⟨⟨a0, a1, a2, a3, a4, a5, a6, a7, a8⟩, hcc, hl⟩ := hr
  refine ⟨⟨by simp (disch := omega) only [ss_eq, ss_ne, ss_off, gs_at, gs_r, gs_i, a0], by simp (disch := omega) only [ss_eq, ss_ne, ss_off, gs_at, gs_r, gs_i, a1], by simp (disch := omega) only [ss_eq, ss_ne, ss_off, gs_at, gs_r, gs_i, a2], by simp (disch := omega) only [ss_eq, ss_ne, ss_off, gs_at, gs_r, gs_i, a3], by simp (disch := omega) only [ss_eq, ss_ne, ss_off, gs_at, gs_r, gs_i, a4], by simp (disch := omega) only [ss_eq, ss_ne, ss_off, gs_at, gs_r, gs_i, a5], by simp (disch := omega) only [ss_eq, ss_ne, ss_off, gs_at, gs_r, gs_i, a6], by simp (disch := omega) only [ss_eq, ss_ne, ss_off, gs_at, gs_r, gs_i, a7], by simp (disch := omega) only [ss_eq, ss_ne, ss_off, gs_at, gs_r, gs_i, a8]⟩, fun x hx => ?_, fun j hj => ?_⟩
  · replace hx : x < g 0 0 := by simpa (disch := omega) only [gs_r, gs_i] using hx
    obtain ⟨b0, b1, b2, b3, b4⟩ := hcc x hx
    by_cases hxc : x = c
    · subst hxc; exact ⟨by simp (disch := omega) only [ss_eq, ss_ne, ss_off, gs_at, gs_r, gs_i, b0], by simp (disch := omega) only [ss_eq, ss_ne, ss_off, gs_at, gs_r, gs_i, b1], by simp (disch := omega) only [ss_eq, ss_ne, ss_off, gs_at, gs_r, gs_i, b2], by simp (disch := omega) only [ss_eq, ss_ne, ss_off, gs_at, gs_r, gs_i, b3], fun z => by simp (disch := omega) only [ss_eq, ss_ne, ss_off, gs_at, gs_r, gs_i, hf z]⟩
    · exact ⟨by simp (disch := omega) only [ss_eq, ss_ne, ss_off, gs_at, gs_r, gs_i, b0], by simp (disch := omega) only [ss_eq, ss_ne, ss_off, gs_at, gs_r, gs_i, b1], by simp (disch := omega) only [ss_eq, ss_ne, ss_off, gs_at, gs_r, gs_i, b2], by simp (disch := omega) only [ss_eq, ss_ne, ss_off, gs_at, gs_r, gs_i, b3], fun z => by simp (disch := omega) only [ss_eq, ss_ne, ss_off, gs_at, gs_r, gs_i, b4 z]⟩
  · replace hj : j < g 0 1 := by simpa (disch := omega) only [gs_r, gs_i] using hj
    obtain ⟨b0, b1, b2, b3, b4⟩ := hl j hj
    exact ⟨by simp (disch := omega) only [ss_eq, ss_ne, ss_off, gs_at, gs_r, gs_i, b0], by simp (disch := omega) only [ss_eq, ss_ne, ss_off, gs_at, gs_r, gs_i, b1], by simp (disch := omega) only [ss_eq, ss_ne, ss_off, gs_at, gs_r, gs_i, b2], by simp (disch := omega) only [ss_eq, ss_ne, ss_off, gs_at, gs_r, gs_i, b3], by simp (disch := omega) only [ss_eq, ss_ne, ss_off, gs_at, gs_r, gs_i, b4]⟩
theorem RM_flag {c : Nat} (hr : RM c d m g) (hc : c < 8) (h3 : g 4 c = 3) : RM 8 d (lc_ss m 1 (7 + 5 * c + 4) (nI 1)) g := by
  obtain ⟨⟨a0, a1, a2, a3, a4, a5, a6, a7, a8⟩, hcc, hl⟩ := hr
  refine ⟨⟨by simp (disch := omega) only [ss_eq, ss_ne, ss_off, gs_at, gs_r, gs_i, a0], by simp (disch := omega) only [ss_eq, ss_ne, ss_off, gs_at, gs_r, gs_i, a1], by simp (disch := omega) only [ss_eq, ss_ne, ss_off, gs_at, gs_r, gs_i, a2], by simp (disch := omega) only [ss_eq, ss_ne, ss_off, gs_at, gs_r, gs_i, a3], by simp (disch := omega) only [ss_eq, ss_ne, ss_off, gs_at, gs_r, gs_i, a4], by simp (disch := omega) only [ss_eq, ss_ne, ss_off, gs_at, gs_r, gs_i, a5], by simp (disch := omega) only [ss_eq, ss_ne, ss_off, gs_at, gs_r, gs_i, a6], by simp (disch := omega) only [ss_eq, ss_ne, ss_off, gs_at, gs_r, gs_i, a7], by simp (disch := omega) only [ss_eq, ss_ne, ss_off, gs_at, gs_r, gs_i, a8]⟩, fun x hx => ?_, fun j hj => ?_⟩
  · obtain ⟨b0, b1, b2, b3, b4⟩ := hcc x hx
    by_cases hxc : x = c
    · subst hxc; exact ⟨by simp (disch := omega) only [ss_eq, ss_ne, ss_off, gs_at, gs_r, gs_i, b0], by simp (disch := omega) only [ss_eq, ss_ne, ss_off, gs_at, gs_r, gs_i, b1], by simp (disch := omega) only [ss_eq, ss_ne, ss_off, gs_at, gs_r, gs_i, b2], by simp (disch := omega) only [ss_eq, ss_ne, ss_off, gs_at, gs_r, gs_i, b3], fun z => by rw [ss_eq, h3]; rfl⟩
    · exact ⟨by simp (disch := omega) only [ss_eq, ss_ne, ss_off, gs_at, gs_r, gs_i, b0], by simp (disch := omega) only [ss_eq, ss_ne, ss_off, gs_at, gs_r, gs_i, b1], by simp (disch := omega) only [ss_eq, ss_ne, ss_off, gs_at, gs_r, gs_i, b2], by simp (disch := omega) only [ss_eq, ss_ne, ss_off, gs_at, gs_r, gs_i, b3], fun z => by simp (disch := omega) only [ss_eq, ss_ne, ss_off, gs_at, gs_r, gs_i, b4 hxc]⟩
  · obtain ⟨b0, b1, b2, b3, b4⟩ := hl j hj
    exact ⟨by simp (disch := omega) only [ss_eq, ss_ne, ss_off, gs_at, gs_r, gs_i, b0], by simp (disch := omega) only [ss_eq, ss_ne, ss_off, gs_at, gs_r, gs_i, b1], by simp (disch := omega) only [ss_eq, ss_ne, ss_off, gs_at, gs_r, gs_i, b2], by simp (disch := omega) only [ss_eq, ss_ne, ss_off, gs_at, gs_r, gs_i, b3], by simp (disch := omega) only [ss_eq, ss_ne, ss_off, gs_at, gs_r, gs_i, b4]⟩
theorem RM_ex (hr : RM 8 d m g) (hi : g 0 0 ≤ 8) (c : Nat) : RM c d m g := ⟨hr.1, fun x hx => ⟨(hr.2.1 x hx).1, (hr.2.1 x hx).2.1, (hr.2.1 x hx).2.2.1, (hr.2.1 x hx).2.2.2.1, fun _ => (hr.2.1 x hx).2.2.2.2 (by omega)⟩, hr.2.2⟩
theorem RM_a0 (hr : RM e d m g) (v : Nat) : RM e d (lc_ss m 1 0 (nI v)) (gs g 0 2 v) := by
  obtain ⟨⟨a0, a1, a2, a3, a4, a5, a6, a7, a8⟩, hcc, hl⟩ := hr
  refine ⟨⟨by simp (disch := omega) only [ss_eq, ss_ne, ss_off, gs_at, gs_r, gs_i, a0], by simp (disch := omega) only [ss_eq, ss_ne, ss_off, gs_at, gs_r, gs_i, a1], by simp (disch := omega) only [ss_eq, ss_ne, ss_off, gs_at, gs_r, gs_i, a2], by simp (disch := omega) only [ss_eq, ss_ne, ss_off, gs_at, gs_r, gs_i, a3], by simp (disch := omega) only [ss_eq, ss_ne, ss_off, gs_at, gs_r, gs_i, a4], by simp (disch := omega) only [ss_eq, ss_ne, ss_off, gs_at, gs_r, gs_i, a5], by simp (disch := omega) only [ss_eq, ss_ne, ss_off, gs_at, gs_r, gs_i, a6], by simp (disch := omega) only [ss_eq, ss_ne, ss_off, gs_at, gs_r, gs_i, a7], by simp (disch := omega) only [ss_eq, ss_ne, ss_off, gs_at, gs_r, gs_i, a8]⟩, fun x hx => ?_, fun j hj => ?_⟩
  · replace hx : x < g 0 0 := by simpa (disch := omega) only [gs_r, gs_i] using hx
    obtain ⟨b0, b1, b2, b3, b4⟩ := hcc x hx
    exact ⟨by simp (disch := omega) only [ss_eq, ss_ne, ss_off, gs_at, gs_r, gs_i, b0], by simp (disch := omega) only [ss_eq, ss_ne, ss_off, gs_at, gs_r, gs_i, b1], by simp (disch := omega) only [ss_eq, ss_ne, ss_off, gs_at, gs_r, gs_i, b2], by simp (disch := omega) only [ss_eq, ss_ne, ss_off, gs_at, gs_r, gs_i, b3], fun z => by simp (disch := omega) only [ss_eq, ss_ne, ss_off, gs_at, gs_r, gs_i, b4 z]⟩
  · replace hj : j < g 0 1 := by simpa (disch := omega) only [gs_r, gs_i] using hj
    obtain ⟨b0, b1, b2, b3, b4⟩ := hl j hj
    exact ⟨by simp (disch := omega) only [ss_eq, ss_ne, ss_off, gs_at, gs_r, gs_i, b0], by simp (disch := omega) only [ss_eq, ss_ne, ss_off, gs_at, gs_r, gs_i, b1], by simp (disch := omega) only [ss_eq, ss_ne, ss_off, gs_at, gs_r, gs_i, b2], by simp (disch := omega) only [ss_eq, ss_ne, ss_off, gs_at, gs_r, gs_i, b3], by simp (disch := omega) only [ss_eq, ss_ne, ss_off, gs_at, gs_r, gs_i, b4]⟩
theorem RM_a3 (hr : RM e d m g) (v : Nat) : RM e d (lc_ss m 1 3 (nI v)) (gs g 0 3 v) := by
  obtain ⟨⟨a0, a1, a2, a3, a4, a5, a6, a7, a8⟩, hcc, hl⟩ := hr
  refine ⟨⟨by simp (disch := omega) only [ss_eq, ss_ne, ss_off, gs_at, gs_r, gs_i, a0], by simp (disch := omega) only [ss_eq, ss_ne, ss_off, gs_at, gs_r, gs_i, a1], by simp (disch := omega) only [ss_eq, ss_ne, ss_off, gs_at, gs_r, gs_i, a2], by simp (disch := omega) only [ss_eq, ss_ne, ss_off, gs_at, gs_r, gs_i, a3], by simp (disch := omega) only [ss_eq, ss_ne, ss_off, gs_at, gs_r, gs_i, a4], by simp (disch := omega) only [ss_eq, ss_ne, ss_off, gs_at, gs_r, gs_i, a5], by simp (disch := omega) only [ss_eq, ss_ne, ss_off, gs_at, gs_r, gs_i, a6], by simp (disch := omega) only [ss_eq, ss_ne, ss_off, gs_at, gs_r, gs_i, a7], by simp (disch := omega) only [ss_eq, ss_ne, ss_off, gs_at, gs_r, gs_i, a8]⟩, fun x hx => ?_, fun j hj => ?_⟩
  · replace hx : x < g 0 0 := by simpa (disch := omega) only [gs_r, gs_i] using hx
    obtain ⟨b0, b1, b2, b3, b4⟩ := hcc x hx
    exact ⟨by simp (disch := omega) only [ss_eq, ss_ne, ss_off, gs_at, gs_r, gs_i, b0], by simp (disch := omega) only [ss_eq, ss_ne, ss_off, gs_at, gs_r, gs_i, b1], by simp (disch := omega) only [ss_eq, ss_ne, ss_off, gs_at, gs_r, gs_i, b2], by simp (disch := omega) only [ss_eq, ss_ne, ss_off, gs_at, gs_r, gs_i, b3], fun z => by simp (disch := omega) only [ss_eq, ss_ne, ss_off, gs_at, gs_r, gs_i, b4 z]⟩
  · replace hj : j < g 0 1 := by simpa (disch := omega) only [gs_r, gs_i] using hj
    obtain ⟨b0, b1, b2, b3, b4⟩ := hl j hj
    exact ⟨by simp (disch := omega) only [ss_eq, ss_ne, ss_off, gs_at, gs_r, gs_i, b0], by simp (disch := omega) only [ss_eq, ss_ne, ss_off, gs_at, gs_r, gs_i, b1], by simp (disch := omega) only [ss_eq, ss_ne, ss_off, gs_at, gs_r, gs_i, b2], by simp (disch := omega) only [ss_eq, ss_ne, ss_off, gs_at, gs_r, gs_i, b3], by simp (disch := omega) only [ss_eq, ss_ne, ss_off, gs_at, gs_r, gs_i, b4]⟩
theorem RM_a4 (hr : RM e d m g) (v : Nat) : RM e d (lc_ss m 1 4 (nI v)) (gs g 0 4 v) := by
  obtain ⟨⟨a0, a1, a2, a3, a4, a5, a6, a7, a8⟩, hcc, hl⟩ := hr
  refine ⟨⟨by simp (disch := omega) only [ss_eq, ss_ne, ss_off, gs_at, gs_r, gs_i, a0], by simp (disch := omega) only [ss_eq, ss_ne, ss_off, gs_at, gs_r, gs_i, a1], by simp (disch := omega) only [ss_eq, ss_ne, ss_off, gs_at, gs_r, gs_i, a2], by simp (disch := omega) only [ss_eq, ss_ne, ss_off, gs_at, gs_r, gs_i, a3], by simp (disch := omega) only [ss_eq, ss_ne, ss_off, gs_at, gs_r, gs_i, a4], by simp (disch := omega) only [ss_eq, ss_ne, ss_off, gs_at, gs_r, gs_i, a5], by simp (disch := omega) only [ss_eq, ss_ne, ss_off, gs_at, gs_r, gs_i, a6], by simp (disch := omega) only [ss_eq, ss_ne, ss_off, gs_at, gs_r, gs_i, a7], by simp (disch := omega) only [ss_eq, ss_ne, ss_off, gs_at, gs_r, gs_i, a8]⟩, fun x hx => ?_, fun j hj => ?_⟩
  · replace hx : x < g 0 0 := by simpa (disch := omega) only [gs_r, gs_i] using hx
    obtain ⟨b0, b1, b2, b3, b4⟩ := hcc x hx
    exact ⟨by simp (disch := omega) only [ss_eq, ss_ne, ss_off, gs_at, gs_r, gs_i, b0], by simp (disch := omega) only [ss_eq, ss_ne, ss_off, gs_at, gs_r, gs_i, b1], by simp (disch := omega) only [ss_eq, ss_ne, ss_off, gs_at, gs_r, gs_i, b2], by simp (disch := omega) only [ss_eq, ss_ne, ss_off, gs_at, gs_r, gs_i, b3], fun z => by simp (disch := omega) only [ss_eq, ss_ne, ss_off, gs_at, gs_r, gs_i, b4 z]⟩
  · replace hj : j < g 0 1 := by simpa (disch := omega) only [gs_r, gs_i] using hj
    obtain ⟨b0, b1, b2, b3, b4⟩ := hl j hj
    exact ⟨by simp (disch := omega) only [ss_eq, ss_ne, ss_off, gs_at, gs_r, gs_i, b0], by simp (disch := omega) only [ss_eq, ss_ne, ss_off, gs_at, gs_r, gs_i, b1], by simp (disch := omega) only [ss_eq, ss_ne, ss_off, gs_at, gs_r, gs_i, b2], by simp (disch := omega) only [ss_eq, ss_ne, ss_off, gs_at, gs_r, gs_i, b3], by simp (disch := omega) only [ss_eq, ss_ne, ss_off, gs_at, gs_r, gs_i, b4]⟩
theorem RM_a5 (hr : RM e d m g) (v : Nat) : RM e d (lc_ss m 1 5 (nI v)) (gs g 0 5 v) := by
  obtain ⟨⟨a0, a1, a2, a3, a4, a5, a6, a7, a8⟩, hcc, hl⟩ := hr
  refine ⟨⟨by simp (disch := omega) only [ss_eq, ss_ne, ss_off, gs_at, gs_r, gs_i, a0], by simp (disch := omega) only [ss_eq, ss_ne, ss_off, gs_at, gs_r, gs_i, a1], by simp (disch := omega) only [ss_eq, ss_ne, ss_off, gs_at, gs_r, gs_i, a2], by simp (disch := omega) only [ss_eq, ss_ne, ss_off, gs_at, gs_r, gs_i, a3], by simp (disch := omega) only [ss_eq, ss_ne, ss_off, gs_at, gs_r, gs_i, a4], by simp (disch := omega) only [ss_eq, ss_ne, ss_off, gs_at, gs_r, gs_i, a5], by simp (disch := omega) only [ss_eq, ss_ne, ss_off, gs_at, gs_r, gs_i, a6], by simp (disch := omega) only [ss_eq, ss_ne, ss_off, gs_at, gs_r, gs_i, a7], by simp (disch := omega) only [ss_eq, ss_ne, ss_off, gs_at, gs_r, gs_i, a8]⟩, fun x hx => ?_, fun j hj => ?_⟩
  · replace hx : x < g 0 0 := by simpa (disch := omega) only [gs_r, gs_i] using hx
    obtain ⟨b0, b1, b2, b3, b4⟩ := hcc x hx
    exact ⟨by simp (disch := omega) only [ss_eq, ss_ne, ss_off, gs_at, gs_r, gs_i, b0], by simp (disch := omega) only [ss_eq, ss_ne, ss_off, gs_at, gs_r, gs_i, b1], by simp (disch := omega) only [ss_eq, ss_ne, ss_off, gs_at, gs_r, gs_i, b2], by simp (disch := omega) only [ss_eq, ss_ne, ss_off, gs_at, gs_r, gs_i, b3], fun z => by simp (disch := omega) only [ss_eq, ss_ne, ss_off, gs_at, gs_r, gs_i, b4 z]⟩
  · replace hj : j < g 0 1 := by simpa (disch := omega) only [gs_r, gs_i] using hj
    obtain ⟨b0, b1, b2, b3, b4⟩ := hl j hj
    exact ⟨by simp (disch := omega) only [ss_eq, ss_ne, ss_off, gs_at, gs_r, gs_i, b0], by simp (disch := omega) only [ss_eq, ss_ne, ss_off, gs_at, gs_r, gs_i, b1], by simp (disch := omega) only [ss_eq, ss_ne, ss_off, gs_at, gs_r, gs_i, b2], by simp (disch := omega) only [ss_eq, ss_ne, ss_off, gs_at, gs_r, gs_i, b3], by simp (disch := omega) only [ss_eq, ss_ne, ss_off, gs_at, gs_r, gs_i, b4]⟩
theorem RM_a6 (hr : RM e d m g) (v : Nat) : RM e d (lc_ss m 1 6 (nI v)) (gs g 0 6 v) := by
  obtain ⟨⟨a0, a1, a2, a3, a4, a5, a6, a7, a8⟩, hcc, hl⟩ := hr
  refine ⟨⟨by simp (disch := omega) only [ss_eq, ss_ne, ss_off, gs_at, gs_r, gs_i, a0], by simp (disch := omega) only [ss_eq, ss_ne, ss_off, gs_at, gs_r, gs_i, a1], by simp (disch := omega) only [ss_eq, ss_ne, ss_off, gs_at, gs_r, gs_i, a2], by simp (disch := omega) only [ss_eq, ss_ne, ss_off, gs_at, gs_r, gs_i, a3], by simp (disch := omega) only [ss_eq, ss_ne, ss_off, gs_at, gs_r, gs_i, a4], by simp (disch := omega) only [ss_eq, ss_ne, ss_off, gs_at, gs_r, gs_i, a5], by simp (disch := omega) only [ss_eq, ss_ne, ss_off, gs_at, gs_r, gs_i, a6], by simp (disch := omega) only [ss_eq, ss_ne, ss_off, gs_at, gs_r, gs_i, a7], by simp (disch := omega) only [ss_eq, ss_ne, ss_off, gs_at, gs_r, gs_i, a8]⟩, fun x hx => ?_, fun j hj => ?_⟩
  · replace hx : x < g 0 0 := by simpa (disch := omega) only [gs_r, gs_i] using hx
    obtain ⟨b0, b1, b2, b3, b4⟩ := hcc x hx
    exact ⟨by simp (disch := omega) only [ss_eq, ss_ne, ss_off, gs_at, gs_r, gs_i, b0], by simp (disch := omega) only [ss_eq, ss_ne, ss_off, gs_at, gs_r, gs_i, b1], by simp (disch := omega) only [ss_eq, ss_ne, ss_off, gs_at, gs_r, gs_i, b2], by simp (disch := omega) only [ss_eq, ss_ne, ss_off, gs_at, gs_r, gs_i, b3], fun z => by simp (disch := omega) only [ss_eq, ss_ne, ss_off, gs_at, gs_r, gs_i, b4 z]⟩
  · replace hj : j < g 0 1 := by simpa (disch := omega) only [gs_r, gs_i] using hj
    obtain ⟨b0, b1, b2, b3, b4⟩ := hl j hj
    exact ⟨by simp (disch := omega) only [ss_eq, ss_ne, ss_off, gs_at, gs_r, gs_i, b0], by simp (disch := omega) only [ss_eq, ss_ne, ss_off, gs_at, gs_r, gs_i, b1], by simp (disch := omega) only [ss_eq, ss_ne, ss_off, gs_at, gs_r, gs_i, b2], by simp (disch := omega) only [ss_eq, ss_ne, ss_off, gs_at, gs_r, gs_i, b3], by simp (disch := omega) only [ss_eq, ss_ne, ss_off, gs_at, gs_r, gs_i, b4]⟩
theorem RM_l2 (hr : RM e d m g) (h8 : g 0 0 ≤ 8) {i : Nat} (hii : i < 12) (v : Nat) : RM e d (lc_ss m 1 (47 + 5 * i + 2) (nI v)) (gs g 7 i v) := by
  obtain ⟨⟨a0, a1, a2, a3, a4, a5, a6, a7, a8⟩, hcc, hl⟩ := hr
  refine ⟨⟨by simp (disch := omega) only [ss_eq, ss_ne, ss_off, gs_at, gs_r, gs_i, a0], by simp (disch := omega) only [ss_eq, ss_ne, ss_off, gs_at, gs_r, gs_i, a1], by simp (disch := omega) only [ss_eq, ss_ne, ss_off, gs_at, gs_r, gs_i, a2], by simp (disch := omega) only [ss_eq, ss_ne, ss_off, gs_at, gs_r, gs_i, a3], by simp (disch := omega) only [ss_eq, ss_ne, ss_off, gs_at, gs_r, gs_i, a4], by simp (disch := omega) only [ss_eq, ss_ne, ss_off, gs_at, gs_r, gs_i, a5], by simp (disch := omega) only [ss_eq, ss_ne, ss_off, gs_at, gs_r, gs_i, a6], by simp (disch := omega) only [ss_eq, ss_ne, ss_off, gs_at, gs_r, gs_i, a7], by simp (disch := omega) only [ss_eq, ss_ne, ss_off, gs_at, gs_r, gs_i, a8]⟩, fun x hx => ?_, fun j hj => ?_⟩
  · replace hx : x < g 0 0 := by simpa (disch := omega) only [gs_r, gs_i] using hx
    obtain ⟨b0, b1, b2, b3, b4⟩ := hcc x hx
    exact ⟨by simp (disch := omega) only [ss_eq, ss_ne, ss_off, gs_at, gs_r, gs_i, b0], by simp (disch := omega) only [ss_eq, ss_ne, ss_off, gs_at, gs_r, gs_i, b1], by simp (disch := omega) only [ss_eq, ss_ne, ss_off, gs_at, gs_r, gs_i, b2], by simp (disch := omega) only [ss_eq, ss_ne, ss_off, gs_at, gs_r, gs_i, b3], fun z => by simp (disch := omega) only [ss_eq, ss_ne, ss_off, gs_at, gs_r, gs_i, b4 z]⟩
  · replace hj : j < g 0 1 := by simpa (disch := omega) only [gs_r, gs_i] using hj
    obtain ⟨b0, b1, b2, b3, b4⟩ := hl j hj
    by_cases hji : j = i
    · subst hji; exact ⟨by simp (disch := omega) only [ss_eq, ss_ne, ss_off, gs_at, gs_r, gs_i, b0], by simp (disch := omega) only [ss_eq, ss_ne, ss_off, gs_at, gs_r, gs_i, b1], by simp (disch := omega) only [ss_eq, ss_ne, ss_off, gs_at, gs_r, gs_i, b2], by simp (disch := omega) only [ss_eq, ss_ne, ss_off, gs_at, gs_r, gs_i, b3], by simp (disch := omega) only [ss_eq, ss_ne, ss_off, gs_at, gs_r, gs_i, b4]⟩
    · exact ⟨by simp (disch := omega) only [ss_eq, ss_ne, ss_off, gs_at, gs_r, gs_i, b0], by simp (disch := omega) only [ss_eq, ss_ne, ss_off, gs_at, gs_r, gs_i, b1], by simp (disch := omega) only [ss_eq, ss_ne, ss_off, gs_at, gs_r, gs_i, b2], by simp (disch := omega) only [ss_eq, ss_ne, ss_off, gs_at, gs_r, gs_i, b3], by simp (disch := omega) only [ss_eq, ss_ne, ss_off, gs_at, gs_r, gs_i, b4]⟩
theorem RM_w3 (hr : RM e d m g) (v : Nat) (w : Int32) (hw : W3 d w v) : RM e d (lc_ss m 0 3 w) (gs g 0 7 v) := by
  obtain ⟨⟨a0, a1, a2, a3, a4, a5, a6, a7, a8⟩, hcc, hl⟩ := hr
  refine ⟨⟨by simp (disch := omega) only [ss_eq, ss_ne, ss_off, gs_at, gs_r, gs_i, a0], by simp (disch := omega) only [ss_eq, ss_ne, ss_off, gs_at, gs_r, gs_i, a1], by simp (disch := omega) only [ss_eq, ss_ne, ss_off, gs_at, gs_r, gs_i, a2], by simp (disch := omega) only [ss_eq, ss_ne, ss_off, gs_at, gs_r, gs_i, a3], by simp (disch := omega) only [ss_eq, ss_ne, ss_off, gs_at, gs_r, gs_i, a4], by simp (disch := omega) only [ss_eq, ss_ne, ss_off, gs_at, gs_r, gs_i, a5], by simp (disch := omega) only [ss_eq, ss_ne, ss_off, gs_at, gs_r, gs_i, a6], by simp (disch := omega) only [ss_eq, ss_ne, ss_off, gs_at, gs_r, gs_i, hw], by simp (disch := omega) only [ss_eq, ss_ne, ss_off, gs_at, gs_r, gs_i, a8]⟩, fun x hx => ?_, fun j hj => ?_⟩
  · replace hx : x < g 0 0 := by simpa (disch := omega) only [gs_r, gs_i] using hx
    obtain ⟨b0, b1, b2, b3, b4⟩ := hcc x hx
    exact ⟨by simp (disch := omega) only [ss_eq, ss_ne, ss_off, gs_at, gs_r, gs_i, b0], by simp (disch := omega) only [ss_eq, ss_ne, ss_off, gs_at, gs_r, gs_i, b1], by simp (disch := omega) only [ss_eq, ss_ne, ss_off, gs_at, gs_r, gs_i, b2], by simp (disch := omega) only [ss_eq, ss_ne, ss_off, gs_at, gs_r, gs_i, b3], fun z => by simp (disch := omega) only [ss_eq, ss_ne, ss_off, gs_at, gs_r, gs_i, b4 z]⟩
  · replace hj : j < g 0 1 := by simpa (disch := omega) only [gs_r, gs_i] using hj
    obtain ⟨b0, b1, b2, b3, b4⟩ := hl j hj
    exact ⟨by simp (disch := omega) only [ss_eq, ss_ne, ss_off, gs_at, gs_r, gs_i, b0], by simp (disch := omega) only [ss_eq, ss_ne, ss_off, gs_at, gs_r, gs_i, b1], by simp (disch := omega) only [ss_eq, ss_ne, ss_off, gs_at, gs_r, gs_i, b2], by simp (disch := omega) only [ss_eq, ss_ne, ss_off, gs_at, gs_r, gs_i, b3], by simp (disch := omega) only [ss_eq, ss_ne, ss_off, gs_at, gs_r, gs_i, b4]⟩
theorem RM_w4 (hr : RM e d m g) (v : Nat) (w : Int32) (hw : W4 d w v) : RM e d (lc_ss m 0 4 w) (gs g 0 8 v) := by
  obtain ⟨⟨a0, a1, a2, a3, a4, a5, a6, a7, a8⟩, hcc, hl⟩ := hr
  refine ⟨⟨by simp (disch := omega) only [ss_eq, ss_ne, ss_off, gs_at, gs_r, gs_i, a0], by simp (disch := omega) only [ss_eq, ss_ne, ss_off, gs_at, gs_r, gs_i, a1], by simp (disch := omega) only [ss_eq, ss_ne, ss_off, gs_at, gs_r, gs_i, a2], by simp (disch := omega) only [ss_eq, ss_ne, ss_off, gs_at, gs_r, gs_i, a3], by simp (disch := omega) only [ss_eq, ss_ne, ss_off, gs_at, gs_r, gs_i, a4], by simp (disch := omega) only [ss_eq, ss_ne, ss_off, gs_at, gs_r, gs_i, a5], by simp (disch := omega) only [ss_eq, ss_ne, ss_off, gs_at, gs_r, gs_i, a6], by simp (disch := omega) only [ss_eq, ss_ne, ss_off, gs_at, gs_r, gs_i, a7], by simp (disch := omega) only [ss_eq, ss_ne, ss_off, gs_at, gs_r, gs_i, hw]⟩, fun x hx => ?_, fun j hj => ?_⟩
  · replace hx : x < g 0 0 := by simpa (disch := omega) only [gs_r, gs_i] using hx
    obtain ⟨b0, b1, b2, b3, b4⟩ := hcc x hx
    exact ⟨by simp (disch := omega) only [ss_eq, ss_ne, ss_off, gs_at, gs_r, gs_i, b0], by simp (disch := omega) only [ss_eq, ss_ne, ss_off, gs_at, gs_r, gs_i, b1], by simp (disch := omega) only [ss_eq, ss_ne, ss_off, gs_at, gs_r, gs_i, b2], by simp (disch := omega) only [ss_eq, ss_ne, ss_off, gs_at, gs_r, gs_i, b3], fun z => by simp (disch := omega) only [ss_eq, ss_ne, ss_off, gs_at, gs_r, gs_i, b4 z]⟩
  · replace hj : j < g 0 1 := by simpa (disch := omega) only [gs_r, gs_i] using hj
    obtain ⟨b0, b1, b2, b3, b4⟩ := hl j hj
    exact ⟨by simp (disch := omega) only [ss_eq, ss_ne, ss_off, gs_at, gs_r, gs_i, b0], by simp (disch := omega) only [ss_eq, ss_ne, ss_off, gs_at, gs_r, gs_i, b1], by simp (disch := omega) only [ss_eq, ss_ne, ss_off, gs_at, gs_r, gs_i, b2], by simp (disch := omega) only [ss_eq, ss_ne, ss_off, gs_at, gs_r, gs_i, b3], by simp (disch := omega) only [ss_eq, ss_ne, ss_off, gs_at, gs_r, gs_i, b4]⟩
theorem RM_off (hr : RM e d m g) {r : Nat} (p : Nat) (w : Int32) (h2 : 2 ≤ r) : RM e d (lc_ss m r p w) (g) := by
  obtain ⟨⟨a0, a1, a2, a3, a4, a5, a6, a7, a8⟩, hcc, hl⟩ := hr
  refine ⟨⟨by simp (disch := omega) only [ss_eq, ss_ne, ss_off, gs_at, gs_r, gs_i, a0], by simp (disch := omega) only [ss_eq, ss_ne, ss_off, gs_at, gs_r, gs_i, a1], by simp (disch := omega) only [ss_eq, ss_ne, ss_off, gs_at, gs_r, gs_i, a2], by simp (disch := omega) only [ss_eq, ss_ne, ss_off, gs_at, gs_r, gs_i, a3], by simp (disch := omega) only [ss_eq, ss_ne, ss_off, gs_at, gs_r, gs_i, a4], by simp (disch := omega) only [ss_eq, ss_ne, ss_off, gs_at, gs_r, gs_i, a5], by simp (disch := omega) only [ss_eq, ss_ne, ss_off, gs_at, gs_r, gs_i, a6], by simp (disch := omega) only [ss_eq, ss_ne, ss_off, gs_at, gs_r, gs_i, a7], by simp (disch := omega) only [ss_eq, ss_ne, ss_off, gs_at, gs_r, gs_i, a8]⟩, fun x hx => ?_, fun j hj => ?_⟩
  · replace hx : x < g 0 0 := by simpa (disch := omega) only [gs_r, gs_i] using hx
    obtain ⟨b0, b1, b2, b3, b4⟩ := hcc x hx
    exact ⟨by simp (disch := omega) only [ss_eq, ss_ne, ss_off, gs_at, gs_r, gs_i, b0], by simp (disch := omega) only [ss_eq, ss_ne, ss_off, gs_at, gs_r, gs_i, b1], by simp (disch := omega) only [ss_eq, ss_ne, ss_off, gs_at, gs_r, gs_i, b2], by simp (disch := omega) only [ss_eq, ss_ne, ss_off, gs_at, gs_r, gs_i, b3], fun z => by simp (disch := omega) only [ss_eq, ss_ne, ss_off, gs_at, gs_r, gs_i, b4 z]⟩
  · replace hj : j < g 0 1 := by simpa (disch := omega) only [gs_r, gs_i] using hj
    obtain ⟨b0, b1, b2, b3, b4⟩ := hl j hj
    exact ⟨by simp (disch := omega) only [ss_eq, ss_ne, ss_off, gs_at, gs_r, gs_i, b0], by simp (disch := omega) only [ss_eq, ss_ne, ss_off, gs_at, gs_r, gs_i, b1], by simp (disch := omega) only [ss_eq, ss_ne, ss_off, gs_at, gs_r, gs_i, b2], by simp (disch := omega) only [ss_eq, ss_ne, ss_off, gs_at, gs_r, gs_i, b3], by simp (disch := omega) only [ss_eq, ss_ne, ss_off, gs_at, gs_r, gs_i, b4]⟩
theorem RM_off0 (hr : RM e d m g) {p : Nat} (w : Int32) (h2 : p ≠ 3) (h3 : p ≠ 4) : RM e d (lc_ss m 0 p w) (g) := by
  obtain ⟨⟨a0, a1, a2, a3, a4, a5, a6, a7, a8⟩, hcc, hl⟩ := hr
  refine ⟨⟨by simp (disch := omega) only [ss_eq, ss_ne, ss_off, gs_at, gs_r, gs_i, a0], by simp (disch := omega) only [ss_eq, ss_ne, ss_off, gs_at, gs_r, gs_i, a1], by simp (disch := omega) only [ss_eq, ss_ne, ss_off, gs_at, gs_r, gs_i, a2], by simp (disch := omega) only [ss_eq, ss_ne, ss_off, gs_at, gs_r, gs_i, a3], by simp (disch := omega) only [ss_eq, ss_ne, ss_off, gs_at, gs_r, gs_i, a4], by simp (disch := omega) only [ss_eq, ss_ne, ss_off, gs_at, gs_r, gs_i, a5], by simp (disch := omega) only [ss_eq, ss_ne, ss_off, gs_at, gs_r, gs_i, a6], by simp (disch := omega) only [ss_eq, ss_ne, ss_off, gs_at, gs_r, gs_i, a7], by simp (disch := omega) only [ss_eq, ss_ne, ss_off, gs_at, gs_r, gs_i, a8]⟩, fun x hx => ?_, fun j hj => ?_⟩
  · replace hx : x < g 0 0 := by simpa (disch := omega) only [gs_r, gs_i] using hx
    obtain ⟨b0, b1, b2, b3, b4⟩ := hcc x hx
    exact ⟨by simp (disch := omega) only [ss_eq, ss_ne, ss_off, gs_at, gs_r, gs_i, b0], by simp (disch := omega) only [ss_eq, ss_ne, ss_off, gs_at, gs_r, gs_i, b1], by simp (disch := omega) only [ss_eq, ss_ne, ss_off, gs_at, gs_r, gs_i, b2], by simp (disch := omega) only [ss_eq, ss_ne, ss_off, gs_at, gs_r, gs_i, b3], fun z => by simp (disch := omega) only [ss_eq, ss_ne, ss_off, gs_at, gs_r, gs_i, b4 z]⟩
  · replace hj : j < g 0 1 := by simpa (disch := omega) only [gs_r, gs_i] using hj
    obtain ⟨b0, b1, b2, b3, b4⟩ := hl j hj
    exact ⟨by simp (disch := omega) only [ss_eq, ss_ne, ss_off, gs_at, gs_r, gs_i, b0], by simp (disch := omega) only [ss_eq, ss_ne, ss_off, gs_at, gs_r, gs_i, b1], by simp (disch := omega) only [ss_eq, ss_ne, ss_off, gs_at, gs_r, gs_i, b2], by simp (disch := omega) only [ss_eq, ss_ne, ss_off, gs_at, gs_r, gs_i, b3], by simp (disch := omega) only [ss_eq, ss_ne, ss_off, gs_at, gs_r, gs_i, b4]⟩
/-! ===== what stays of the model beside the row ===== -/
def Fr (m m' : lc_St) : Prop := (∀ r, r = 2 ∨ r = 3 ∨ r = 4 ∨ r = 5 ∨ r = 6 ∨ r = 8 → m' r = m r) ∧ (∀ k, k ≠ 3 → k ≠ 4 → m' 0 k = m 0 k) ∧ (N9 (m 0 3) → N9 (m' 0 3))
theorem Fr.rf (m : lc_St) : Fr m m := ⟨fun _ _ => rfl, fun _ _ _ => rfl, fun h => h⟩
theorem Fr.tr {a b c : lc_St} (h1 : Fr a b) (h2 : Fr b c) : Fr a c := ⟨fun r hr => (h2.1 r hr).trans (h1.1 r hr), fun k h3 h4 => (h2.2.1 k h3 h4).trans (h1.2.1 k h3 h4), fun h => h2.2.2 (h1.2.2 h)⟩
theorem Fr.s1 {a b : lc_St} (h : Fr a b) (p : Nat) (w : Int32) : Fr a (lc_ss b 1 p w) := h.tr ⟨fun r hr => ss_off _ _ _ (by omega), fun k _ _ => by rw [ss_off _ _ _ (by omega)], fun h => by rw [ss_off _ _ _ (by omega)]; exact h⟩
theorem Fr.s7 {a b : lc_St} (h : Fr a b) (p : Nat) (w : Int32) : Fr a (lc_ss b 7 p w) := h.tr ⟨fun r hr => ss_off _ _ _ (by omega), fun k _ _ => by rw [ss_off _ _ _ (by omega)], fun h => by rw [ss_off _ _ _ (by omega)]; exact h⟩
theorem Fr.s04 {a b : lc_St} (h : Fr a b) (w : Int32) : Fr a (lc_ss b 0 4 w) := h.tr ⟨fun r hr => ss_off _ _ _ (by omega), fun k _ h4 => ss_ne _ _ _ h4, fun h => by rw [ss_ne _ _ _ (by omega)]; exact h⟩
/-- the same, but for what stood before a draw -/
def Fw (m m' : lc_St) : Prop := (∀ r, r = 2 ∨ r = 3 ∨ r = 4 ∨ r = 5 ∨ r = 6 → m' r = m r) ∧ (∀ k, k ≠ 3 → k ≠ 4 → m' 0 k = m 0 k) ∧ (N9 (m 0 3) → N9 (m' 0 3))
theorem Fr.w {a b : lc_St} (h : Fr a b) : Fw a b := ⟨fun r hr => h.1 r (by omega), h.2⟩
theorem Fw.tr {a b c : lc_St} (h1 : Fw a b) (h2 : Fw b c) : Fw a c := ⟨fun r hr => (h2.1 r hr).trans (h1.1 r hr), fun k h3 h4 => (h2.2.1 k h3 h4).trans (h1.2.1 k h3 h4), fun h => h2.2.2 (h1.2.2 h)⟩
/-! ===== the invariant over one write ===== -/
theorem Iv_c1 (hi : Iv g) {c : Nat} (hc : c < g 0 0) {v : Nat} (hv : v ≤ g 1 c) : Iv (gs g 2 c v) := by
  refine ⟨by simpa (disch := omega) only [gs_r] using hi.1, by simpa (disch := omega) only [gs_r] using hi.2.1, fun x hx => ?_, fun j hj => ?_⟩
  · replace hx : x < g 0 0 := by simpa (disch := omega) only [gs_r] using hx
    have hh := hi.2.2.1 x hx
    by_cases hxc : x = c
    · subst hxc
      simp (disch := omega) only [gs_r, gs_at]; omega
    · simp (disch := omega) only [gs_r, gs_i]; omega
  · replace hj : j < g 0 1 := by simpa (disch := omega) only [gs_r] using hj
    simpa (disch := omega) only [gs_r] using hi.2.2.2 j hj
theorem Iv_c2 (hi : Iv g) {c : Nat} (hc : c < g 0 0) {v : Nat} (hv : v ≤ 3) : Iv (gs g 3 c v) := by
  refine ⟨by simpa (disch := omega) only [gs_r] using hi.1, by simpa (disch := omega) only [gs_r] using hi.2.1, fun x hx => ?_, fun j hj => ?_⟩
  · replace hx : x < g 0 0 := by simpa (disch := omega) only [gs_r] using hx
    have hh := hi.2.2.1 x hx
    by_cases hxc : x = c
    · subst hxc
      simp (disch := omega) only [gs_r, gs_at]; omega
    · simp (disch := omega) only [gs_r, gs_i]; omega
  · replace hj : j < g 0 1 := by simpa (disch := omega) only [gs_r] using hj
    simpa (disch := omega) only [gs_r] using hi.2.2.2 j hj
theorem Iv_c3 (hi : Iv g) {c : Nat} (hc : c < g 0 0) {v : Nat} (hv : v ≤ 3) : Iv (gs g 4 c v) := by
  refine ⟨by simpa (disch := omega) only [gs_r] using hi.1, by simpa (disch := omega) only [gs_r] using hi.2.1, fun x hx => ?_, fun j hj => ?_⟩
  · replace hx : x < g 0 0 := by simpa (disch := omega) only [gs_r] using hx
    have hh := hi.2.2.1 x hx
    by_cases hxc : x = c
    · subst hxc
      simp (disch := omega) only [gs_r, gs_at]; omega
    · simp (disch := omega) only [gs_r, gs_i]; omega
  · replace hj : j < g 0 1 := by simpa (disch := omega) only [gs_r] using hj
    simpa (disch := omega) only [gs_r] using hi.2.2.2 j hj
theorem Iv_a (hi : Iv g) {k : Nat} (hk : 2 ≤ k) (v : Nat) : Iv (gs g 0 k v) := by
  refine ⟨by simpa (disch := omega) only [gs_i] using hi.1, by simpa (disch := omega) only [gs_i] using hi.2.1, fun x hx => ?_, fun j hj => ?_⟩
  · replace hx : x < g 0 0 := by simpa (disch := omega) only [gs_i] using hx
    simpa (disch := omega) only [gs_r] using hi.2.2.1 x hx
  · replace hj : j < g 0 1 := by simpa (disch := omega) only [gs_i] using hj
    simpa (disch := omega) only [gs_r, gs_i] using hi.2.2.2 j hj
theorem Iv_l2 (hi : Iv g) {i : Nat} (hii : i < g 0 1) {v : Nat} (h1 : 1 ≤ v) (hv : v ≤ 99) : Iv (gs g 7 i v) := by
  refine ⟨by simpa (disch := omega) only [gs_r] using hi.1, by simpa (disch := omega) only [gs_r] using hi.2.1, fun x hx => ?_, fun j hj => ?_⟩
  · replace hx : x < g 0 0 := by simpa (disch := omega) only [gs_r] using hx
    simpa (disch := omega) only [gs_r] using hi.2.2.1 x hx
  · replace hj : j < g 0 1 := by simpa (disch := omega) only [gs_r] using hj
    have hh := hi.2.2.2 j hj
    by_cases hji : j = i
    · subst hji
      simp (disch := omega) only [gs_r, gs_at]; omega
    · simp (disch := omega) only [gs_r, gs_i]; omega
