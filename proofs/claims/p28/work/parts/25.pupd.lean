/-! ===== the pure claim: one write ===== -/
variable {e : Nat} {m : lc_St} {g : Nat → Nat → Nat}
theorem QM_c1 (hr : QM e m g) {c : Nat} (hc : c < g 0 0) (v : Nat) : QM e (lc_ss m 1 (5 * c + 1) (nI v)) (gs g 2 c v) := by
  obtain ⟨⟨a0, a1, a2, a3, a4, a5, a6⟩, hcc, hl, hz, h6⟩ := hr
  refine ⟨⟨by simp (disch := omega) only [ss_eq, ss_ne, ss_off, gs_at, gs_r, gs_i, a0], by simp (disch := omega) only [ss_eq, ss_ne, ss_off, gs_at, gs_r, gs_i, a1], by simp (disch := omega) only [ss_eq, ss_ne, ss_off, gs_at, gs_r, gs_i, a2], by simp (disch := omega) only [ss_eq, ss_ne, ss_off, gs_at, gs_r, gs_i, a3], by simp (disch := omega) only [ss_eq, ss_ne, ss_off, gs_at, gs_r, gs_i, a4], by simp (disch := omega) only [ss_eq, ss_ne, ss_off, gs_at, gs_r, gs_i, a5], by simp (disch := omega) only [ss_eq, ss_ne, ss_off, gs_at, gs_r, gs_i, a6]⟩, fun x hx => ?_, fun j hj => ?_, fun k hk hk2 => ?_, by simpa (disch := omega) only [gs_r, gs_i] using h6⟩
  · replace hx : x < g 0 0 := by simpa (disch := omega) only [gs_r, gs_i] using hx
    obtain ⟨b0, b1, b2, b3, b4⟩ := hcc x hx
    by_cases hxc : x = c
    · subst hxc; exact ⟨by simp (disch := omega) only [ss_eq, ss_ne, ss_off, gs_at, gs_r, gs_i, b0], by simp (disch := omega) only [ss_eq, ss_ne, ss_off, gs_at, gs_r, gs_i, b1], by simp (disch := omega) only [ss_eq, ss_ne, ss_off, gs_at, gs_r, gs_i, b2], by simp (disch := omega) only [ss_eq, ss_ne, ss_off, gs_at, gs_r, gs_i, b3], fun z => by simp (disch := omega) only [ss_eq, ss_ne, ss_off, gs_at, gs_r, gs_i, b4 z]⟩
    · exact ⟨by simp (disch := omega) only [ss_eq, ss_ne, ss_off, gs_at, gs_r, gs_i, b0], by simp (disch := omega) only [ss_eq, ss_ne, ss_off, gs_at, gs_r, gs_i, b1], by simp (disch := omega) only [ss_eq, ss_ne, ss_off, gs_at, gs_r, gs_i, b2], by simp (disch := omega) only [ss_eq, ss_ne, ss_off, gs_at, gs_r, gs_i, b3], fun z => by simp (disch := omega) only [ss_eq, ss_ne, ss_off, gs_at, gs_r, gs_i, b4 z]⟩
  · replace hj : j < g 0 1 := by simpa (disch := omega) only [gs_r, gs_i] using hj
    obtain ⟨b0, b1, b2, b3, b4⟩ := hl j hj
    exact ⟨by simp (disch := omega) only [ss_eq, ss_ne, ss_off, gs_at, gs_r, gs_i, b0], by simp (disch := omega) only [ss_eq, ss_ne, ss_off, gs_at, gs_r, gs_i, b1], by simp (disch := omega) only [ss_eq, ss_ne, ss_off, gs_at, gs_r, gs_i, b2], by simp (disch := omega) only [ss_eq, ss_ne, ss_off, gs_at, gs_r, gs_i, b3], by simp (disch := omega) only [ss_eq, ss_ne, ss_off, gs_at, gs_r, gs_i, b4]⟩
  · replace hk : 5 * g 0 0 ≤ k := by simpa (disch := omega) only [gs_r, gs_i] using hk
    have hzk := hz k hk hk2
    exact by simp (disch := omega) only [ss_eq, ss_ne, ss_off, gs_at, gs_r, gs_i, hzk]
theorem QM_c2 (hr : QM e m g) {c : Nat} (hc : c < g 0 0) (v : Nat) : QM e (lc_ss m 1 (5 * c + 2) (nI v)) (gs g 3 c v) := by
  obtain ⟨⟨a0, a1, a2, a3, a4, a5, a6⟩, hcc, hl, hz, h6⟩ := hr
  refine ⟨⟨by simp (disch := omega) only [ss_eq, ss_ne, ss_off, gs_at, gs_r, gs_i, a0], by simp (disch := omega) only [ss_eq, ss_ne, ss_off, gs_at, gs_r, gs_i, a1], by simp (disch := omega) only [ss_eq, ss_ne, ss_off, gs_at, gs_r, gs_i, a2], by simp (disch := omega) only [ss_eq, ss_ne, ss_off, gs_at, gs_r, gs_i, a3], by simp (disch := omega) only [ss_eq, ss_ne, ss_off, gs_at, gs_r, gs_i, a4], by simp (disch := omega) only [ss_eq, ss_ne, ss_off, gs_at, gs_r, gs_i, a5], by simp (disch := omega) only [ss_eq, ss_ne, ss_off, gs_at, gs_r, gs_i, a6]⟩, fun x hx => ?_, fun j hj => ?_, fun k hk hk2 => ?_, by simpa (disch := omega) only [gs_r, gs_i] using h6⟩
  · replace hx : x < g 0 0 := by simpa (disch := omega) only [gs_r, gs_i] using hx
    obtain ⟨b0, b1, b2, b3, b4⟩ := hcc x hx
    by_cases hxc : x = c
    · subst hxc; exact ⟨by simp (disch := omega) only [ss_eq, ss_ne, ss_off, gs_at, gs_r, gs_i, b0], by simp (disch := omega) only [ss_eq, ss_ne, ss_off, gs_at, gs_r, gs_i, b1], by simp (disch := omega) only [ss_eq, ss_ne, ss_off, gs_at, gs_r, gs_i, b2], by simp (disch := omega) only [ss_eq, ss_ne, ss_off, gs_at, gs_r, gs_i, b3], fun z => by simp (disch := omega) only [ss_eq, ss_ne, ss_off, gs_at, gs_r, gs_i, b4 z]⟩
    · exact ⟨by simp (disch := omega) only [ss_eq, ss_ne, ss_off, gs_at, gs_r, gs_i, b0], by simp (disch := omega) only [ss_eq, ss_ne, ss_off, gs_at, gs_r, gs_i, b1], by simp (disch := omega) only [ss_eq, ss_ne, ss_off, gs_at, gs_r, gs_i, b2], by simp (disch := omega) only [ss_eq, ss_ne, ss_off, gs_at, gs_r, gs_i, b3], fun z => by simp (disch := omega) only [ss_eq, ss_ne, ss_off, gs_at, gs_r, gs_i, b4 z]⟩
  · replace hj : j < g 0 1 := by simpa (disch := omega) only [gs_r, gs_i] using hj
    obtain ⟨b0, b1, b2, b3, b4⟩ := hl j hj
    exact ⟨by simp (disch := omega) only [ss_eq, ss_ne, ss_off, gs_at, gs_r, gs_i, b0], by simp (disch := omega) only [ss_eq, ss_ne, ss_off, gs_at, gs_r, gs_i, b1], by simp (disch := omega) only [ss_eq, ss_ne, ss_off, gs_at, gs_r, gs_i, b2], by simp (disch := omega) only [ss_eq, ss_ne, ss_off, gs_at, gs_r, gs_i, b3], by simp (disch := omega) only [ss_eq, ss_ne, ss_off, gs_at, gs_r, gs_i, b4]⟩
  · replace hk : 5 * g 0 0 ≤ k := by simpa (disch := omega) only [gs_r, gs_i] using hk
    have hzk := hz k hk hk2
    exact by simp (disch := omega) only [ss_eq, ss_ne, ss_off, gs_at, gs_r, gs_i, hzk]
theorem QM_c3 (hr : QM e m g) {c : Nat} (hc : c < g 0 0) (v : Nat) (hf : c ≠ e → m 1 (5 * c + 4) = nI (if v < 3 then 0 else 1)) : QM e (lc_ss m 1 (5 * c + 3) (nI v)) (gs g 4 c v) := by
  obtain ⟨⟨a0, a1, a2, a3, a4, a5, a6⟩, hcc, hl, hz, h6⟩ := hr
  refine ⟨⟨by simp (disch := omega) only [ss_eq, ss_ne, ss_off, gs_at, gs_r, gs_i, a0], by simp (disch := omega) only [ss_eq, ss_ne, ss_off, gs_at, gs_r, gs_i, a1], by simp (disch := omega) only [ss_eq, ss_ne, ss_off, gs_at, gs_r, gs_i, a2], by simp (disch := omega) only [ss_eq, ss_ne, ss_off, gs_at, gs_r, gs_i, a3], by simp (disch := omega) only [ss_eq, ss_ne, ss_off, gs_at, gs_r, gs_i, a4], by simp (disch := omega) only [ss_eq, ss_ne, ss_off, gs_at, gs_r, gs_i, a5], by simp (disch := omega) only [ss_eq, ss_ne, ss_off, gs_at, gs_r, gs_i, a6]⟩, fun x hx => ?_, fun j hj => ?_, fun k hk hk2 => ?_, by simpa (disch := omega) only [gs_r, gs_i] using h6⟩
  · replace hx : x < g 0 0 := by simpa (disch := omega) only [gs_r, gs_i] using hx
    obtain ⟨b0, b1, b2, b3, b4⟩ := hcc x hx
    by_cases hxc : x = c
    · subst hxc; exact ⟨by simp (disch := omega) only [ss_eq, ss_ne, ss_off, gs_at, gs_r, gs_i, b0], by simp (disch := omega) only [ss_eq, ss_ne, ss_off, gs_at, gs_r, gs_i, b1], by simp (disch := omega) only [ss_eq, ss_ne, ss_off, gs_at, gs_r, gs_i, b2], by simp (disch := omega) only [ss_eq, ss_ne, ss_off, gs_at, gs_r, gs_i, b3], fun z => by simp (disch := omega) only [ss_eq, ss_ne, ss_off, gs_at, gs_r, gs_i, hf z]⟩
    · exact ⟨by simp (disch := omega) only [ss_eq, ss_ne, ss_off, gs_at, gs_r, gs_i, b0], by simp (disch := omega) only [ss_eq, ss_ne, ss_off, gs_at, gs_r, gs_i, b1], by simp (disch := omega) only [ss_eq, ss_ne, ss_off, gs_at, gs_r, gs_i, b2], by simp (disch := omega) only [ss_eq, ss_ne, ss_off, gs_at, gs_r, gs_i, b3], fun z => by simp (disch := omega) only [ss_eq, ss_ne, ss_off, gs_at, gs_r, gs_i, b4 z]⟩
  · replace hj : j < g 0 1 := by simpa (disch := omega) only [gs_r, gs_i] using hj
    obtain ⟨b0, b1, b2, b3, b4⟩ := hl j hj
    exact ⟨by simp (disch := omega) only [ss_eq, ss_ne, ss_off, gs_at, gs_r, gs_i, b0], by simp (disch := omega) only [ss_eq, ss_ne, ss_off, gs_at, gs_r, gs_i, b1], by simp (disch := omega) only [ss_eq, ss_ne, ss_off, gs_at, gs_r, gs_i, b2], by simp (disch := omega) only [ss_eq, ss_ne, ss_off, gs_at, gs_r, gs_i, b3], by simp (disch := omega) only [ss_eq, ss_ne, ss_off, gs_at, gs_r, gs_i, b4]⟩
  · replace hk : 5 * g 0 0 ≤ k := by simpa (disch := omega) only [gs_r, gs_i] using hk
    have hzk := hz k hk hk2
    exact by simp (disch := omega) only [ss_eq, ss_ne, ss_off, gs_at, gs_r, gs_i, hzk]
theorem QM_flag {c : Nat} (hr : QM c m g) (hc : c < g 0 0) (h3 : g 4 c = 3) : QM 8 (lc_ss m 1 (5 * c + 4) (nI 1)) g := by
  obtain ⟨⟨a0, a1, a2, a3, a4, a5, a6⟩, hcc, hl, hz, h6⟩ := hr
  refine ⟨⟨by simp (disch := omega) only [ss_eq, ss_ne, ss_off, gs_at, gs_r, gs_i, a0], by simp (disch := omega) only [ss_eq, ss_ne, ss_off, gs_at, gs_r, gs_i, a1], by simp (disch := omega) only [ss_eq, ss_ne, ss_off, gs_at, gs_r, gs_i, a2], by simp (disch := omega) only [ss_eq, ss_ne, ss_off, gs_at, gs_r, gs_i, a3], by simp (disch := omega) only [ss_eq, ss_ne, ss_off, gs_at, gs_r, gs_i, a4], by simp (disch := omega) only [ss_eq, ss_ne, ss_off, gs_at, gs_r, gs_i, a5], by simp (disch := omega) only [ss_eq, ss_ne, ss_off, gs_at, gs_r, gs_i, a6]⟩, fun x hx => ?_, fun j hj => ?_, fun k hk hk2 => ?_, h6⟩
  · obtain ⟨b0, b1, b2, b3, b4⟩ := hcc x hx
    by_cases hxc : x = c
    · subst hxc; exact ⟨by simp (disch := omega) only [ss_eq, ss_ne, ss_off, gs_at, gs_r, gs_i, b0], by simp (disch := omega) only [ss_eq, ss_ne, ss_off, gs_at, gs_r, gs_i, b1], by simp (disch := omega) only [ss_eq, ss_ne, ss_off, gs_at, gs_r, gs_i, b2], by simp (disch := omega) only [ss_eq, ss_ne, ss_off, gs_at, gs_r, gs_i, b3], fun z => by rw [ss_eq, h3]; rfl⟩
    · exact ⟨by simp (disch := omega) only [ss_eq, ss_ne, ss_off, gs_at, gs_r, gs_i, b0], by simp (disch := omega) only [ss_eq, ss_ne, ss_off, gs_at, gs_r, gs_i, b1], by simp (disch := omega) only [ss_eq, ss_ne, ss_off, gs_at, gs_r, gs_i, b2], by simp (disch := omega) only [ss_eq, ss_ne, ss_off, gs_at, gs_r, gs_i, b3], fun z => by simp (disch := omega) only [ss_eq, ss_ne, ss_off, gs_at, gs_r, gs_i, b4 hxc]⟩
  · obtain ⟨b0, b1, b2, b3, b4⟩ := hl j hj
    exact ⟨by simp (disch := omega) only [ss_eq, ss_ne, ss_off, gs_at, gs_r, gs_i, b0], by simp (disch := omega) only [ss_eq, ss_ne, ss_off, gs_at, gs_r, gs_i, b1], by simp (disch := omega) only [ss_eq, ss_ne, ss_off, gs_at, gs_r, gs_i, b2], by simp (disch := omega) only [ss_eq, ss_ne, ss_off, gs_at, gs_r, gs_i, b3], by simp (disch := omega) only [ss_eq, ss_ne, ss_off, gs_at, gs_r, gs_i, b4]⟩
  · have hzk := hz k hk hk2
    exact by simp (disch := omega) only [ss_eq, ss_ne, ss_off, gs_at, gs_r, gs_i, hzk]
theorem QM_ex (hr : QM 8 m g) (c : Nat) : QM c m g := ⟨hr.1, fun x hx => ⟨(hr.2.1 x hx).1, (hr.2.1 x hx).2.1, (hr.2.1 x hx).2.2.1, (hr.2.1 x hx).2.2.2.1, fun _ => qm_c4 hr hx⟩, hr.2.2⟩
theorem QM_a0 (hr : QM e m g) (v : Nat) : QM e (lc_ss m 0 0 (nI v)) (gs g 0 2 v) := by
  obtain ⟨⟨a0, a1, a2, a3, a4, a5, a6⟩, hcc, hl, hz, h6⟩ := hr
  refine ⟨⟨by simp (disch := omega) only [ss_eq, ss_ne, ss_off, gs_at, gs_r, gs_i, a0], by simp (disch := omega) only [ss_eq, ss_ne, ss_off, gs_at, gs_r, gs_i, a1], by simp (disch := omega) only [ss_eq, ss_ne, ss_off, gs_at, gs_r, gs_i, a2], by simp (disch := omega) only [ss_eq, ss_ne, ss_off, gs_at, gs_r, gs_i, a3], by simp (disch := omega) only [ss_eq, ss_ne, ss_off, gs_at, gs_r, gs_i, a4], by simp (disch := omega) only [ss_eq, ss_ne, ss_off, gs_at, gs_r, gs_i, a5], by simp (disch := omega) only [ss_eq, ss_ne, ss_off, gs_at, gs_r, gs_i, a6]⟩, fun x hx => ?_, fun j hj => ?_, fun k hk hk2 => ?_, by simpa (disch := omega) only [gs_r, gs_i] using h6⟩
  · replace hx : x < g 0 0 := by simpa (disch := omega) only [gs_r, gs_i] using hx
    obtain ⟨b0, b1, b2, b3, b4⟩ := hcc x hx
    exact ⟨by simp (disch := omega) only [ss_eq, ss_ne, ss_off, gs_at, gs_r, gs_i, b0], by simp (disch := omega) only [ss_eq, ss_ne, ss_off, gs_at, gs_r, gs_i, b1], by simp (disch := omega) only [ss_eq, ss_ne, ss_off, gs_at, gs_r, gs_i, b2], by simp (disch := omega) only [ss_eq, ss_ne, ss_off, gs_at, gs_r, gs_i, b3], fun z => by simp (disch := omega) only [ss_eq, ss_ne, ss_off, gs_at, gs_r, gs_i, b4 z]⟩
  · replace hj : j < g 0 1 := by simpa (disch := omega) only [gs_r, gs_i] using hj
    obtain ⟨b0, b1, b2, b3, b4⟩ := hl j hj
    exact ⟨by simp (disch := omega) only [ss_eq, ss_ne, ss_off, gs_at, gs_r, gs_i, b0], by simp (disch := omega) only [ss_eq, ss_ne, ss_off, gs_at, gs_r, gs_i, b1], by simp (disch := omega) only [ss_eq, ss_ne, ss_off, gs_at, gs_r, gs_i, b2], by simp (disch := omega) only [ss_eq, ss_ne, ss_off, gs_at, gs_r, gs_i, b3], by simp (disch := omega) only [ss_eq, ss_ne, ss_off, gs_at, gs_r, gs_i, b4]⟩
  · replace hk : 5 * g 0 0 ≤ k := by simpa (disch := omega) only [gs_r, gs_i] using hk
    have hzk := hz k hk hk2
    exact by simp (disch := omega) only [ss_eq, ss_ne, ss_off, gs_at, gs_r, gs_i, hzk]
theorem QM_a3 (hr : QM e m g) (v : Nat) : QM e (lc_ss m 0 3 (nI v)) (gs g 0 3 v) := by
  obtain ⟨⟨a0, a1, a2, a3, a4, a5, a6⟩, hcc, hl, hz, h6⟩ := hr
  refine ⟨⟨by simp (disch := omega) only [ss_eq, ss_ne, ss_off, gs_at, gs_r, gs_i, a0], by simp (disch := omega) only [ss_eq, ss_ne, ss_off, gs_at, gs_r, gs_i, a1], by simp (disch := omega) only [ss_eq, ss_ne, ss_off, gs_at, gs_r, gs_i, a2], by simp (disch := omega) only [ss_eq, ss_ne, ss_off, gs_at, gs_r, gs_i, a3], by simp (disch := omega) only [ss_eq, ss_ne, ss_off, gs_at, gs_r, gs_i, a4], by simp (disch := omega) only [ss_eq, ss_ne, ss_off, gs_at, gs_r, gs_i, a5], by simp (disch := omega) only [ss_eq, ss_ne, ss_off, gs_at, gs_r, gs_i, a6]⟩, fun x hx => ?_, fun j hj => ?_, fun k hk hk2 => ?_, by simpa (disch := omega) only [gs_r, gs_i] using h6⟩
  · replace hx : x < g 0 0 := by simpa (disch := omega) only [gs_r, gs_i] using hx
    obtain ⟨b0, b1, b2, b3, b4⟩ := hcc x hx
    exact ⟨by simp (disch := omega) only [ss_eq, ss_ne, ss_off, gs_at, gs_r, gs_i, b0], by simp (disch := omega) only [ss_eq, ss_ne, ss_off, gs_at, gs_r, gs_i, b1], by simp (disch := omega) only [ss_eq, ss_ne, ss_off, gs_at, gs_r, gs_i, b2], by simp (disch := omega) only [ss_eq, ss_ne, ss_off, gs_at, gs_r, gs_i, b3], fun z => by simp (disch := omega) only [ss_eq, ss_ne, ss_off, gs_at, gs_r, gs_i, b4 z]⟩
  · replace hj : j < g 0 1 := by simpa (disch := omega) only [gs_r, gs_i] using hj
    obtain ⟨b0, b1, b2, b3, b4⟩ := hl j hj
    exact ⟨by simp (disch := omega) only [ss_eq, ss_ne, ss_off, gs_at, gs_r, gs_i, b0], by simp (disch := omega) only [ss_eq, ss_ne, ss_off, gs_at, gs_r, gs_i, b1], by simp (disch := omega) only [ss_eq, ss_ne, ss_off, gs_at, gs_r, gs_i, b2], by simp (disch := omega) only [ss_eq, ss_ne, ss_off, gs_at, gs_r, gs_i, b3], by simp (disch := omega) only [ss_eq, ss_ne, ss_off, gs_at, gs_r, gs_i, b4]⟩
  · replace hk : 5 * g 0 0 ≤ k := by simpa (disch := omega) only [gs_r, gs_i] using hk
    have hzk := hz k hk hk2
    exact by simp (disch := omega) only [ss_eq, ss_ne, ss_off, gs_at, gs_r, gs_i, hzk]
theorem QM_a4 (hr : QM e m g) (v : Nat) : QM e (lc_ss m 0 4 (nI v)) (gs g 0 4 v) := by
  obtain ⟨⟨a0, a1, a2, a3, a4, a5, a6⟩, hcc, hl, hz, h6⟩ := hr
  refine ⟨⟨by simp (disch := omega) only [ss_eq, ss_ne, ss_off, gs_at, gs_r, gs_i, a0], by simp (disch := omega) only [ss_eq, ss_ne, ss_off, gs_at, gs_r, gs_i, a1], by simp (disch := omega) only [ss_eq, ss_ne, ss_off, gs_at, gs_r, gs_i, a2], by simp (disch := omega) only [ss_eq, ss_ne, ss_off, gs_at, gs_r, gs_i, a3], by simp (disch := omega) only [ss_eq, ss_ne, ss_off, gs_at, gs_r, gs_i, a4], by simp (disch := omega) only [ss_eq, ss_ne, ss_off, gs_at, gs_r, gs_i, a5], by simp (disch := omega) only [ss_eq, ss_ne, ss_off, gs_at, gs_r, gs_i, a6]⟩, fun x hx => ?_, fun j hj => ?_, fun k hk hk2 => ?_, by simpa (disch := omega) only [gs_r, gs_i] using h6⟩
  · replace hx : x < g 0 0 := by simpa (disch := omega) only [gs_r, gs_i] using hx
    obtain ⟨b0, b1, b2, b3, b4⟩ := hcc x hx
    exact ⟨by simp (disch := omega) only [ss_eq, ss_ne, ss_off, gs_at, gs_r, gs_i, b0], by simp (disch := omega) only [ss_eq, ss_ne, ss_off, gs_at, gs_r, gs_i, b1], by simp (disch := omega) only [ss_eq, ss_ne, ss_off, gs_at, gs_r, gs_i, b2], by simp (disch := omega) only [ss_eq, ss_ne, ss_off, gs_at, gs_r, gs_i, b3], fun z => by simp (disch := omega) only [ss_eq, ss_ne, ss_off, gs_at, gs_r, gs_i, b4 z]⟩
  · replace hj : j < g 0 1 := by simpa (disch := omega) only [gs_r, gs_i] using hj
    obtain ⟨b0, b1, b2, b3, b4⟩ := hl j hj
    exact ⟨by simp (disch := omega) only [ss_eq, ss_ne, ss_off, gs_at, gs_r, gs_i, b0], by simp (disch := omega) only [ss_eq, ss_ne, ss_off, gs_at, gs_r, gs_i, b1], by simp (disch := omega) only [ss_eq, ss_ne, ss_off, gs_at, gs_r, gs_i, b2], by simp (disch := omega) only [ss_eq, ss_ne, ss_off, gs_at, gs_r, gs_i, b3], by simp (disch := omega) only [ss_eq, ss_ne, ss_off, gs_at, gs_r, gs_i, b4]⟩
  · replace hk : 5 * g 0 0 ≤ k := by simpa (disch := omega) only [gs_r, gs_i] using hk
    have hzk := hz k hk hk2
    exact by simp (disch := omega) only [ss_eq, ss_ne, ss_off, gs_at, gs_r, gs_i, hzk]
theorem QM_a5 (hr : QM e m g) (v : Nat) : QM e (lc_ss m 0 5 (nI v)) (gs g 0 5 v) := by
  obtain ⟨⟨a0, a1, a2, a3, a4, a5, a6⟩, hcc, hl, hz, h6⟩ := hr
  refine ⟨⟨by simp (disch := omega) only [ss_eq, ss_ne, ss_off, gs_at, gs_r, gs_i, a0], by simp (disch := omega) only [ss_eq, ss_ne, ss_off, gs_at, gs_r, gs_i, a1], by simp (disch := omega) only [ss_eq, ss_ne, ss_off, gs_at, gs_r, gs_i, a2], by simp (disch := omega) only [ss_eq, ss_ne, ss_off, gs_at, gs_r, gs_i, a3], by simp (disch := omega) only [ss_eq, ss_ne, ss_off, gs_at, gs_r, gs_i, a4], by simp (disch := omega) only [ss_eq, ss_ne, ss_off, gs_at, gs_r, gs_i, a5], by simp (disch := omega) only [ss_eq, ss_ne, ss_off, gs_at, gs_r, gs_i, a6]⟩, fun x hx => ?_, fun j hj => ?_, fun k hk hk2 => ?_, by simpa (disch := omega) only [gs_r, gs_i] using h6⟩
  · replace hx : x < g 0 0 := by simpa (disch := omega) only [gs_r, gs_i] using hx
    obtain ⟨b0, b1, b2, b3, b4⟩ := hcc x hx
    exact ⟨by simp (disch := omega) only [ss_eq, ss_ne, ss_off, gs_at, gs_r, gs_i, b0], by simp (disch := omega) only [ss_eq, ss_ne, ss_off, gs_at, gs_r, gs_i, b1], by simp (disch := omega) only [ss_eq, ss_ne, ss_off, gs_at, gs_r, gs_i, b2], by simp (disch := omega) only [ss_eq, ss_ne, ss_off, gs_at, gs_r, gs_i, b3], fun z => by simp (disch := omega) only [ss_eq, ss_ne, ss_off, gs_at, gs_r, gs_i, b4 z]⟩
  · replace hj : j < g 0 1 := by simpa (disch := omega) only [gs_r, gs_i] using hj
    obtain ⟨b0, b1, b2, b3, b4⟩ := hl j hj
    exact ⟨by simp (disch := omega) only [ss_eq, ss_ne, ss_off, gs_at, gs_r, gs_i, b0], by simp (disch := omega) only [ss_eq, ss_ne, ss_off, gs_at, gs_r, gs_i, b1], by simp (disch := omega) only [ss_eq, ss_ne, ss_off, gs_at, gs_r, gs_i, b2], by simp (disch := omega) only [ss_eq, ss_ne, ss_off, gs_at, gs_r, gs_i, b3], by simp (disch := omega) only [ss_eq, ss_ne, ss_off, gs_at, gs_r, gs_i, b4]⟩
  · replace hk : 5 * g 0 0 ≤ k := by simpa (disch := omega) only [gs_r, gs_i] using hk
    have hzk := hz k hk hk2
    exact by simp (disch := omega) only [ss_eq, ss_ne, ss_off, gs_at, gs_r, gs_i, hzk]
theorem QM_a6 (hr : QM e m g) (v : Nat) : QM e (lc_ss m 0 6 (nI v)) (gs g 0 6 v) := by
  obtain ⟨⟨a0, a1, a2, a3, a4, a5, a6⟩, hcc, hl, hz, h6⟩ := hr
  refine ⟨⟨by simp (disch := omega) only [ss_eq, ss_ne, ss_off, gs_at, gs_r, gs_i, a0], by simp (disch := omega) only [ss_eq, ss_ne, ss_off, gs_at, gs_r, gs_i, a1], by simp (disch := omega) only [ss_eq, ss_ne, ss_off, gs_at, gs_r, gs_i, a2], by simp (disch := omega) only [ss_eq, ss_ne, ss_off, gs_at, gs_r, gs_i, a3], by simp (disch := omega) only [ss_eq, ss_ne, ss_off, gs_at, gs_r, gs_i, a4], by simp (disch := omega) only [ss_eq, ss_ne, ss_off, gs_at, gs_r, gs_i, a5], by simp (disch := omega) only [ss_eq, ss_ne, ss_off, gs_at, gs_r, gs_i, a6]⟩, fun x hx => ?_, fun j hj => ?_, fun k hk hk2 => ?_, by simpa (disch := omega) only [gs_r, gs_i] using h6⟩
  · replace hx : x < g 0 0 := by simpa (disch := omega) only [gs_r, gs_i] using hx
    obtain ⟨b0, b1, b2, b3, b4⟩ := hcc x hx
    exact ⟨by simp (disch := omega) only [ss_eq, ss_ne, ss_off, gs_at, gs_r, gs_i, b0], by simp (disch := omega) only [ss_eq, ss_ne, ss_off, gs_at, gs_r, gs_i, b1], by simp (disch := omega) only [ss_eq, ss_ne, ss_off, gs_at, gs_r, gs_i, b2], by simp (disch := omega) only [ss_eq, ss_ne, ss_off, gs_at, gs_r, gs_i, b3], fun z => by simp (disch := omega) only [ss_eq, ss_ne, ss_off, gs_at, gs_r, gs_i, b4 z]⟩
  · replace hj : j < g 0 1 := by simpa (disch := omega) only [gs_r, gs_i] using hj
    obtain ⟨b0, b1, b2, b3, b4⟩ := hl j hj
    exact ⟨by simp (disch := omega) only [ss_eq, ss_ne, ss_off, gs_at, gs_r, gs_i, b0], by simp (disch := omega) only [ss_eq, ss_ne, ss_off, gs_at, gs_r, gs_i, b1], by simp (disch := omega) only [ss_eq, ss_ne, ss_off, gs_at, gs_r, gs_i, b2], by simp (disch := omega) only [ss_eq, ss_ne, ss_off, gs_at, gs_r, gs_i, b3], by simp (disch := omega) only [ss_eq, ss_ne, ss_off, gs_at, gs_r, gs_i, b4]⟩
  · replace hk : 5 * g 0 0 ≤ k := by simpa (disch := omega) only [gs_r, gs_i] using hk
    have hzk := hz k hk hk2
    exact by simp (disch := omega) only [ss_eq, ss_ne, ss_off, gs_at, gs_r, gs_i, hzk]
theorem QM_l2 (hr : QM e m g) {i : Nat} (v : Nat) : QM e (lc_ss m 2 (5 * i + 2) (nI v)) (gs g 7 i v) := by
  obtain ⟨⟨a0, a1, a2, a3, a4, a5, a6⟩, hcc, hl, hz, h6⟩ := hr
  refine ⟨⟨by simp (disch := omega) only [ss_eq, ss_ne, ss_off, gs_at, gs_r, gs_i, a0], by simp (disch := omega) only [ss_eq, ss_ne, ss_off, gs_at, gs_r, gs_i, a1], by simp (disch := omega) only [ss_eq, ss_ne, ss_off, gs_at, gs_r, gs_i, a2], by simp (disch := omega) only [ss_eq, ss_ne, ss_off, gs_at, gs_r, gs_i, a3], by simp (disch := omega) only [ss_eq, ss_ne, ss_off, gs_at, gs_r, gs_i, a4], by simp (disch := omega) only [ss_eq, ss_ne, ss_off, gs_at, gs_r, gs_i, a5], by simp (disch := omega) only [ss_eq, ss_ne, ss_off, gs_at, gs_r, gs_i, a6]⟩, fun x hx => ?_, fun j hj => ?_, fun k hk hk2 => ?_, by simpa (disch := omega) only [gs_r, gs_i] using h6⟩
  · replace hx : x < g 0 0 := by simpa (disch := omega) only [gs_r, gs_i] using hx
    obtain ⟨b0, b1, b2, b3, b4⟩ := hcc x hx
    exact ⟨by simp (disch := omega) only [ss_eq, ss_ne, ss_off, gs_at, gs_r, gs_i, b0], by simp (disch := omega) only [ss_eq, ss_ne, ss_off, gs_at, gs_r, gs_i, b1], by simp (disch := omega) only [ss_eq, ss_ne, ss_off, gs_at, gs_r, gs_i, b2], by simp (disch := omega) only [ss_eq, ss_ne, ss_off, gs_at, gs_r, gs_i, b3], fun z => by simp (disch := omega) only [ss_eq, ss_ne, ss_off, gs_at, gs_r, gs_i, b4 z]⟩
  · replace hj : j < g 0 1 := by simpa (disch := omega) only [gs_r, gs_i] using hj
    obtain ⟨b0, b1, b2, b3, b4⟩ := hl j hj
    by_cases hji : j = i
    · subst hji; exact ⟨by simp (disch := omega) only [ss_eq, ss_ne, ss_off, gs_at, gs_r, gs_i, b0], by simp (disch := omega) only [ss_eq, ss_ne, ss_off, gs_at, gs_r, gs_i, b1], by simp (disch := omega) only [ss_eq, ss_ne, ss_off, gs_at, gs_r, gs_i, b2], by simp (disch := omega) only [ss_eq, ss_ne, ss_off, gs_at, gs_r, gs_i, b3], by simp (disch := omega) only [ss_eq, ss_ne, ss_off, gs_at, gs_r, gs_i, b4]⟩
    · exact ⟨by simp (disch := omega) only [ss_eq, ss_ne, ss_off, gs_at, gs_r, gs_i, b0], by simp (disch := omega) only [ss_eq, ss_ne, ss_off, gs_at, gs_r, gs_i, b1], by simp (disch := omega) only [ss_eq, ss_ne, ss_off, gs_at, gs_r, gs_i, b2], by simp (disch := omega) only [ss_eq, ss_ne, ss_off, gs_at, gs_r, gs_i, b3], by simp (disch := omega) only [ss_eq, ss_ne, ss_off, gs_at, gs_r, gs_i, b4]⟩
  · replace hk : 5 * g 0 0 ≤ k := by simpa (disch := omega) only [gs_r, gs_i] using hk
    have hzk := hz k hk hk2
    exact by simp (disch := omega) only [ss_eq, ss_ne, ss_off, gs_at, gs_r, gs_i, hzk]
/-- what only the class has -/
theorem QM_w (hr : QM e m g) {k : Nat} (hk : 7 ≤ k) (v : Nat) : QM e m (gs g 0 k v) := by
  obtain ⟨⟨a0, a1, a2, a3, a4, a5, a6⟩, hcc, hl, hz, h6⟩ := hr
  refine ⟨⟨by simp (disch := omega) only [ss_eq, ss_ne, ss_off, gs_at, gs_r, gs_i, a0], by simp (disch := omega) only [ss_eq, ss_ne, ss_off, gs_at, gs_r, gs_i, a1], by simp (disch := omega) only [ss_eq, ss_ne, ss_off, gs_at, gs_r, gs_i, a2], by simp (disch := omega) only [ss_eq, ss_ne, ss_off, gs_at, gs_r, gs_i, a3], by simp (disch := omega) only [ss_eq, ss_ne, ss_off, gs_at, gs_r, gs_i, a4], by simp (disch := omega) only [ss_eq, ss_ne, ss_off, gs_at, gs_r, gs_i, a5], by simp (disch := omega) only [ss_eq, ss_ne, ss_off, gs_at, gs_r, gs_i, a6]⟩, fun x hx => ?_, fun j hj => ?_, fun k hk hk2 => ?_, by simpa (disch := omega) only [gs_r, gs_i] using h6⟩
  · replace hx : x < g 0 0 := by simpa (disch := omega) only [gs_r, gs_i] using hx
    obtain ⟨b0, b1, b2, b3, b4⟩ := hcc x hx
    exact ⟨by simp (disch := omega) only [ss_eq, ss_ne, ss_off, gs_at, gs_r, gs_i, b0], by simp (disch := omega) only [ss_eq, ss_ne, ss_off, gs_at, gs_r, gs_i, b1], by simp (disch := omega) only [ss_eq, ss_ne, ss_off, gs_at, gs_r, gs_i, b2], by simp (disch := omega) only [ss_eq, ss_ne, ss_off, gs_at, gs_r, gs_i, b3], fun z => by simp (disch := omega) only [ss_eq, ss_ne, ss_off, gs_at, gs_r, gs_i, b4 z]⟩
  · replace hj : j < g 0 1 := by simpa (disch := omega) only [gs_r, gs_i] using hj
    obtain ⟨b0, b1, b2, b3, b4⟩ := hl j hj
    exact ⟨by simp (disch := omega) only [ss_eq, ss_ne, ss_off, gs_at, gs_r, gs_i, b0], by simp (disch := omega) only [ss_eq, ss_ne, ss_off, gs_at, gs_r, gs_i, b1], by simp (disch := omega) only [ss_eq, ss_ne, ss_off, gs_at, gs_r, gs_i, b2], by simp (disch := omega) only [ss_eq, ss_ne, ss_off, gs_at, gs_r, gs_i, b3], by simp (disch := omega) only [ss_eq, ss_ne, ss_off, gs_at, gs_r, gs_i, b4]⟩
  · replace hk : 5 * g 0 0 ≤ k := by simpa (disch := omega) only [gs_r, gs_i] using hk
    exact hz k hk hk2
theorem Iv_c1 (hi : Iv g) {c : Nat} (hc : c < g 0 0) {v : Nat} (hv : v ≤ g 1 c) : Iv (gs g 2 c v) := by
  refine ⟨by simpa (disch := omega) only [gs_r] using hi.1, by simpa (disch := omega) only [gs_r] using hi.2.1, fun x hx => ?_, fun j hj => ?_⟩
  · replace hx : x < g 0 0 := by simpa (disch := omega) only [gs_r] using hx
    have hh := hi.2.2.1 x hx
    by_cases hxc : x = c
    · subst hxc
      simp (disch := omega) only [gs_r, gs_at]; omega
    · simp (disch := omega) only [gs_r, gs_i]; omega
  · replace hj : j < g 0 1 := by simpa (disch := omega) only [gs_r] using hj
    simpa (disch := omega) only [gs_r] using hi.2.2.2 j hj
theorem Iv_c2 (hi : Iv g) {c : Nat} (hc : c < g 0 0) {v : Nat} (hv : v ≤ 3) : Iv (gs g 3 c v) := by
  refine ⟨by simpa (disch := omega) only [gs_r] using hi.1, by simpa (disch := omega) only [gs_r] using hi.2.1, fun x hx => ?_, fun j hj => ?_⟩
  · replace hx : x < g 0 0 := by simpa (disch := omega) only [gs_r] using hx
    have hh := hi.2.2.1 x hx
    by_cases hxc : x = c
    · subst hxc
      simp (disch := omega) only [gs_r, gs_at]; omega
    · simp (disch := omega) only [gs_r, gs_i]; omega
  · replace hj : j < g 0 1 := by simpa (disch := omega) only [gs_r] using hj
    simpa (disch := omega) only [gs_r] using hi.2.2.2 j hj
theorem Iv_c3 (hi : Iv g) {c : Nat} (hc : c < g 0 0) {v : Nat} (hv : v ≤ 3) : Iv (gs g 4 c v) := by
  refine ⟨by simpa (disch := omega) only [gs_r] using hi.1, by simpa (disch := omega) only [gs_r] using hi.2.1, fun x hx => ?_, fun j hj => ?_⟩
  · replace hx : x < g 0 0 := by simpa (disch := omega) only [gs_r] using hx
    have hh := hi.2.2.1 x hx
    by_cases hxc : x = c
    · subst hxc
      simp (disch := omega) only [gs_r, gs_at]; omega
    · simp (disch := omega) only [gs_r, gs_i]; omega
  · replace hj : j < g 0 1 := by simpa (disch := omega) only [gs_r] using hj
    simpa (disch := omega) only [gs_r] using hi.2.2.2 j hj
theorem Iv_a (hi : Iv g) {k : Nat} (hk : 2 ≤ k) (v : Nat) : Iv (gs g 0 k v) := by
  refine ⟨by simpa (disch := omega) only [gs_i] using hi.1, by simpa (disch := omega) only [gs_i] using hi.2.1, fun x hx => ?_, fun j hj => ?_⟩
  · replace hx : x < g 0 0 := by simpa (disch := omega) only [gs_i] using hx
    simpa (disch := omega) only [gs_r] using hi.2.2.1 x hx
  · replace hj : j < g 0 1 := by simpa (disch := omega) only [gs_i] using hj
    simpa (disch := omega) only [gs_r, gs_i] using hi.2.2.2 j hj
theorem Iv_l2 (hi : Iv g) {i : Nat} (hii : i < g 0 1) {v : Nat} (h1 : 1 ≤ v) (hv : v ≤ 99) : Iv (gs g 7 i v) := by
  refine ⟨by simpa (disch := omega) only [gs_r] using hi.1, by simpa (disch := omega) only [gs_r] using hi.2.1, fun x hx => ?_, fun j hj => ?_⟩
  · replace hx : x < g 0 0 := by simpa (disch := omega) only [gs_r] using hx
    simpa (disch := omega) only [gs_r] using hi.2.2.1 x hx
  · replace hj : j < g 0 1 := by simpa (disch := omega) only [gs_r] using hj
    have hh := hi.2.2.2 j hj
    by_cases hji : j = i
    · subst hji
      simp (disch := omega) only [gs_r, gs_at]; omega
    · simp (disch := omega) only [gs_r, gs_i]; omega

theorem gs_gs (g : Nat → Nat → Nat) (r i v w : Nat) : gs (gs g r i v) r i w = gs g r i w := by
  funext a b
  by_cases h : a = r
  · subst h; rw [gs_if, gs_if, gs_if]; split <;> rfl
  · rw [gs_r _ _ _ h, gs_r _ _ _ h, gs_r _ _ _ h]
theorem gs_swr (g : Nat → Nat → Nat) {r r' : Nat} (i v i' v' : Nat) (h : r ≠ r') : gs (gs g r i v) r' i' v' = gs (gs g r' i' v') r i v := by
  funext a b
  by_cases h1 : a = r
  · subst h1; rw [gs_r _ _ _ h, gs_if, gs_if, gs_r _ _ _ h]
  · by_cases h2 : a = r'
    · subst h2; rw [gs_r _ _ _ h1, gs_if, gs_if, gs_r _ _ _ h1]
    · rw [gs_r _ _ _ h2, gs_r _ _ _ h1, gs_r _ _ _ h1, gs_r _ _ _ h2]
theorem gs_swi (g : Nat → Nat → Nat) (r : Nat) {i i' : Nat} (v v' : Nat) (h : i ≠ i') : gs (gs g r i v) r i' v' = gs (gs g r i' v') r i v := by
  funext a b
  by_cases h1 : a = r
  · subst h1
    by_cases h2 : b = i
    · subst h2; rw [gs_i _ _ _ h, gs_at, gs_at]
    · by_cases h3 : b = i'
      · subst h3; rw [gs_at, gs_i _ _ _ h2, gs_at]
      · rw [gs_i _ _ _ h3, gs_i _ _ _ h2, gs_i _ _ _ h2, gs_i _ _ _ h3]
  · rw [gs_r _ _ _ h1, gs_r _ _ _ h1, gs_r _ _ _ h1, gs_r _ _ _ h1]
theorem ow_cong {g g' : Nat → Nat → Nat} (f c : Nat) (h : g f = g' f) (h7 : g 7 = g' 7) : ∀ n, ow g f c n = ow g' f c n
  | 0 => rfl
  | n + 1 => by
    show ow g f c n + _ = ow g' f c n + _
    rw [ow_cong f c h h7 n, h, h7]
theorem ow_mono (g : Nat → Nat → Nat) (f c : Nat) {a : Nat} : ∀ {b}, a ≤ b → ow g f c a ≤ ow g f c b
  | 0, h => by rw [Nat.le_zero.mp h]; exact Nat.le_refl _
  | b + 1, h => by
    by_cases q : a = b + 1
    · rw [q]; exact Nat.le_refl _
    · have := ow_mono g f c (a := a) (b := b) (by omega)
      show ow g f c a ≤ ow g f c b + _
      omega
theorem sh_arith {q r T s o w : Nat} (hT : 0 < T) (hr : r ≤ q) (h1 : (q - r) * T ≤ q * s) (hw : w = q * o / T) (h2 : s + o ≤ T) : w ≤ r ∧ (q - (r - w)) * T ≤ q * (s + o) := by
  have hwT : w * T ≤ q * o := by rw [hw]; exact Nat.div_mul_le_self _ _
  have h3 : (q - r + w) * T ≤ q * (s + o) := by
    rw [Nat.add_mul, Nat.mul_add]; omega
  have h4 : q * (s + o) ≤ q * T := Nat.mul_le_mul_left _ h2
  have h5 : q - r + w ≤ q := Nat.le_of_mul_le_mul_right (Nat.le_trans h3 h4) hT
  have h6 : w ≤ r := by omega
  refine ⟨h6, ?_⟩
  rw [show q - (r - w) = q - r + w by omega]
  exact h3
theorem nI_ex (x : Int32) : ∃ n, x = nI n := by
  refine ⟨x.toBitVec.toNat, ?_⟩
  show x = Int32.ofNat _
  apply Int32.toBitVec_inj.mp
  simp
theorem gs_self (g : Nat → Nat → Nat) (r i : Nat) : gs g r i (g r i) = g := by
  funext a b
  by_cases h : a = r
  · subst h
    rw [gs_if]
    split
    · rename_i q; rw [q]
    · rfl
  · rw [gs_r _ _ _ h]
theorem nB_v (g : Nat → Nat → Nat) (r i : Nat) {v w : Nat} (h : nI v = nI w) : nB (gs g r i v) = nB (gs g r i w) := by rw [← nB_ss, h, nB_ss]
/-- nothing is lost: the charges, what was used, what became heat, make what was put in -/
def Cn (g : Nat → Nat → Nat) : Prop := tn (g 2) (g 0 0) + g 0 4 + g 0 5 = g 0 3
theorem tn_gs (g : Nat → Nat → Nat) (r c v : Nat) {n : Nat} (h : c < n) : tn (gs g r c v r) n + g r c = tn (g r) n + v := by
  have e : gs g r c v r = va_up (g r) c v := by unfold gs; rw [va_up_self]
  rw [e]; exact tn_up _ _ _ h
