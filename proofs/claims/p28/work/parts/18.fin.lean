/-! ===== the finished world: the list that grew is lc_w ===== -/
theorem ix_app {α : Type} (l1 l2 : List α) (n i : Nat) (h : l1.length = n) : (l1 ++ l2)[n + i]? = l2[i]? := by
  subst h
  rw [List.getElem?_append_right (by omega), Nat.add_sub_cancel_left]
theorem ix_in {α : Type} (l1 l2 : List α) {n i : Nat} (h : l1.length = n) (hi : i < n) : (l1 ++ l2)[i]? = l1[i]? := by
  subst h
  exact List.getElem?_append_left hi
theorem lw_bat_len (S : lc_Se) (h : Nat) (q : Nat → Nat) : (lw_bat S h q).length = 10 := rfl
theorem lw_flat_len (S : lc_Se) (hb : Nat → Nat) (qb : Nat → Nat → Nat) : ∀ n, (lw_flat S hb qb n).length = 10 * n
  | 0 => rfl
  | n + 1 => by
    have e : lw_flat S hb qb (n + 1) = lw_flat S hb qb n ++ lw_bat S (hb n) (qb n) := by
      unfold lw_flat
      rw [List.range_succ, List.flatMap_append]
      simp
    rw [e, List.length_append, lw_flat_len S hb qb n, lw_bat_len]
    omega
theorem lw_flat_at (S : lc_Se) (hb : Nat → Nat) (qb : Nat → Nat → Nat) {j r : Nat} (hr : r < 10) : ∀ n, j < n → (lw_flat S hb qb n)[10 * j + r]? = (lw_bat S (hb j) (qb j))[r]?
  | 0, h => by omega
  | n + 1, h => by
    have e : lw_flat S hb qb (n + 1) = lw_flat S hb qb n ++ lw_bat S (hb n) (qb n) := by
      unfold lw_flat
      rw [List.range_succ, List.flatMap_append]
      simp
    rw [e]
    by_cases hj : j = n
    · subst hj
      exact ix_app _ _ _ _ (lw_flat_len S hb qb j)
    · rw [ix_in _ _ (lw_flat_len S hb qb n) (by omega)]
      exact lw_flat_at S hb qb hr n (by omega)
def lw_ad (x : Nat) (u : lw_U3) (v : Nat → Nat) : Nat → Nat := fun id =>
  if id < 190 then (if id % 10 = 0 then u.2.1 (id / 10) else u.2.2 (id / 10) (id % 10 - 1))
  else if id = 190 then u.1 0 else if id = 191 then u.1 1 else if id = 192 then u.1 2 else if id = 193 then u.1 3
  else if id = 194 then x else if id = 195 then u.1 4 else if id = 196 then u.1 5 else v (id - 197)
def lw_S (S : lc_Se) (x : Nat) (u : lw_U3) (v : Nat → Nat) : lc_Se := (S.1, S.2.1, lw_ad x u v, S.2.2.2)
def lw_M0 : lc_MM := fun un ro i => if un < 19 ∧ ro = 0 ∧ i = 7 then -9 else 0
theorem lw_ad_b {x : Nat} {u : lw_U3} {v : Nat → Nat} {k : Nat} (h : k < 19) : lw_ad x u v (10 * k) = u.2.1 k := by
  unfold lw_ad
  rw [if_pos (by omega), if_pos (by omega), show 10 * k / 10 = k by omega]
theorem lw_ad_a {x : Nat} {u : lw_U3} {v : Nat → Nat} {k r : Nat} (h : k < 19) (hr : r < 9) : lw_ad x u v (10 * k + (r + 1)) = u.2.2 k r := by
  unfold lw_ad
  rw [if_pos (by omega), if_neg (by omega), show (10 * k + (r + 1)) / 10 = k by omega, show (10 * k + (r + 1)) % 10 - 1 = r by omega]
theorem lw_seg (S : lc_Se) {x : Nat} {u : lw_U3} {v : Nat → Nat} {k r : Nat} (h : k < 19) (hr : r < 10) : (lw_bat S (u.2.1 k) (u.2.2 k))[r]? = some (lw_ad x u v (10 * k + r), lc_el (lw_S S x u v) (10 * k + r) (lw_M0 (lc_un (10 * k + r)) (lc_ro (10 * k + r)))) := by
  cases r with
  | zero =>
    rw [Nat.add_zero, lw_ad_b h, lc_el_b _ h, lc_un_b h, lc_ro_b h]
    unfold lc_bo lw_S lw_bat lw_M0
    simp only [lc_ad]
    have e := fun r (hr : r < 9) => lw_ad_a (x := x) (u := u) (v := v) (k := k) (r := r) h hr
    rw [e 0 (by decide), e 1 (by decide), e 2 (by decide), e 3 (by decide), e 4 (by decide), e 5 (by decide), e 6 (by decide), e 7 (by decide), e 8 (by decide)]
    simp [h]
  | succ r =>
    rw [lw_ad_a h (by omega), lc_el_a _ h (by omega) hr, lc_un_a h hr, lc_ro_a h hr]
    have eM : lw_M0 k (r + 1) = fun _ => 0 := by
      funext i
      unfold lw_M0
      simp
    rw [eM]
    rcases (show r = 0 ∨ r = 1 ∨ r = 2 ∨ r = 3 ∨ r = 4 ∨ r = 5 ∨ r = 6 ∨ r = 7 ∨ r = 8 by omega) with rfl | rfl | rfl | rfl | rfl | rfl | rfl | rfl | rfl <;> rfl
/-- the whole list, as it grew -/
def lw_m7 (S : lc_Se) (v : Nat → Nat) : va_W := [(v 0, .inl (lc_cl S 1, 7, .inl (fun _ => 0))), (v 1, .inl (lc_cl S 1, 30, .inl (fun _ => 0))), (v 2, .inl (lc_cl S 1, 60, .inl (fun _ => 0))), (v 3, .inl (lc_cl S 1, 7, .inl (fun _ => 0))), (v 4, .inl (lc_cl S 1, 30, .inl (fun _ => 0))), (v 5, .inl (lc_cl S 1, 60, .inl (fun _ => 0))), (v 6, .inl (lc_cl S 1, 1, .inl (fun _ => 0)))]
def lw_V (S : lc_Se) (x : Nat) (u : lw_U3) (v : Nat → Nat) : va_W := lw_x3 S x u ++ lw_m7 S v
def lw_po (id : Nat) : Nat := if id < 10 then id + 3 else if id < 50 then id + 147 else if id < 190 then id - 35 else if id = 190 then 1 else if id = 191 then 2 else if id = 192 then 13 else if id = 193 then 14 else if id = 194 then 0 else if id = 195 then 155 else if id = 196 then 156 else id
theorem lw_po_inj0 : ∀ a, a < 204 → ∀ b, b < 204 → lw_po a = lw_po b → a = b := by decide +kernel
theorem lw_po_inj {a b : Nat} (ha : a < 204) (hb : b < 204) (h : lw_po a = lw_po b) : a = b := lw_po_inj0 a ha b hb h
theorem lw_x3_len (S : lc_Se) (x : Nat) (u : lw_U3) : (lw_x3 S x u).length = 197 := by
  unfold lw_x3
  simp only [List.length_cons, List.length_append, lw_bat_len, lw_flat_len]
theorem lw_V_x (S : lc_Se) (x : Nat) (u : lw_U3) (v : Nat → Nat) {i : Nat} (h : i < 197) : (lw_V S x u v)[i]? = (lw_x3 S x u)[i]? := ix_in _ _ (lw_x3_len S x u) h
theorem lw_V_m (S : lc_Se) (x : Nat) (u : lw_U3) (v : Nat → Nat) (i : Nat) : (lw_V S x u v)[197 + i]? = (lw_m7 S v)[i]? := ix_app _ _ _ _ (lw_x3_len S x u)
theorem lw_V_b0 (S : lc_Se) (x : Nat) (u : lw_U3) {r : Nat} (hr : r < 10) : (lw_x3 S x u)[3 + r]? = (lw_bat S (u.2.1 0) (u.2.2 0))[r]? := by
  unfold lw_x3
  rw [Nat.add_comm 3 r]
  simp only [List.getElem?_cons_succ]
  exact ix_in _ _ rfl hr
theorem lw_V_bs (S : lc_Se) (x : Nat) (u : lw_U3) {j r : Nat} (hj : j < 14) (hr : r < 10) : (lw_x3 S x u)[15 + (10 * j + r)]? = (lw_bat S (u.2.1 (5 + j)) (u.2.2 (5 + j)))[r]? := by
  unfold lw_x3
  rw [show 15 + (10 * j + r) = 10 + (10 * j + r + 2) + 3 by omega]
  simp only [List.getElem?_cons_succ]
  rw [ix_app _ _ 10 _ (lw_bat_len _ _ _)]
  simp only [List.getElem?_cons_succ]
  rw [ix_in _ _ (lw_flat_len S _ _ 14) (by omega)]
  exact lw_flat_at S _ _ hr 14 hj
theorem lw_V_r (S : lc_Se) (x : Nat) (u : lw_U3) (i : Nat) : (lw_x3 S x u)[155 + i]? = ((u.1 4, .inl (lc_cl S 3, 2, .inr (.inr (.inr (.inr (va_up (va_up (fun _ => none) 0 (some (u.2.1 3))) 1 (some (u.2.1 4)))))))) :: (u.1 5, .inl (lc_cl S 2, 2, .inl (fun _ => 0))) :: (lw_bat S (u.2.1 1) (u.2.2 1) ++ (lw_bat S (u.2.1 2) (u.2.2 2) ++ (lw_bat S (u.2.1 3) (u.2.2 3) ++ lw_bat S (u.2.1 4) (u.2.2 4)))) : va_W)[i]? := by
  unfold lw_x3
  rw [show 155 + i = 10 + (140 + i + 2) + 3 by omega]
  simp only [List.getElem?_cons_succ]
  rw [ix_app _ _ 10 _ (lw_bat_len _ _ _)]
  simp only [List.getElem?_cons_succ]
  exact ix_app _ _ _ _ (lw_flat_len S _ _ 14)
theorem lw_V_b (S : lc_Se) (x : Nat) (u : lw_U3) {k r : Nat} (h1 : 1 ≤ k) (h2 : k < 5) (hr : r < 10) : (lw_x3 S x u)[147 + (10 * k + r)]? = (lw_bat S (u.2.1 k) (u.2.2 k))[r]? := by
  rw [show 147 + (10 * k + r) = 155 + (10 * (k - 1) + r + 2) by omega, lw_V_r]
  simp only [List.getElem?_cons_succ]
  rcases (show k = 1 ∨ k = 2 ∨ k = 3 ∨ k = 4 by omega) with rfl | rfl | rfl | rfl
  · rw [show 10 * (1 - 1) + r = r by omega]
    exact ix_in _ _ rfl hr
  · rw [show 10 * (2 - 1) + r = 10 + r by omega, ix_app _ _ 10 _ (lw_bat_len _ _ _)]
    exact ix_in _ _ rfl hr
  · rw [show 10 * (3 - 1) + r = 10 + (10 + r) by omega, ix_app _ _ 10 _ (lw_bat_len _ _ _), ix_app _ _ 10 _ (lw_bat_len _ _ _)]
    exact ix_in _ _ rfl hr
  · rw [show 10 * (4 - 1) + r = 10 + (10 + (10 + r)) by omega, ix_app _ _ 10 _ (lw_bat_len _ _ _), ix_app _ _ 10 _ (lw_bat_len _ _ _), ix_app _ _ 10 _ (lw_bat_len _ _ _)]
theorem lw_V_fin (S : lc_Se) (D : va_G) (H : Heap) (x : Nat) (u : lw_U3) (v : Nat → Nat) {id : Nat} (h : id < 204) : ∃ e : va_E, (lw_V S x u v)[lw_po id]? = some (lw_ad x u v id, e) ∧ (va_at D vwCl (lw_ad x u v id, e) H → va_at D vwCl (lw_ad x u v id, lc_el (lw_S S x u v) id (lw_M0 (lc_un id) (lc_ro id))) H) := by
  by_cases h1 : id < 190
  · refine ⟨lc_el (lw_S S x u v) id (lw_M0 (lc_un id) (lc_ro id)), ?_, fun z => z⟩
    obtain ⟨k, r, hr, rfl⟩ : ∃ k r, r < 10 ∧ id = 10 * k + r := ⟨id / 10, id % 10, by omega, by omega⟩
    have hk : k < 19 := by omega
    rw [← lw_seg S hk hr]
    by_cases a : k = 0
    · subst a
      rw [show lw_po (10 * 0 + r) = 3 + r by unfold lw_po; rw [if_pos (by omega)]; omega, lw_V_x _ _ _ _ (by omega)]
      exact lw_V_b0 S x u hr
    · by_cases b : k < 5
      · rw [show lw_po (10 * k + r) = 147 + (10 * k + r) by unfold lw_po; rw [if_neg (by omega), if_pos (by omega)]; omega, lw_V_x _ _ _ _ (by omega)]
        exact lw_V_b S x u (by omega) b hr
      · obtain ⟨j, rfl⟩ : ∃ j, k = 5 + j := ⟨k - 5, by omega⟩
        rw [show lw_po (10 * (5 + j) + r) = 15 + (10 * j + r) by unfold lw_po; rw [if_neg (by omega), if_neg (by omega), if_pos (by omega)]; omega, lw_V_x _ _ _ _ (by omega)]
        exact lw_V_bs S x u (by omega) hr
  · rcases (show id = 190 ∨ id = 191 ∨ id = 192 ∨ id = 193 ∨ id = 194 ∨ id = 195 ∨ id = 196 ∨ id = 197 ∨ id = 198 ∨ id = 199 ∨ id = 200 ∨ id = 201 ∨ id = 202 ∨ id = 203 by omega) with rfl | rfl | rfl | rfl | rfl | rfl | rfl | rfl | rfl | rfl | rfl | rfl | rfl | rfl
    · exact ⟨_, (lw_V_x S x u v (i := 1) (by decide)).trans rfl, fun z => z⟩
    · exact ⟨_, (lw_V_x S x u v (i := 2) (by decide)).trans rfl, fun z => z⟩
    · exact ⟨_, (lw_V_x S x u v (i := 13) (by decide)).trans rfl, fun z => z⟩
    · refine ⟨_, (lw_V_x S x u v (i := 14) (by decide)).trans rfl, fun z => ?_⟩
      refine Eq.trans z (congrArg some ?_)
      show vp_cell (lc_cl S 3) (14, .inr (.inr (.inr (.inr (lw_rf (fun j => u.2.1 (5 + j)) 14))))) = vp_cell (lc_cl S 3) (14, .inr (.inr (.inr (.inr (fun j => some (lw_ad x u v (10 * (5 + j))))))))
      rw [vp_cell_q, vp_cell_q]
      unfold arrV
      congr 2
      funext j
      have hj : j.val < 14 := j.isLt
      show va_rf (lw_rf _ 14 j.val) = va_rf (some _)
      unfold lw_rf
      rw [if_pos hj]
      exact congrArg (fun z => va_rf (some z)) (lw_ad_b (x := x) (u := u) (v := v) (k := 5 + j.val) (by omega)).symm
    · exact ⟨_, (lw_V_x S x u v (i := 0) (by decide)).trans rfl, fun z => z⟩
    · refine ⟨_, (lw_V_x S x u v (i := 155) (by decide)).trans ((lw_V_r S x u 0).trans rfl), fun z => ?_⟩
      refine Eq.trans z (congrArg some ?_)
      show vp_cell (lc_cl S 3) (2, .inr (.inr (.inr (.inr (va_up (va_up (fun _ => none) 0 (some (u.2.1 3))) 1 (some (u.2.1 4))))))) = vp_cell (lc_cl S 3) (2, .inr (.inr (.inr (.inr (fun j => some (lw_ad x u v (10 * (3 + j))))))))
      rw [vp_cell_q, vp_cell_q]
      unfold arrV
      congr 2
      funext j
      have hj : j.val < 2 := j.isLt
      rcases (show j.val = 0 ∨ j.val = 1 by omega) with e | e
      · show va_rf (va_up (va_up (fun _ => none) 0 (some _)) 1 (some _) j.val) = va_rf (some (lw_ad x u v (10 * (3 + j.val))))
        rw [e, lw_ad_b (by decide)]; rfl
      · show va_rf (va_up (va_up (fun _ => none) 0 (some _)) 1 (some _) j.val) = va_rf (some (lw_ad x u v (10 * (3 + j.val))))
        rw [e, lw_ad_b (by decide)]; rfl
    · exact ⟨_, (lw_V_x S x u v (i := 156) (by decide)).trans ((lw_V_r S x u 1).trans rfl), fun z => z⟩
    all_goals first | exact ⟨_, (lw_V_m S x u v 0).trans rfl, fun z => z⟩ | exact ⟨_, (lw_V_m S x u v 1).trans rfl, fun z => z⟩ | exact ⟨_, (lw_V_m S x u v 2).trans rfl, fun z => z⟩ | exact ⟨_, (lw_V_m S x u v 3).trans rfl, fun z => z⟩ | exact ⟨_, (lw_V_m S x u v 4).trans rfl, fun z => z⟩ | exact ⟨_, (lw_V_m S x u v 5).trans rfl, fun z => z⟩ | exact ⟨_, (lw_V_m S x u v 6).trans rfl, fun z => z⟩ | exact ⟨_, (lw_V_m S x u v 7).trans rfl, fun z => z⟩ | exact ⟨_, (lw_V_m S x u v 8).trans rfl, fun z => z⟩ | exact ⟨_, (lw_V_m S x u v 9).trans rfl, fun z => z⟩
theorem lw_conv (S : lc_Se) {x : Nat} {u : lw_U3} {v : Nat → Nat} {s : State} {H : Heap} {locs : List Loc} (hG : lw_G S (lw_V S x u v) s H locs) : lc_G (lw_S S x u v) lw_M0 s H locs := by
  obtain ⟨hK, hP, hD, hS, hb, hN, -⟩ := hG
  refine ⟨hK, fun k q hk => ?_, ⟨fun i j p q hi hj hpq => ?_, fun k q hk => ?_⟩, hS, hb, hN⟩
  · have hk' : k < 204 := by
      have := (List.getElem?_eq_some_iff.mp hk).1
      simpa [lc_w] using this
    rw [lc_w_at _ _ hk'] at hk
    cases hk
    obtain ⟨e, h1, h2⟩ := lw_V_fin S S.1 H x u v hk'
    exact h2 (hP _ _ h1)
  · have hi' : i < 204 := by
      have := (List.getElem?_eq_some_iff.mp hi).1
      simpa [lc_w] using this
    have hj' : j < 204 := by
      have := (List.getElem?_eq_some_iff.mp hj).1
      simpa [lc_w] using this
    rw [lc_w_at _ _ hi'] at hi
    rw [lc_w_at _ _ hj'] at hj
    cases hi
    cases hj
    obtain ⟨e, h1, -⟩ := lw_V_fin S S.1 H x u v hi'
    obtain ⟨f, h2, -⟩ := lw_V_fin S S.1 H x u v hj'
    exact lw_po_inj hi' hj' (hD.1 _ _ _ _ h1 h2 hpq)
  · have hk' : k < 204 := by
      have := (List.getElem?_eq_some_iff.mp hk).1
      simpa [lc_w] using this
    rw [lc_w_at _ _ hk'] at hk
    cases hk
    obtain ⟨e, h1, -⟩ := lw_V_fin S S.1 H x u v hk'
    exact hD.2 _ (lw_ad x u v k, e) h1
