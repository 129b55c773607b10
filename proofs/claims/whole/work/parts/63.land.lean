/-! 63: writes to a land of the class's -/
/-- the cells of hills that stand at h -/
def hT (w : Wd) (h t : Nat) : Prop := (h ≤ t ∧ t ≤ h + 8) ∨ t = wR w h 4 ∨ t = 1
def landT (r t : Nat) : Prop := t = r ∨ t = r + 1 ∨ t = r + 2
def aprt (w : Wd) (r h : Nat) : Prop := ∀ t, hT w h t → ¬ landT r t
theorem arr_fr {T : Nat → Prop} {w u : Wd} (e : eqW T w u) {t n : Nat} {p q : Nat → Nat} (h : arr w t n p) (ht : ¬ T t) (hq : ∀ k, k < n → q k = p k) : arr u t n q := ⟨(eqW_isK e).mpr h.1, (eqW_wn e t).trans h.2.1, fun k hk => by rw [(e.2.2.2 t ht).1, h.2.2 k hk, hq k hk]⟩
theorem HR_fr {T : Nat → Prop} {w u : Wd} (e : eqW T w u) {h : Nat} {g g' : Nat → Nat} (H : HR w h g) (hf : ∀ t, hT w h t → ¬ T t) (s : sameH g g') : HR u h g' := by
  have f : ∀ k, k ≤ 8 → ¬ T (h + k) := fun k hk => hf _ (Or.inl ⟨by omega, by omega⟩)
  have f0 := e.2.2.2 h (f 0 (by omega))
  have f4 := hf _ (Or.inr (Or.inl (rfl : wR w h 4 = wR w h 4)))
  obtain ⟨h1, ⟨h2, h3, h4⟩, h5, h6, h7, h8, h9, h10, h11⟩ := H
  refine ⟨(eqW_isK e).mpr h1, ⟨?_, ?_, ?_⟩, ⟨?_, ?_⟩, ⟨?_, ?_⟩, ⟨?_, ?_⟩, ⟨?_, ?_⟩, ⟨?_, ?_⟩, ⟨?_, ?_⟩, ?_⟩
  · rw [f0.1, h2, s 0 (by omega)]
  · rw [f0.1, h3, s 1 (by omega)]
  · rw [f0.1, h4, s 2 (by omega)]
  · rw [f0.2.2]; exact h5.1
  · exact arr_fr e h5.2 (f 1 (by omega)) (fun k hk => s _ (by omega))
  · rw [f0.2.2]; exact h6.1
  · exact arr_fr e h6.2 (f 2 (by omega)) (fun k hk => s _ (by omega))
  · rw [f0.2.2]; exact h7.1
  · exact arr_fr e h7.2 (f 4 (by omega)) (fun k hk => s _ (by omega))
  · rw [f0.2.2]; exact h8.1
  · exact arr_fr e h8.2 (f 6 (by omega)) (fun k hk => s _ (by omega))
  · rw [f0.2.2]; exact h9.1
  · exact arr_fr e h9.2 (f 7 (by omega)) (fun k hk => s _ (by omega))
  · rw [f0.2.2]; exact h10.1
  · exact arr_fr e h10.2 (f 8 (by omega)) (fun k hk => s _ (by omega))
  · rw [f0.2.2]
    rcases h11 with ⟨q1, q2, q3⟩ | q
    · exact Or.inl ⟨q1, (eqW_wn e 1).trans q2, by rw [s 3 (by omega)]; exact q3⟩
    · refine Or.inr ?_
      rw [s 3 (by omega)]
      exact arr_fr e q f4 (fun k hk => by rw [s (299 + k) (by omega)])
/-- a land, apart from its hills -/
def LA (w : Wd) (r h : Nat) (g : Nat → Nat) : Prop := LR w r h g ∧ aprt w r h
theorem aprt_fr {T : Nat → Prop} {w u : Wd} (e : eqW T w u) {r h : Nat} (hh : ¬ T h) (a : aprt w r h) : aprt u r h := fun t ht => a t (by
  unfold hT at ht ⊢
  rw [(e.2.2.2 h hh).2.2] at ht
  exact ht)
section LW2
variable {w : Wd} {r h : Nat} {g : Nat → Nat} {B : Nat} {K : Wd → Prop} {v : Nat}
theorem LA_h (L : LA w r h g) : ¬ landT r h := L.2 h (Or.inl ⟨by omega, by omega⟩)
theorem arr_up {t n k z : Nat} {p q : Nat → Nat} (ha : arr w t n p) (hq : ∀ j, j < n → q j = if j = k then z else p j) : arr (uI w t k (nI z)) t n q := ⟨ha.1, ha.2.1, fun j hj => by
  rw [sI_uI, wI_sI, hq j hj]
  unfold upd
  split
  · rfl
  · exact ha.2.2 j hj⟩
theorem LA_W (L : LA w r h g) (z : Nat) (hv : v < 10) : LA (uI w (r + 2) v (nI z)) r h (upN g (15 + v) z) := by
  have e : eqW (landT r) w (uI w (r + 2) v (nI z)) := eqW_uI (Or.inr (Or.inr rfl))
  have e2 : eqW (fun t => t = r + 2) w (uI w (r + 2) v (nI z)) := eqW_uI rfl
  obtain ⟨⟨⟨l1, l2, l3⟩, ⟨l4, l5⟩, ⟨l6, l7⟩, l8, l9⟩, a⟩ := L
  refine ⟨⟨⟨l1, l2, HR_fr e l3 a (upN_same (by omega))⟩, ⟨?_, ?_⟩, ⟨l6, ?_⟩, l8, ?_⟩, aprt_fr e (a h (Or.inl ⟨by omega, by omega⟩)) a⟩
  · rw [(e2.2.2.2 r (by omega)).1, l4, upN_n _ (by omega)]
  · rw [(e2.2.2.2 r (by omega)).1, l5, upN_n _ (by omega)]
  · exact arr_fr e2 l7 (by omega) (fun k hk => upN_n _ (by omega))
  · refine arr_up l9 (fun j hj => ?_)
    by_cases q : j = v
    · subst q; rw [upN_s, if_pos rfl]
    · rw [upN_n _ (by omega), if_neg q]
theorem LA_P (L : LA w r h g) (z : Nat) (hv : v < 10) : LA (uI w (r + 1) v (nI z)) r h (upN g (5 + v) z) := by
  have e : eqW (landT r) w (uI w (r + 1) v (nI z)) := eqW_uI (Or.inr (Or.inl rfl))
  have e2 : eqW (fun t => t = r + 1) w (uI w (r + 1) v (nI z)) := eqW_uI rfl
  obtain ⟨⟨⟨l1, l2, l3⟩, ⟨l4, l5⟩, ⟨l6, l7⟩, l8, l9⟩, a⟩ := L
  refine ⟨⟨⟨l1, l2, HR_fr e l3 a (upN_same (by omega))⟩, ⟨?_, ?_⟩, ⟨l6, ?_⟩, l8, ?_⟩, aprt_fr e (a h (Or.inl ⟨by omega, by omega⟩)) a⟩
  · rw [(e2.2.2.2 r (by omega)).1, l4, upN_n _ (by omega)]
  · rw [(e2.2.2.2 r (by omega)).1, l5, upN_n _ (by omega)]
  · refine arr_up l7 (fun j hj => ?_)
    by_cases q : j = v
    · subst q; rw [upN_s, if_pos rfl]
    · rw [upN_n _ (by omega), if_neg q]
  · exact arr_fr e2 l9 (by omega) (fun k hk => upN_n _ (by omega))
theorem LA_H (L : LA w r h g) (z : Nat) : LA (uI w r 1 (nI z)) r h (upN g 26 z) := by
  have e : eqW (landT r) w (uI w r 1 (nI z)) := eqW_uI (Or.inl rfl)
  have e2 : eqW (fun t => t = r) w (uI w r 1 (nI z)) := eqW_uI rfl
  obtain ⟨⟨⟨l1, l2, l3⟩, ⟨l4, l5⟩, ⟨l6, l7⟩, l8, l9⟩, a⟩ := L
  refine ⟨⟨⟨l1, l2, HR_fr e l3 a (upN_same (by omega))⟩, ⟨?_, ?_⟩, ⟨l6, ?_⟩, l8, ?_⟩, aprt_fr e (a h (Or.inl ⟨by omega, by omega⟩)) a⟩
  · rw [sI_uI, wI_sI, pk_us, upN_s]
  · rw [sI_uI, wI_sI, pk_un (by decide), l5, upN_n _ (by omega)]
  · exact arr_fr e2 l7 (by omega) (fun k hk => upN_n _ (by omega))
  · exact arr_fr e2 l9 (by omega) (fun k hk => upN_n _ (by omega))
theorem LA_S (L : LA w r h g) (z : Nat) : LA (uI w r 2 (nI z)) r h (upN g 25 z) := by
  have e : eqW (landT r) w (uI w r 2 (nI z)) := eqW_uI (Or.inl rfl)
  have e2 : eqW (fun t => t = r) w (uI w r 2 (nI z)) := eqW_uI rfl
  obtain ⟨⟨⟨l1, l2, l3⟩, ⟨l4, l5⟩, ⟨l6, l7⟩, l8, l9⟩, a⟩ := L
  refine ⟨⟨⟨l1, l2, HR_fr e l3 a (upN_same (by omega))⟩, ⟨?_, ?_⟩, ⟨l6, ?_⟩, l8, ?_⟩, aprt_fr e (a h (Or.inl ⟨by omega, by omega⟩)) a⟩
  · rw [sI_uI, wI_sI, pk_un (by decide), l4, upN_n _ (by omega)]
  · rw [sI_uI, wI_sI, pk_us, upN_s]
  · exact arr_fr e2 l7 (by omega) (fun k hk => upN_n _ (by omega))
  · exact arr_fr e2 l9 (by omega) (fun k hk => upN_n _ (by omega))
theorem q_pour (L : LA w r h g) (hv : v < 10) {z : Nat} {x : Int32} (hx : nI (g (15 + v)) - x = nI z) (hk : K (uI w (r + 2) v (nI z))) : w_X2_pourOut r (nI v) x K w := by
  have l8 := L.1.2.2.2.1
  have l9 := L.1.2.2.2.2
  unfold w_X2_pourOut
  rw [l8, l9.2.1, nI_clamp (by omega), show wI w (r + 2) v = nI (g (15 + v)) from l9.2.2 v hv, hx]
  exact br_f (nI_pos (by omega)) ⟨L.1.1.1, l9.1, br_f (nI_ge (b := 10) hv (by decide)) ⟨vp_in_nI hv (by decide), vp_in_nI hv (by decide), hk⟩⟩
theorem q_pass (L : LA w r h g) {a b : Nat} (ha : a < 10) (hb : b < 10) (hab : a ≠ b) (h1 : 1 ≤ g (15 + a)) (hw1 : g (15 + b) < 2 ^ 30) (hw2 : g (47 + b) < 2 ^ 30) (hk : ∀ u, eqW (landT r) w u → LA u r h (giveR g a b) → K u) : w_X2_pass r (nI a) (nI b) K w := by
  have H := L.1.1.2.2
  refine ⟨L.1.1.1, q_waterOf L.1 hb ⟨L.1.1.1, ?_⟩⟩
  rw [L.1.1.2.1]
  refine ⟨H.1, q_deepOf H hb ?_⟩
  by_cases e : g (15 + b) < g (47 + b)
  · refine br_f (nI_ge e (by omega)) ⟨L.1.1.1, q_pour L ha (z := g (15 + a) - 1) (x := 1) (pk_sub (b := 1) h1) ?_⟩
    have L2 := LA_W L (v := a) (g (15 + a) - 1) ha
    refine ⟨L2.1.1.1, q_pour L2 hb (z := g (15 + b) + 1) (x := -1) ?_ ?_⟩
    · rw [upN_n _ (by omega), ← nI_1]
      apply Int32.toInt_inj.mp
      rw [Int32.toInt_sub, Int32.toInt_add]
      have : (-1 : Int32).toInt = -1 := by decide
      have : (1 : Int32).toInt = 1 := by decide
      congr 1
    · refine hk _ (eqW_trans (eqW_uI (Or.inr (Or.inr rfl))) (eqW_uI (Or.inr (Or.inr rfl)))) ?_
      unfold giveR
      rw [if_pos e]
      exact LA_W L2 (v := b) (g (15 + b) + 1) hb
  · refine br_t (nI_le (by omega) (by omega)) (hk w (eqW_refl _ _) ?_)
    unfold giveR
    rw [if_neg e]
    exact L
theorem q_dream (L : LA w r h g) {a b : Nat} (ha : a < 10) (hb : b < 10) (hab : a ≠ b) (hwa : g (15 + a) < 2 ^ 29) (hwb : g (15 + b) < 2 ^ 29) (hda : g (47 + a) < 2 ^ 29) (hdb : g (47 + b) < 2 ^ 29) (hk : ∀ u, eqW (landT r) w u → LA u r h (dreamR g a b) → K u) : w_X2_dreamLevel r (nI a) (nI b) K w := by
  refine ⟨L.1.1.1, q_waterOf L.1 ha ⟨L.1.1.1, q_waterOf L.1 hb ?_⟩⟩
  have ed : (nI (g (15 + a)) - nI (g (15 + b))).toInt = (g (15 + a) : Int) - g (15 + b) := pk_sub_toInt (by omega) (by omega)
  have m2 : (-2 : Int32).toInt = -2 := by decide
  have p2 : (2 : Int32).toInt = 2 := by decide
  unfold dreamR at hk
  by_cases c1 : g (15 + b) + 2 ≤ g (15 + a)
  · rw [if_pos c1] at hk
    exact br_f (by rw [fa_lt, ed, p2]; omega) ⟨L.1.1.1, q_pass L ha hb hab (by omega) (by omega) (by omega) hk⟩
  rw [if_neg c1] at hk
  refine br_t (by rw [fa_lt, ed, p2]; omega) ?_
  by_cases c2 : g (15 + a) + 2 ≤ g (15 + b)
  · rw [if_pos c2] at hk
    exact br_f (by rw [fa_lt, ed, m2]; omega) ⟨L.1.1.1, q_pass L hb ha (fun e => hab e.symm) (by omega) (by omega) (by omega) hk⟩
  · rw [if_neg c2] at hk
    exact br_t (by rw [fa_lt, ed, m2]; omega) (hk w (eqW_refl _ _) L)
end LW2
