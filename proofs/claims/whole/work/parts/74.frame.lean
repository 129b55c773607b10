/-! 74: worlds that go on: new cells, frames -/
def cx (T : Nat → Prop) (w u : Wd) : Prop := wN w ≤ wN u ∧ ∀ r, r < wN w → wK u r = wK w r ∧ wn u r = wn w r ∧ (¬ T r → wI u r = wI w r ∧ wL u r = wL w r ∧ wR u r = wR w r)
theorem cx_refl (T : Nat → Prop) (w : Wd) : cx T w w := ⟨Nat.le_refl _, fun _ _ => ⟨rfl, rfl, fun _ => ⟨rfl, rfl, rfl⟩⟩⟩
theorem cx_trans {T : Nat → Prop} {w u v : Wd} (h : cx T w u) (k : cx T u v) : cx T w v := ⟨Nat.le_trans h.1 k.1, fun r hr => by
  have a := h.2 r hr
  have b := k.2 r (Nat.lt_of_lt_of_le hr h.1)
  exact ⟨b.1.trans a.1, b.2.1.trans a.2.1, fun t => ⟨(b.2.2 t).1.trans (a.2.2 t).1, (b.2.2 t).2.1.trans (a.2.2 t).2.1, (b.2.2 t).2.2.trans (a.2.2 t).2.2⟩⟩⟩
theorem cx_mono {T U : Nat → Prop} (hT : ∀ r, T r → U r) {w u : Wd} (h : cx T w u) : cx U w u := ⟨h.1, fun r hr => ⟨(h.2 r hr).1, (h.2 r hr).2.1, fun t => (h.2 r hr).2.2 (fun z => t (hT r z))⟩⟩
theorem cx_eqW {T : Nat → Prop} {w u : Wd} (h : eqW T w u) : cx T w u := ⟨by show w.1 ≤ u.1; rw [h.1]; exact Nat.le_refl _, fun r _ => ⟨congrFun h.2.1 r, congrFun h.2.2.1 r, fun t => h.2.2.2 r t⟩⟩
theorem cx_wA {T : Nat → Prop} (w : Wd) (k n : Nat) : cx T w (wA w k n) := ⟨Nat.le_succ _, fun r hr => by
  have ne : r ≠ w.1 := Nat.ne_of_lt hr
  exact ⟨va_up_ne _ _ ne, va_up_ne _ _ ne, fun _ => ⟨va_up_ne _ _ ne, va_up_ne _ _ ne, va_up_ne _ _ ne⟩⟩⟩
theorem cx_wJ {T : Nat → Prop} {w : Wd} {N : Nat} (h : wN w ≤ N) : cx T w (wJ w N) := ⟨h, fun r hr => ⟨if_neg (Nat.not_le.mpr hr), rfl, fun _ => ⟨rfl, rfl, rfl⟩⟩⟩
theorem cx_uI {T : Nat → Prop} {w : Wd} {t k : Nat} {v : Int32} (ht : T t) : cx T w (uI w t k v) := cx_eqW (eqW_uI ht)
theorem eqW_uL {T : Nat → Prop} {w : Wd} {t k : Nat} {v : Int64} (ht : T t) : eqW T w (uL w t k v) := ⟨rfl, rfl, rfl, fun r hr => ⟨rfl, va_up_ne _ _ (fun e => hr (e ▸ ht)), rfl⟩⟩
theorem cx_uL {T : Nat → Prop} {w : Wd} {t k : Nat} {v : Int64} (ht : T t) : cx T w (uL w t k v) := cx_eqW (eqW_uL ht)
theorem cx_isK {T : Nat → Prop} {w u : Wd} (h : cx T w u) {r k : Nat} (z : isK w r k) : isK u r k := ⟨z.1, Nat.lt_of_lt_of_le z.2.1 h.1, (h.2 r z.2.1).1.trans z.2.2⟩
theorem cx_wn {T : Nat → Prop} {w u : Wd} (h : cx T w u) {r k : Nat} (z : isK w r k) : wn u r = wn w r := (h.2 r z.2.1).2.1
theorem cx_at {T : Nat → Prop} {w u : Wd} (h : cx T w u) {r k : Nat} (z : isK w r k) (t : ¬ T r) : wI u r = wI w r ∧ wL u r = wL w r ∧ wR u r = wR w r := (h.2 r z.2.1).2.2 t
theorem arr_cx {T : Nat → Prop} {w u : Wd} (e : cx T w u) {t n : Nat} {p : Nat → Nat} (h : arr w t n p) (ht : ¬ T t) : arr u t n p := ⟨cx_isK e h.1, (cx_wn e h.1).trans h.2.1, fun k hk => by rw [(cx_at e h.1 ht).1]; exact h.2.2 k hk⟩
theorem HR_cx {T : Nat → Prop} {w u : Wd} (e : cx T w u) {h : Nat} {g : Nat → Nat} (H : HR w h g) (hf : ∀ t, hT w h t → ¬ T t) : HR u h g := by
  have f : ∀ k, k ≤ 8 → ¬ T (h + k) := fun k hk => hf _ (Or.inl ⟨by omega, by omega⟩)
  have f4 := hf _ (Or.inr (Or.inl (rfl : wR w h 4 = wR w h 4)))
  obtain ⟨h1, ⟨h2, h3, h4⟩, h5, h6, h7, h8, h9, h10, h11⟩ := H
  have f0 := cx_at e h1 (f 0 (by omega))
  refine ⟨cx_isK e h1, ⟨by rw [f0.1]; exact h2, by rw [f0.1]; exact h3, by rw [f0.1]; exact h4⟩, ⟨by rw [f0.2.2]; exact h5.1, arr_cx e h5.2 (f 1 (by omega))⟩, ⟨by rw [f0.2.2]; exact h6.1, arr_cx e h6.2 (f 2 (by omega))⟩, ⟨by rw [f0.2.2]; exact h7.1, arr_cx e h7.2 (f 4 (by omega))⟩, ⟨by rw [f0.2.2]; exact h8.1, arr_cx e h8.2 (f 6 (by omega))⟩, ⟨by rw [f0.2.2]; exact h9.1, arr_cx e h9.2 (f 7 (by omega))⟩, ⟨by rw [f0.2.2]; exact h10.1, arr_cx e h10.2 (f 8 (by omega))⟩, ?_⟩
  rw [f0.2.2]
  rcases h11 with ⟨q1, q2, q3⟩ | q
  · exact Or.inl ⟨q1, ((e.2 1 (Nat.lt_of_lt_of_le (by decide) (Nat.le_trans h1.1 (Nat.le_of_lt h1.2.1)))).2.1).trans q2, q3⟩
  · exact Or.inr (arr_cx e q f4)
theorem LA_cx {T : Nat → Prop} {w u : Wd} {r h : Nat} {g : Nat → Nat} (e : cx T w u) (hf : ∀ t, hT w h t ∨ landT r t → ¬ T t) (L : LA w r h g) : LA u r h g := by
  obtain ⟨⟨⟨l1, l2, l3⟩, ⟨l4, l5⟩, ⟨l6, l7⟩, l8, l9⟩, a⟩ := L
  have f0 := cx_at e l1 (hf r (Or.inr (Or.inl rfl)))
  have fh := cx_at e l3.1 (hf h (Or.inl (Or.inl ⟨by omega, by omega⟩)))
  refine ⟨⟨⟨cx_isK e l1, by rw [f0.2.2]; exact l2, HR_cx e l3 (fun t ht => hf t (Or.inl ht))⟩, ⟨by rw [f0.1]; exact l4, by rw [f0.1]; exact l5⟩, ⟨by rw [f0.2.2]; exact l6, arr_cx e l7 (hf _ (Or.inr (Or.inr (Or.inl rfl))))⟩, by rw [f0.2.2]; exact l8, arr_cx e l9 (hf _ (Or.inr (Or.inr (Or.inr rfl))))⟩, fun t ht => a t ?_⟩
  unfold hT at ht ⊢
  rw [fh.2.2] at ht
  exact ht
/-- rows that tell the same land, whatever can be undone -/
def simR (g g' : Nat → Nat) : Prop := ∀ j, j ≠ 4 → (j < 79 ∨ 299 ≤ j) → g' j = g j
theorem simR_refl (g : Nat → Nat) : simR g g := fun _ _ _ => rfl
theorem simR_symm {g g' : Nat → Nat} (h : simR g g') : simR g' g := fun j a b => (h j a b).symm
theorem simR_trans {g g' g'' : Nat → Nat} (h : simR g g') (k : simR g' g'') : simR g g'' := fun j a b => (k j a b).trans (h j a b)
theorem arr_sim {w : Wd} {t n : Nat} {p q : Nat → Nat} (h : arr w t n p) (e : ∀ k, k < n → q k = p k) : arr w t n q := ⟨h.1, h.2.1, fun k hk => by rw [h.2.2 k hk, e k hk]⟩
theorem LA_sim {w : Wd} {r h : Nat} {g g' : Nat → Nat} (s : simR g g') (L : LA w r h g) : LA w r h g' := by
  have ss : ∀ o k, o + 10 ≤ 79 → 5 ≤ o → k < 10 → g' (o + k) = g (o + k) := fun o k h1 h2 hk => s _ (by omega) (by omega)
  obtain ⟨⟨⟨l1, l2, h1, ⟨h2, h3, h4⟩, h5, h6, h7, h8, h9, h10, h11⟩, ⟨l4, l5⟩, ⟨l6, l7⟩, l8, l9⟩, a⟩ := L
  refine ⟨⟨⟨l1, l2, h1, ⟨by rw [s 0 (by omega) (by omega)]; exact h2, by rw [s 1 (by omega) (by omega)]; exact h3, by rw [s 2 (by omega) (by omega)]; exact h4⟩, ⟨h5.1, arr_sim h5.2 (fun k hk => ss 27 k (by omega) (by omega) hk)⟩, ⟨h6.1, arr_sim h6.2 (fun k hk => ss 37 k (by omega) (by omega) hk)⟩, ⟨h7.1, arr_sim h7.2 (fun k hk => ss 47 k (by omega) (by omega) hk)⟩, ⟨h8.1, arr_sim h8.2 (fun k hk => ss 57 k (by omega) (by omega) hk)⟩, ⟨h9.1, arr_sim h9.2 (fun k hk => s _ (by omega) (by omega))⟩, ⟨h10.1, arr_sim h10.2 (fun k hk => s _ (by omega) (by omega))⟩, ?_⟩, ⟨by rw [s 26 (by omega) (by omega)]; exact l4, by rw [s 25 (by omega) (by omega)]; exact l5⟩, ⟨l6, arr_sim l7 (fun k hk => ss 5 k (by omega) (by omega) hk)⟩, l8, arr_sim l9 (fun k hk => ss 15 k (by omega) (by omega) hk)⟩, a⟩
  rcases h11 with ⟨q1, q2, q3⟩ | q
  · exact Or.inl ⟨q1, q2, by rw [s 3 (by omega) (by omega)]; exact q3⟩
  · refine Or.inr ?_
    rw [s 3 (by omega) (by omega)]
    exact arr_sim q (fun k hk => by rw [s (299 + k) (by omega) (by omega)])
/-- hills stand at 73 or behind all else -/
def hOK (w : Wd) (h : Nat) : Prop := (h = 73 ∨ 261 ≤ h) ∧ (wR w h 4 = 1 ∨ 261 ≤ wR w h 4) ∧ isK w (h + 3) 20 ∧ isK w (h + 5) 20
def LX (w : Wd) (r h : Nat) (g : Nat → Nat) : Prop := LA w r h g ∧ hOK w h
/-- cells that hold no hills -/
def noH (T : Nat → Prop) : Prop := ∀ t, T t → 64 ≤ t ∧ t < 261 ∧ ¬ (73 ≤ t ∧ t ≤ 81)
theorem noH_hT {T : Nat → Prop} (hT' : noH T) {w : Wd} {h t : Nat} (o : hOK w h) (z : hT w h t) : ¬ T t := fun k => by
  have := hT' t k
  unfold hOK at o
  unfold hT at z
  omega
theorem LX_cx {T : Nat → Prop} {w u : Wd} {r h : Nat} {g : Nat → Nat} (e : cx T w u) (n : noH T) (h0 : ∀ t, landT r t → ¬ T t) (L : LX w r h g) : LX u r h g := by
  have hf : ∀ t, hT w h t → ¬ T t := fun t z => noH_hT n L.2 z
  refine ⟨LA_cx e (fun t z => z.elim (hf t) (h0 t)) L.1, L.2.1, ?_, cx_isK e L.2.2.2.1, cx_isK e L.2.2.2.2⟩
  rw [(cx_at e L.1.1.1.2.2.1 (hf h (Or.inl ⟨by omega, by omega⟩))).2.2]
  exact L.2.2.1
theorem LX_of {T : Nat → Prop} {w u : Wd} {r r' h : Nat} {g g' : Nat → Nat} (e : cx T w u) (n : noH T) (L : LX w r h g) (L' : LA u r' h g') : LX u r' h g' := by
  have hf : ∀ t, hT w h t → ¬ T t := fun t z => noH_hT n L.2 z
  refine ⟨L', L.2.1, ?_, cx_isK e L.2.2.2.1, cx_isK e L.2.2.2.2⟩
  rw [(cx_at e L.1.1.1.2.2.1 (hf h (Or.inl ⟨by omega, by omega⟩))).2.2]
  exact L.2.2.1
theorem LX_n {w : Wd} {r h : Nat} {g : Nat → Nat} (L : LX w r h g) (hr : (82 ≤ r ∧ r + 2 < 85) ∨ (89 < r ∧ r < 245)) : ∀ t, hT w h t ∨ landT r t → ¬ nA 85 t := fun t z k => by
  have o := L.2
  unfold hOK at o
  unfold hT landT at z
  unfold nA at k
  omega
theorem LX_l {w : Wd} {s h r : Nat} {g : Nat → Nat} (L : LX w s h g) (hr : 82 ≤ r ∧ r < 245) : ∀ t, hT w h t → ¬ landT r t := fun t z k => by
  have o := L.2
  unfold hOK at o
  unfold hT at z
  unfold landT at k
  omega
theorem LX_sim {w : Wd} {r h : Nat} {g g' : Nat → Nat} (s : simR g g') (L : LX w r h g) : LX w r h g' := ⟨LA_sim s L.1, L.2⟩
theorem q_becomeX {w : Wd} {r s h : Nat} {g : Nat → Nat} {K : Wd → Prop} (D : LdS w r) (L : LX w s h g) (hr : 82 ≤ r ∧ r < 245) (hs : r + 3 ≤ s ∨ s + 3 ≤ r) (hk : ∀ u, eqW (landT r) w u → LX u r h g → K u) : w_X2_become r s K w := by
  have n : noH (landT r) := fun t z => by unfold landT at z; omega
  exact q_become D L.1 (fun t z k => by unfold landT at z k; omega) (LX_l L hr) (fun u hu Lu => hk u hu (LX_of (cx_eqW hu) n L Lu))
