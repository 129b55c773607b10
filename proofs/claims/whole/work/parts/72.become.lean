/-! 72: a land becomes another -/
/-- the shape of a land -/
def LdS (w : Wd) (r : Nat) : Prop := isK w r 2 ∧ (wR w r 3 = r + 1 ∧ isK w (r + 1) 20 ∧ wn w (r + 1) = 10) ∧ (wR w r 4 = r + 2 ∧ isK w (r + 2) 20 ∧ wn w (r + 2) = 10)
theorem LA_LdS {w : Wd} {r h : Nat} {g : Nat → Nat} (L : LA w r h g) : LdS w r := ⟨L.1.1.1, ⟨L.1.2.2.1.1, L.1.2.2.1.2.1, L.1.2.2.1.2.2.1⟩, ⟨L.1.2.2.2.1, L.1.2.2.2.2.1, L.1.2.2.2.2.2.1⟩⟩
/-- on the way to become a land of g -/
def LB (u : Wd) (r h : Nat) (g : Nat → Nat) (i : Nat) : Prop := LdS u r ∧ wR u r 0 = h ∧ (wI u r 1 = nI (g 26) ∧ wI u r 2 = nI (g 25)) ∧ ∀ v, v < i → wI u (r + 1) v = nI (g (5 + v)) ∧ wI u (r + 2) v = nI (g (15 + v))
theorem q_become {w : Wd} {r s h : Nat} {g : Nat → Nat} {K : Wd → Prop} (D : LdS w r) (L : LA w s h g) (hs : ∀ t, landT s t → ¬ landT r t) (hf : ∀ t, hT w h t → ¬ landT r t) (hk : ∀ u, eqW (landT r) w u → LA u r h g → K u) : w_X2_become r s K w := by
  have n0 : ¬ landT r s := hs s (Or.inl rfl)
  have n1 : ¬ landT r (s + 1) := hs _ (Or.inr (Or.inl rfl))
  have n2 : ¬ landT r (s + 2) := hs _ (Or.inr (Or.inr rfl))
  have sr : s ≠ r := fun e => n0 (Or.inl e)
  have hh : ¬ landT r h := hf h (Or.inl ⟨by omega, by omega⟩)
  have F : ∀ u, eqW (landT r) w u → LA u s h g := fun u e => LA_fr e (fun t ht => ht.elim (hf t) (hs t)) L
  have go : ∀ d i u, i + d = 10 → eqW (landT r) w u → LB u r h g i → l_X2_become_26 K (d + 1) r s (nI i) u := by
    intro d
    induction d with
    | zero =>
      intro i u hi hw P
      have : i = 10 := by omega
      subst this
      refine br_t (by decide) (hk u hw ⟨⟨⟨P.1.1, P.2.1, (F u hw).1.1.2.2⟩, P.2.2.1, ⟨P.1.2.1.1, P.1.2.1.2.1, P.1.2.1.2.2, fun k hk' => (P.2.2.2 k hk').1⟩, P.1.2.2.1, P.1.2.2.2.1, P.1.2.2.2.2, fun k hk' => (P.2.2.2 k hk').2⟩, fun t ht => hf t (hT_fr hw hh ht)⟩)
    | succ d ih =>
      intro i u hi hw P
      have Lu := (F u hw).1
      have v10 : vp_in (nI i) 10 := vp_in_nI (by omega) (by decide)
      unfold l_X2_become_26
      rw [P.1.2.1.1, P.1.2.2.1, Lu.2.2.1.1, Lu.2.2.2.1, P.1.2.1.2.2, P.1.2.2.2.2, Lu.2.2.1.2.2.1, Lu.2.2.2.2.2.1, nI_clamp (by omega), nI_1]
      refine br_f (nI_ge (b := 10) (by omega) (by decide)) ⟨P.1.1, P.1.2.1.2.1, Lu.1.1, Lu.2.2.1.2.1, v10, v10, P.1.2.2.2.1, Lu.2.2.2.2.1, v10, v10, ?_⟩
      have a1 : wI u (s + 1) i = nI (g (5 + i)) := Lu.2.2.1.2.2.2 i (by omega)
      have a2 : wI (uI u (r + 1) i (nI (g (5 + i)))) (s + 2) i = nI (g (15 + i)) := by
        rw [sI_uI, wI_sIn (fun e => n2 (Or.inr (Or.inl e)))]
        exact Lu.2.2.2.2.2.2 i (by omega)
      rw [a1, a2]
      refine ih (i + 1) _ (by omega) (eqW_trans (eqW_trans hw (eqW_uI (Or.inr (Or.inl rfl)))) (eqW_uI (Or.inr (Or.inr rfl)))) ⟨P.1, P.2.1, ⟨?_, ?_⟩, fun v hv => ?_⟩
      · rw [sI_uI, sI_uI, wI_sIn (by omega), wI_sIn (by omega)]; exact P.2.2.1.1
      · rw [sI_uI, sI_uI, wI_sIn (by omega), wI_sIn (by omega)]; exact P.2.2.1.2
      · rw [sI_uI, wI_sIn (t := r + 2) (r := r + 1) (by omega), sI_uI, wI_sI, wI_sI, wI_sIn (t := r + 1) (r := r + 2) (by omega)]
        by_cases e : v = i
        · subst e; exact ⟨pk_us, pk_us⟩
        · rw [pk_un e, pk_un e]; exact P.2.2.2 v (by omega)
  have nR : ∀ k, k ≠ 0 → wR (uR w r 0 h) r k = wR w r k := fun k hk' => by
    show va_up (wR w) r (va_up (wR w r) 0 h) r k = wR w r k
    rw [va_up_self, va_up_ne _ _ hk']
  have x1 : wI (uR w r 0 h) s 1 = nI (g 26) := L.1.2.1.1
  have x2 : wI (uI (uR w r 0 h) r 1 (nI (g 26))) s 2 = nI (g 25) := by
    rw [sI_uI, wI_sIn sr]
    exact L.1.2.1.2
  unfold w_X2_become
  rw [L.1.1.2.1, x1, x2]
  refine ⟨L.1.1.1, L.1.1.2.2.1, D.1, 10 + 1, go 10 0 _ (by omega) (eqW_trans (eqW_trans (eqW_uR (Or.inl rfl)) (eqW_uI (Or.inl rfl))) (eqW_uI (Or.inl rfl))) ⟨⟨D.1, ⟨(nR 3 (by decide)).trans D.2.1.1, D.2.1.2⟩, ⟨(nR 4 (by decide)).trans D.2.2.1, D.2.2.2⟩⟩, ?_, ⟨?_, ?_⟩, fun v hv => absurd hv (Nat.not_lt_zero v)⟩⟩
  · show va_up (wR w) r (va_up (wR w r) 0 h) r 0 = h
    rw [va_up_self, va_up_self]
  · rw [sI_uI, wI_sI, pk_un (by decide), sI_uI, wI_sI, pk_us]
  · rw [sI_uI, wI_sI, pk_us]
