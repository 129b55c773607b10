/-! 71: the class's draw, coin, thunder upon a land -/
theorem shR_up {g : Nat → Nat} {s m k z : Nat} (hm : m ≤ 10) (hk : 15 ≤ k ∧ k < 25) : shR (upN g k z) s m = upN (shR g s m) k z := funext fun j => by
  by_cases e : j = k
  · subst e
    rw [upN_s, shR_o (by omega), upN_s]
  · rw [upN_n _ e]
    unfold shR
    by_cases c : 5 ≤ j ∧ j < 5 + m ∧ s.testBit (j - 5) = true
    · rw [if_pos c, if_pos c, upN_n _ (by omega), upN_n _ (by omega)]
    · rw [if_neg c, if_neg c, upN_n _ e]
theorem wakeR_up {g : Nat → Nat} {s k z : Nat} (hh : wfH g) (hk : 15 ≤ k ∧ k < 25) : wakeR (upN g k z) s = upN (wakeR g s) k z := by
  have h10 := hh.1.2.1
  have e1 : upN g k z 1 = g 1 := upN_n _ (by omega)
  have e25 : upN g k z 25 = g 25 := upN_n _ (by omega)
  unfold wakeR
  rw [e1, e25, shR_up h10 hk]
  split
  · funext j
    by_cases e : j = 25
    · subst e; rw [upN_s, upN_n _ (by omega), upN_s]
    · rw [upN_n _ e]
      by_cases e' : j = k
      · subst e'; rw [upN_s, upN_s]
      · rw [upN_n _ e', upN_n _ e', upN_n _ e]
  · rfl
theorem wakeR_w {g : Nat → Nat} {s j : Nat} (hh : wfH g) (hj : 15 ≤ j ∧ j < 25) : wakeR g s j = g j := by
  have h10 := hh.1.2.1
  unfold wakeR
  split
  · rw [upN_n _ (by omega), shR_o (by omega)]
  · exact shR_o (by omega)
def dT (q r t : Nat) : Prop := nA q t ∨ landT r t
section CD
variable {w : Wd} {d q r h : Nat} {g : Nat → Nat} {B : Nat} {K : Int32 → Wd → Prop} {v : Nat}
theorem q_thunderOver (L : LA w r h g) (hW : WF g B) (hk : ∀ u, eqW (landT r) w u → LA u r h (thunR g) → K (nI (cb (slp g))) u) : w_X0_thunderOver d r K w :=
  ⟨L.1.1.1, q_asleepBits L.1 hW (q_rouse L hW.1 hW.2.2.1 hW.2.2.2.2 (slp_lt g) (fun u hu Lu => p_bitCount (set_lt hW.1 (slp_lt g)) (hk u hu Lu)))⟩
theorem q_drawFrom (D : isK w d 0 ∧ wR w d 0 = q) (hd : ¬ nA q d) (N : NS w q) (L : LA w r h g) (hr : r ≠ 0) (hW : WF g B) (hf : ∀ t, hT w h t ∨ landT r t → ¬ nA q t) {n : Nat} (hv : v < g 1) (hn : n ≤ 99) (hnw : n ≤ g (15 + v)) (hk : ∀ u, eqW (dT q r) w u → LA u r h (drawR g v n) → NS u q → K (nI (cb (clo g v n 0))) u) : w_X0_drawFrom d r (nI v) (nI n) K w := by
  have h10 := hW.1.1.2.1
  have hh : ¬ nA q h := hf h (Or.inl (Or.inl ⟨by omega, by omega⟩))
  have hrq : ¬ landT r q := fun z => hf q (Or.inr z) ⟨by omega, by omega⟩
  have hc := clo_lt g v n 0
  unfold w_X0_drawFrom
  rw [D.2]
  refine ⟨D.1, N.1, q_over N L hr hW hf (fun u hu P Lu => ⟨(eqW_isK hu).mpr D.1, ?_⟩)⟩
  rw [(hu.2.2.2 d hd).2.2, D.2]
  refine ⟨P.1.1, q_wokenBy P Lu hW (fun t ht z => hf t (ht.imp (hT_fr hu hh) id) (nT_nA z)) hv hn (fun u2 hu2 => ?_)⟩
  have L2 : LA u2 r h g := LA_fr hu2 (fun t ht z => hf t (ht.imp (hT_fr hu hh) id) (nT_nA z)) Lu
  refine q_rouse L2 hW.1 hW.2.2.1 hW.2.2.2.2 hc (fun u3 hu3 L3 => ⟨L3.1.1.1, ?_⟩)
  refine q_pour L3 (v := v) (by omega) (z := g (15 + v) - n) (by rw [wakeR_w hW.1 (by omega)]; exact pk_sub hnw) (p_bitCount (set_lt hW.1 hc) ?_)
  refine hk _ (eqW_trans (eqW_trans (eqW_trans (eqW_mono (fun _ => Or.inl) hu) (eqW_mono (fun _ z => Or.inl (nT_nA z)) hu2)) (eqW_mono (fun _ => Or.inr) hu3)) (eqW_uI (Or.inr (Or.inr (Or.inr rfl))))) ?_ (NS_fr (eqW_uI (Or.inr (Or.inr rfl))) hrq (NS_fr hu3 hrq (NS_fr hu2 (q_nT q).1 P.1)))
  have z := LA_W L3 (v := v) (g (15 + v) - n) (by omega)
  unfold drawR
  rw [wakeR_up hW.1 (by omega)]
  exact z
theorem q_coinInto (D : isK w d 0 ∧ wR w d 0 = q) (hd : ¬ nA q d) (N : NS w q) (L : LA w r h g) (hr : r ≠ 0) (hW : WF g B) (hf : ∀ t, hT w h t ∨ landT r t → ¬ nA q t) (hv : v < g 1) (hk : ∀ u, eqW (dT q r) w u → LA u r h (coinR g v) → NS u q → K (nI (cb (clo g v 0 0))) u) : w_X0_coinInto d r (nI v) K w := by
  have h10 := hW.1.1.2.1
  have hh : ¬ nA q h := hf h (Or.inl (Or.inl ⟨by omega, by omega⟩))
  have hrq : ¬ landT r q := fun z => hf q (Or.inr z) ⟨by omega, by omega⟩
  have hc := clo_lt g v 0 0
  unfold w_X0_coinInto
  rw [D.2]
  refine ⟨D.1, N.1, q_over N L hr hW hf (fun u hu P Lu => ⟨(eqW_isK hu).mpr D.1, ?_⟩)⟩
  rw [(hu.2.2.2 d hd).2.2, D.2]
  refine ⟨P.1.1, q_wokenBy P Lu hW (fun t ht z => hf t (ht.imp (hT_fr hu hh) id) (nT_nA z)) hv (n := 0) (by decide) (fun u2 hu2 => ?_)⟩
  have L2 : LA u2 r h g := LA_fr hu2 (fun t ht z => hf t (ht.imp (hT_fr hu hh) id) (nT_nA z)) Lu
  refine ⟨L2.1.1.1, L2.1.1.1, q_turnTo L2 hW.1 hW.2.2.1 hW.2.2.2.2 hv (p := 0) (by decide) ?_⟩
  have L3 := LA_P L2 (v := v) (fmN 0 (g 26) (g (27 + v))) (by omega)
  have e := upN_same (g := g) (k := 5 + v) (z := fmN 0 (g 26) (g (27 + v))) (by omega)
  have q0 := upN_wfP (z := fmN 0 (g 26) (g (27 + v))) hW.1 hW.2.2.1 hv (fmN_lt (by have := (hW.1.2.1 v hv).1.1; omega))
  refine q_rouse L3 (wfH_of e hW.1) q0 hW.2.2.2.2 (by rw [upN_n _ (by omega)]; exact hc) (fun u3 hu3 L4 => p_bitCount (set_lt hW.1 hc) ?_)
  exact hk _ (eqW_trans (eqW_trans (eqW_trans (eqW_mono (fun _ => Or.inl) hu) (eqW_mono (fun _ z => Or.inl (nT_nA z)) hu2)) (eqW_uI (Or.inr (Or.inr (Or.inl rfl))))) (eqW_mono (fun _ => Or.inr) hu3)) L4 (NS_fr hu3 hrq (NS_fr (eqW_uI (Or.inr (Or.inl rfl))) hrq (NS_fr hu2 (q_nT q).1 P.1)))
end CD
