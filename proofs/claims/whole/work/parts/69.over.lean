/-! 69: the class's noise over a land -/
theorem eqW_uR {T : Nat → Prop} {w : Wd} {t k v : Nat} (ht : T t) : eqW T w (uR w t k v) := ⟨rfl, rfl, rfl, fun r hr => ⟨rfl, rfl, va_up_ne _ _ (fun e => hr (e ▸ ht))⟩⟩
def nA (q t : Nat) : Prop := q ≤ t ∧ t ≤ q + 4
theorem nT_nA {q t : Nat} (h : nT q t) : nA q t := by unfold nT at h; unfold nA; omega
theorem NS_fr {T : Nat → Prop} {w u : Wd} {q : Nat} (e : eqW T w u) (hq : ¬ T q) (N : NS w q) : NS u q := by
  have f0 := e.2.2.2 q hq
  refine ⟨(eqW_isK e).mpr N.1, ⟨?_, (eqW_isK e).mpr N.2.1.2.1, (eqW_wn e _).trans N.2.1.2.2⟩, ⟨?_, (eqW_isK e).mpr N.2.2.1.2.1, (eqW_wn e _).trans N.2.2.1.2.2⟩, ⟨?_, (eqW_isK e).mpr N.2.2.2.1.2.1, (eqW_wn e _).trans N.2.2.2.1.2.2⟩, ⟨?_, (eqW_isK e).mpr N.2.2.2.2.2.1, (eqW_wn e _).trans N.2.2.2.2.2.2⟩⟩
  · rw [f0.2.2]; exact N.2.1.1
  · rw [f0.2.2]; exact N.2.2.1.1
  · rw [f0.2.2]; exact N.2.2.2.1.1
  · rw [f0.2.2]; exact N.2.2.2.2.1
/-- a noise at q that looks at the land r; the first i yawns are worked out -/
def NP (u : Wd) (q r : Nat) (g : Nat → Nat) (i : Nat) : Prop := NS u q ∧ wR u q 0 = r ∧ wI u q 1 = nI (slp g) ∧ ∀ v, v < i → wI u (q + 1) v = nI (yw g v)
theorem q_nT (q : Nat) : ¬ nT q q ∧ ¬ nT q (q + 1) := by unfold nT; omega
theorem NP_fr {w u : Wd} {q r i : Nat} {g : Nat → Nat} (e : eqW (nT q) w u) (N : NP w q r g i) : NP u q r g i := by
  have f0 := e.2.2.2 q (q_nT q).1
  have f1 := e.2.2.2 (q + 1) (q_nT q).2
  exact ⟨NS_fr e (q_nT q).1 N.1, by rw [f0.2.2]; exact N.2.1, by rw [f0.1]; exact N.2.2.1, fun v hv => by rw [f1.1]; exact N.2.2.2 v hv⟩
theorem NP_wr {w : Wd} {q r i : Nat} {g : Nat → Nat} (N : NP w q r g i) : NP (uI w (q + 1) i (nI (yw g i))) q r g (i + 1) := by
  refine ⟨N.1, N.2.1, ?_, fun v hv => ?_⟩
  · rw [sI_uI, wI_sIn (by omega)]; exact N.2.2.1
  · rw [sI_uI, wI_sI]
    by_cases e : v = i
    · subst e; exact pk_us
    · rw [pk_un e]; exact N.2.2.2 v (by omega)
theorem hT_fr {T : Nat → Prop} {w u : Wd} (e : eqW T w u) {h t : Nat} (hh : ¬ T h) (z : hT u h t) : hT w h t := by
  unfold hT at z ⊢
  rw [(e.2.2.2 h hh).2.2] at z
  exact z
section OV
variable {w : Wd} {q r h : Nat} {g : Nat → Nat} {B : Nat}
theorem q_over {K : Wd → Prop} (N : NS w q) (L : LA w r h g) (hr : r ≠ 0) (hW : WF g B) (hf : ∀ t, hT w h t ∨ landT r t → ¬ nA q t) (hk : ∀ u, eqW (nA q) w u → NP u q r g 10 → LA u r h g → K u) : w_X4_over q r K w := by
  have h10 := hW.1.1.2.1
  have hz := set_lt hW.1 (slp_lt g)
  have qq : nA q q := ⟨by omega, by omega⟩
  have q1 : nA q (q + 1) := ⟨by omega, by omega⟩
  have hh : ¬ nA q h := hf h (Or.inl (Or.inl ⟨by omega, by omega⟩))
  have F : ∀ u, eqW (nA q) w u → LA u r h g := fun u e => LA_fr e hf L
  have hfu : ∀ u, eqW (nA q) w u → ∀ t, hT u h t ∨ landT r t → ¬ nT q t := fun u e t ht z => hf t (ht.imp (hT_fr e hh) id) (nT_nA z)
  have e1 : eqW (nA q) w (uR w q 0 r) := eqW_uR qq
  have e2 : eqW (nA q) w (uI (uR w q 0 r) q 1 (nI (slp g))) := eqW_trans e1 (eqW_uI qq)
  have go : ∀ d i u, i + d = 10 → eqW (nA q) w u → NP u q r g i → l_X4_over_15 K (d + 1) q (nI i) u := by
    intro d
    induction d with
    | zero =>
      intro i u hi hw P
      have : i = 10 := by omega
      subst this
      unfold l_X4_over_15
      rw [P.1.2.1.1, P.1.2.1.2.2]
      exact ⟨P.1.1, P.1.2.1.2.1, br_t (by decide) (hk u hw P (F u hw))⟩
    | succ d ih =>
      intro i u hi hw P
      unfold l_X4_over_15
      rw [P.1.2.1.1, P.1.2.1.2.2, P.2.2.1]
      refine ⟨P.1.1, P.1.2.1.2.1, br_f (nI_ge (b := 10) (by omega) (by decide)) (q_has (by omega) (by omega) ?_)⟩
      rw [nI_clamp (by omega), nI_1]
      cases e : (slp g).testBit i
      · refine br_t rfl ⟨P.1.2.1.2.1, by rw [P.1.2.1.2.2]; exact vp_in_nI (by omega) (by decide), ?_⟩
        have z := NP_wr P
        rw [show yw g i = 0 by unfold yw; rw [e]; rfl] at z
        exact ih (i + 1) _ (by omega) (eqW_trans hw (eqW_uI q1)) z
      · have hi1 : i < g 1 := by
          rw [slp_bit] at e
          simp at e
          exact e.1
        refine br_f (by decide) ⟨P.1.1, q_once P.1 P.2.1 P.2.2.1 (F u hw) hW (hfu u hw) hi1 (n := 0) (by decide) (fun u' hu' => ?_)⟩
        have P' := NP_fr hu' P
        refine ⟨P'.1.2.1.2.1, by rw [P'.1.2.1.2.2]; exact vp_in_nI (by omega) (by decide), ?_⟩
        have z := NP_wr P'
        rw [show yw g i = once g i 0 by unfold yw; rw [e]; rfl] at z
        exact ih (i + 1) _ (by omega) (eqW_trans (eqW_trans hw (eqW_mono (fun _ => nT_nA) hu')) (eqW_uI q1)) z
  have n0 : ∀ k, k ≠ 0 → wR (uR w q 0 r) q k = wR w q k := fun k hk' => by
    show va_up (wR w) q (va_up (wR w q) 0 r) q k = wR w q k
    rw [va_up_self, va_up_ne _ _ hk']
  have N1 : NS (uR w q 0 r) q := ⟨N.1, ⟨(n0 2 (by decide)).trans N.2.1.1, N.2.1.2⟩, ⟨(n0 3 (by decide)).trans N.2.2.1.1, N.2.2.1.2⟩, ⟨(n0 4 (by decide)).trans N.2.2.2.1.1, N.2.2.2.1.2⟩, ⟨(n0 5 (by decide)).trans N.2.2.2.2.1, N.2.2.2.2.2⟩⟩
  refine ⟨N.1, hr, L.1.1.1, q_asleepBits (F _ e1).1 hW ⟨N.1, 10 + 1, go 10 0 _ (by omega) e2 ⟨N1, ?_, ?_, fun v hv => absurd hv (Nat.not_lt_zero v)⟩⟩⟩
  · show va_up (wR w) q (va_up (wR w q) 0 r) q 0 = r
    rw [va_up_self, va_up_self]
  · rw [sI_uI, wI_sI]; exact pk_us
theorem q_wokenBy {K : Int32 → Wd → Prop} (P : NP w q r g 10) (L : LA w r h g) (hW : WF g B) (hf : ∀ t, hT w h t ∨ landT r t → ¬ nT q t) {a n : Nat} (ha : a < g 1) (hn : n ≤ 99) (hk : ∀ u, eqW (nT q) w u → K (nI (clo g a n 0)) u) : w_X4_wokenBy q (nI a) (nI n) K w := by
  have h10 := hW.1.1.2.1
  refine ⟨P.1.1, q_once P.1 P.2.1 P.2.2.1 L hW hf ha hn (fun u hu => ?_)⟩
  have P' := NP_fr hu P
  refine ⟨P'.1.1, ?_⟩
  rw [P'.2.2.1, p_one (by omega), p_dif]
  refine q_spread P'.1 hW P'.2.2.2 (a := a) (n := n) (up := 0) (dif_lt (slp_lt g)) (fun b hb => ?_) rfl (hk u hu)
  rw [dif_bit, slp_bit, Nat.testBit_two_pow]
  simp [hb]
  exact fun _ => ⟨fun z e => z e.symm, fun z e => z e.symm⟩
end OV
