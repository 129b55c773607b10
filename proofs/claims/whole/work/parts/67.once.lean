/-! 67: whom a noise of the class's wakes at once -/
section OO
variable {w : Wd} {q r h : Nat} {g : Nat → Nat} {B : Nat}
/-- all whom a noise wakes at once -/
def once (g : Nat → Nat) (a n : Nat) : Nat := mk (fun b => wkn g a b n) (g 1)
theorem once_bit (g : Nat → Nat) (a n b : Nat) : (once g a n).testBit b = (decide (b < g 1) && wkn g a b n) := mk_bit _ _ _
theorem q_once (N : NS w q) (h0 : wR w q 0 = r) (hz : wI w q 1 = nI (slp g)) (L : LA w r h g) (hW : WF g B) (hf : ∀ t, hT w h t ∨ landT r t → ¬ nT q t) {a n : Nat} (ha : a < g 1) (hn : n ≤ 99) {K : Int32 → Wd → Prop} (hk : ∀ u, eqW (nT q) w u → K (nI (once g a n)) u) : w_X4_wokenAtOnce q (nI a) (nI n) K w := by
  have h10 := hW.1.1.2.1
  have hset := set_lt hW.1 (hW.1.2.1 a ha).2.2.2
  have hsl := slp_lt g
  have H := L.1.1.2.2
  unfold w_X4_wokenAtOnce
  rw [h0, L.1.1.2.1]
  refine ⟨N.1, L.1.1.1, H.1, q_besideOf H (by omega) ⟨N.1, 10 + 1, ?_⟩⟩
  rw [hz, fa_and]
  have hand : g (57 + a) &&& slp g < 1024 := Nat.lt_of_le_of_lt Nat.and_le_left hset
  have eb : ∀ b, (g (57 + a) &&& slp g).testBit b = (decide (b < g 1) && ((g (57 + a)).testBit b && !upb g 0 b)) := fun b => by
    rw [Nat.testBit_and, slp_bit]
    cases (g (57 + a)).testBit b <;> cases decide (b < g 1) <;> simp
  have go : ∀ d i u, i + d = 10 → eqW (nT q) w u → l_X4_wokenAtOnce_23 K (d + 1) q (nI a) (nI n) (nI (g (57 + a) &&& slp g)) (nI (mk (fun b => decide (b < g 1) && wkn g a b n) i)) (nI i) u := by
    intro d
    induction d with
    | zero =>
      intro i u hi hw
      have : i = 10 := by omega
      subst this
      refine br_t (by decide) ?_
      have e : mk (fun b => decide (b < g 1) && wkn g a b n) 10 = once g a n := mk_ext (mk_lt _ _) (mk_le _ h10) (fun k hk' => by rw [mk_bit, once_bit]; simp [hk'])
      rw [e]
      exact hk u hw
    | succ d ih =>
      intro i u hi hw
      have off : (decide (i < g 1) && wkn g a i n) = false → ∀ u, eqW (nT q) w u → l_X4_wokenAtOnce_23 K (d + 1) q (nI a) (nI n) (nI (g (57 + a) &&& slp g)) (nI (mk (fun b => decide (b < g 1) && wkn g a b n) i)) (nI i + 1) u := fun e u hw => by
        have z := ih (i + 1) u (by omega) hw
        rw [mk_f (p := fun b => decide (b < g 1) && wkn g a b n) e] at z
        rw [nI_1]
        exact z
      refine br_f (nI_ge (b := 10) (by omega) (by decide)) (q_has (by omega) (by omega) ?_)
      rw [eb]
      by_cases hi1 : i < g 1
      case neg =>
        rw [decide_eq_false hi1]
        exact br_t rfl (off (by simp [hi1]) u hw)
      rw [decide_eq_true hi1]
      cases e1 : (g (57 + a)).testBit i
      · exact br_t rfl (off (by unfold wkn; rw [e1]; simp) u hw)
      cases e2 : upb g 0 i
      case true => exact br_t rfl (off (by unfold wkn; rw [e2]; simp) u hw)
      have e3 : wkn g a i n = lawB g a i n := by unfold wkn; rw [e1, e2]; rfl
      have Lu := LA_fr hw hf L
      have Nu : NS u q := by
        have f0 := hw.2.2.2 q (fun z => by unfold nT at z; omega)
        refine ⟨(eqW_isK hw).mpr N.1, ⟨?_, (eqW_isK hw).mpr N.2.1.2.1, (eqW_wn hw _).trans N.2.1.2.2⟩, ⟨?_, (eqW_isK hw).mpr N.2.2.1.2.1, (eqW_wn hw _).trans N.2.2.1.2.2⟩, ⟨?_, (eqW_isK hw).mpr N.2.2.2.1.2.1, (eqW_wn hw _).trans N.2.2.2.1.2.2⟩, ⟨?_, (eqW_isK hw).mpr N.2.2.2.2.2.1, (eqW_wn hw _).trans N.2.2.2.2.2.2⟩⟩
        · rw [f0.2.2]; exact N.2.1.1
        · rw [f0.2.2]; exact N.2.2.1.1
        · rw [f0.2.2]; exact N.2.2.2.1.1
        · rw [f0.2.2]; exact N.2.2.2.2.1
      have h0u : wR u q 0 = r := by rw [(hw.2.2.2 q (fun z => by unfold nT at z; omega)).2.2]; exact h0
      have hfu : ∀ t, hT u h t ∨ landT r t → ¬ nT q t := fun t ht => hf t (ht.imp (fun z => by
        unfold hT at z ⊢
        rw [(hw.2.2.2 h (hf h (Or.inl (Or.inl ⟨by omega, by omega⟩)))).2.2] at z
        exact z) id)
      refine br_f (by decide) ⟨Nu.1, q_lawHolds Nu h0u Lu hW hfu ha hi1 hn (fun u' hu' => ?_)⟩
      have hw' := eqW_trans hw hu'
      rw [← e3]
      cases e5 : wkn g a i n
      · exact br_t rfl (off (by rw [e5]; simp) u' hw')
      · have z := ih (i + 1) u' (by omega) hw'
        rw [mk_t (p := fun b => decide (b < g 1) && wkn g a b n) (by simp [hi1, e5])] at z
        refine br_f (by decide) ?_
        rw [p_one (by omega), p_or _ (by omega), nI_1]
        exact z
  exact go 10 0 w (by omega) (eqW_refl _ _)
end OO
