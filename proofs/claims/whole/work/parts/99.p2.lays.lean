/-! 99.p2: the reference's quiet hours; calls: quietHours, quietWell, dry -/
def rP (t : Nat) : Prop := refT 245 t ∨ t = 254
def rp (u z : Wd) (g : Nat → Nat) (t : Nat) : Prop := ∃ v, stR u v ∧ wI v 245 4 = 0 ∧ (∀ k, k < 22 → wI v 252 k = nI (g (5 + k))) ∧ eqW rP v z ∧ RS z 245 (hrs g t)
section LQ
variable {u : Wd} {B t : Nat} {g : Nat → Nat}
theorem rp_RS {z : Wd} (R : rp u z g t) : RS z 245 (hrs g t) := by
  obtain ⟨v, -, -, -, -, h⟩ := R
  exact h
theorem rp_4 {z : Wd} {k : Nat} {x : Int64} (R : rp u z g t) : rp u (uL z 254 k x) g t := by
  obtain ⟨v, h1, h2, h3, h4, h5⟩ := R
  exact ⟨v, h1, h2, h3, eqW_trans h4 (eqW_uL (Or.inr rfl)), h5⟩
theorem rp_e {z z' : Wd} (R : rp u z g t) (e : eqW (fun t => t = 251) z z') (R' : RS z' 245 (hrs g t)) : rp u z' g t := by
  obtain ⟨v, h1, h2, h3, h4, h5⟩ := R
  exact ⟨v, h1, h2, h3, eqW_trans h4 (eqW_mono (fun t z => Or.inl (Or.inr z)) e), R'⟩
theorem rp_hour {K : Wd → Prop} {z : Wd} (hW : WF g B) (hB : B + t + 1 < 2 ^ 24) (R : rp u z g t) (hk : ∀ z', eqW (refT 245) z z' → rp u z' g (t + 1) → K z') : w_X12_hour 245 K z := by
  obtain ⟨v, h1, h2, h3, h4, h5⟩ := R
  have y := hrs_WF hW (k := t) (by omega)
  exact p_hour h5 y.1 hB (fun z' hz' Rz' => hk z' hz' ⟨v, h1, h2, h3, eqW_trans h4 (eqW_mono (fun _ => Or.inl) hz'), Rz'⟩)
theorem rp_back {K : Wd → Prop} {z : Wd} (hW : WF g B) (hB : B + t < 2 ^ 24) (R : rp u z g t) (hk : ∀ z', eqW (refT 245) z z' → rq u z' g → K z') : w_X12_putsBack 245 K z := by
  obtain ⟨v, h1, h2, h3, h4, h5⟩ := R
  have y := hrs_WF hW (k := t) hB
  refine p_back (g0 := g) h5 (fun k hk' => by rw [(h4.2.2.2 252 (by unfold rP refT; omega)).1]; exact h3 k hk') y.2 (fun z' hz' Rz' => hk z' hz' ?_)
  have e := eqW_trans h4 (eqW_mono (fun _ => Or.inl) hz')
  exact ⟨stR_trans h1 (stR_e h1.2.1 e (fun t z => by unfold rP refT at z; unfold rS; omega)), Rz', by rw [(e.2.2.2 245 (by unfold rP refT; omega)).1]; exact h2⟩
theorem m21 {z : Wd} {G : Nat → Nat} (R : RS z 245 G) : wR z 245 21 = 254 ∧ isK z 254 21 ∧ wn z 254 = 6 := R.1.2.2.2.2.2.1
def rw4 (z : Wd) (g : Nat → Nat) (t k : Nat) : Prop := ∀ j, j < g 2 → wL z 254 j = lN (if j < k then qm g j (t + 1) else qm g j t)
theorem lN_or0 {a : Nat} (h : a < 2 ^ 64) : lN a ||| 0 = lN a := by
  have z := wb_or h (b := 0) (by decide)
  rw [Nat.or_zero] at z
  exact z
theorem p_laysQuiet {K : Wd → Prop} {v : Wd} (N : rq u v g) (hW : WF g B) (hB : B + 99 < 2 ^ 24) (hk : ∀ z, rq u z g → (∀ j, j < g 2 → wL z 254 j = lN (qm g j 41)) → K z) : w_X12_laysQuiet 245 K v := by
  have h26 := hW.1.1.2.2.1
  have g31 : ∀ d t z, t + d = 41 → rp u z g t → rw4 z g t 0 → l_X12_laysQuiet_31 K (d + 1) 245 (nI t) z := by
    intro d
    induction d with
    | zero =>
      intro t z ht R r
      have : t = 41 := by omega
      subst this
      refine br_t (by decide) ⟨(rp_RS R).1.1, rp_back hW (by omega) R (fun z' e' N' => hk z' N' (fun j hj => ?_))⟩
      rw [(e'.2.2.2 254 (by unfold refT; omega)).2.1, r j hj, if_neg (Nat.not_lt_zero j)]
    | succ d ih =>
      intro t z ht R r
      have zW := hrs_WF hW (k := t) (by omega)
      have e2 : hrs g t 2 = g 2 := zW.2 2 (by omega)
      have g39 : ∀ E : Nat → Int32 → Wd → Prop, (∀ z, rp u z g t → rw4 z g t (g 2) → E 245 (nI t) z) → ∀ d k z, k + d = g 2 → rp u z g t → rw4 z g t k → l_X12_laysQuiet_39 E K (d + 1) 245 (nI t) (nI k) z := by
        intro E hE d
        induction d with
        | zero =>
          intro k z hkk R r
          have : k = g 2 := by omega
          subst this
          obtain ⟨a1, a2, a3⟩ := p_rd (k := 2) (rp_RS R) (by omega) (P := fun z => z = nI (hrs g t 2)) rfl
          rw [e2] at a3
          refine ⟨(rp_RS R).1.1, a1, a2, ?_⟩
          rw [show wI z (wR z 245 0) (2 : Int32).toNatClampNeg = nI (g 2) from a3]
          exact br_t (nI_le (Nat.le_refl _) (by omega)) (hE z R r)
        | succ d ih2 =>
          intro k z hkk R r
          obtain ⟨a1, a2, a3⟩ := p_rd (k := 2) (rp_RS R) (by omega) (P := fun z => z = nI (hrs g t 2)) rfl
          rw [e2] at a3
          have m := m21 (rp_RS R)
          refine ⟨(rp_RS R).1.1, a1, a2, ?_⟩
          rw [show wI z (wR z 245 0) (2 : Int32).toNatClampNeg = nI (g 2) from a3, m.1, m.2.2, nI_clamp (by omega), r k (by omega), if_neg (Nat.lt_irrefl k)]
          refine br_f (nI_ge (by omega) (by omega)) ⟨m.2.1, vp_in_nI (by omega) (by decide), p_quietFor (rp_RS R) zW.1 (by omega) (fun z' e' R' => ?_)⟩
          have Rz := rp_e R e' R'
          have m' := m21 R'
          have rr : wL z' 254 = wL z 254 := (e'.2.2.2 254 (by omega)).2.1
          have bq : qm g k t < 2 ^ 64 := Nat.lt_of_lt_of_le (mk_lt _ t) (Nat.pow_le_pow_right (by decide) (by omega))
          rw [m'.2.2, show (nI k + 1 : Int32) = nI (k + 1) from nI_add k 1]
          have stp : ∀ x : Int64, x = lN (qm g k (t + 1)) → l_X12_laysQuiet_39 E K (d + 1) 245 (nI t) (nI (k + 1)) (uL z' 254 k x) := fun x hx => by
            refine ih2 (k + 1) _ (by omega) (rp_4 Rz) (fun j hj => ?_)
            rw [wL_uL]
            by_cases jk : j = k
            · subst jk
              rw [if_pos rfl, if_pos (Nat.lt_succ_self j), hx]
            · rw [if_neg jk, rr, r j hj]
              by_cases jl : j < k
              · rw [if_pos jl, if_pos (show j < k + 1 by omega)]
              · rw [if_neg jl, if_neg (show ¬ j < k + 1 by omega)]
          by_cases q : qf (hrs g t) k = -1
          · have e : qm g k (t + 1) = qm g k t := mk_f (by show (!decide (qf (hrs g t) k = -1)) = false; rw [decide_eq_true q]; rfl)
            exact br_t q ⟨m'.2.1, vp_in_nI (by omega) (by decide), stp _ (by rw [e]; exact lN_or0 bq)⟩
          · have e : qm g k (t + 1) = qm g k t + 2 ^ t := mk_t (by show (!decide (qf (hrs g t) k = -1)) = true; rw [decide_eq_false q]; rfl)
            exact br_f q ⟨m'.2.1, vp_in_nI (by omega) (by decide), stp _ (by rw [e]; exact lq_or _ (by omega))⟩
      refine br_f (nI_nlt (a := 40) (by omega) (by decide)) ⟨g 2 + 1, g39 _ (fun z3 R3 r3 => ⟨(rp_RS R3).1.1, rp_hour hW (by omega) R3 (fun z4 e4 R4 => ?_)⟩) (g 2) 0 z (by omega) R r⟩
      rw [show (nI t + 1 : Int32) = nI (t + 1) from nI_add t 1]
      refine ih (t + 1) z4 (by omega) R4 (fun j hj => ?_)
      rw [(e4.2.2.2 254 (by unfold refT; omega)).2.1, r3 j hj, if_neg (Nat.not_lt_zero j), if_pos hj]
  have g6 : ∀ E : Nat → Wd → Prop, (∀ z, rp u z g 0 → (∀ j, j < g 2 → wL z 254 j = lN 0) → E 245 z) → ∀ d k z, k + d = g 2 → rp u z g 0 → (∀ j, j < k → wL z 254 j = lN 0) → l_X12_laysQuiet_6 E K (d + 1) 245 (nI k) z := by
    intro E hE d
    induction d with
    | zero =>
      intro k z hkk R r
      have : k = g 2 := by omega
      subst this
      obtain ⟨a1, a2, a3⟩ := p_rd (k := 2) (rp_RS R) (by omega) (P := fun z => z = nI (g 2)) rfl
      refine ⟨(rp_RS R).1.1, a1, a2, ?_⟩
      rw [show wI z (wR z 245 0) (2 : Int32).toNatClampNeg = nI (g 2) from a3]
      exact br_t (nI_le (Nat.le_refl _) (by omega)) (hE z R r)
    | succ d ih =>
      intro k z hkk R r
      obtain ⟨a1, a2, a3⟩ := p_rd (k := 2) (rp_RS R) (by omega) (P := fun z => z = nI (g 2)) rfl
      have m := m21 (rp_RS R)
      refine ⟨(rp_RS R).1.1, a1, a2, ?_⟩
      rw [show wI z (wR z 245 0) (2 : Int32).toNatClampNeg = nI (g 2) from a3, m.1, m.2.2, nI_clamp (by omega), show (nI k + 1 : Int32) = nI (k + 1) from nI_add k 1]
      refine br_f (nI_ge (by omega) (by omega)) ⟨m.2.1, vp_in_nI (by omega) (by decide), ih (k + 1) _ (by omega) (rp_4 R) (fun j hj => ?_)⟩
      rw [wL_uL]
      by_cases e : j = k
      · rw [if_pos e]; rfl
      · rw [if_neg e]; exact r j (by omega)
  have conv : ∀ z, rh u z g 0 → rp u z g 0 := fun z R => by
    obtain ⟨v, h1, h2, h3, h4, h5⟩ := R
    exact ⟨v, h1, h2, h3, eqW_mono (fun _ => Or.inl) h4, h5⟩
  exact ⟨N.2.1.1.1, rAside N (fun z R => ⟨g 2 + 1, g6 _ (fun z1 R1 r1 => ⟨42, g31 41 0 z1 rfl R1 (fun j hj => (r1 j hj).trans (by rw [if_neg (Nat.not_lt_zero j)]; rfl))⟩) (g 2) 0 z (Nat.zero_add _) (conv z R) (fun j hj => absurd hj (Nat.not_lt_zero j))⟩)⟩
end LQ
