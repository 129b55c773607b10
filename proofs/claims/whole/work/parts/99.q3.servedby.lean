/-! 99.q3: the reference's count of houses served, and its plan's first search -/
def kX (u z : Wd) (g q : Nat → Nat) (td : Nat → Int32) : Prop := rq u z g ∧ (∀ j, j < g 2 → wL z 254 j = lN (q j)) ∧ ∀ j, j < 6 → wI z 256 j = td j
section KX
variable {u z : Wd} {g q : Nat → Nat} {td : Nat → Int32}
theorem kX_5 {t : Nat} {x : Int32} (h : kX u z g q td) : kX u (uI z 255 t x) g q td := ⟨rq_uI (Or.inl rfl) h.1, h.2.1, fun j hj => by rw [wI_uI_ne (by decide)]; exact h.2.2 j hj⟩
theorem kX_6 {k : Nat} {x : Int32} (h : kX u z g q td) : kX u (uI z 256 k x) g q (fun j => if j = k then x else td j) := ⟨rq_uI (Or.inr rfl) h.1, h.2.1, fun j hj => by
  rw [wI_uI]
  show _ = if j = k then x else td j
  by_cases e : j = k
  · rw [if_pos e, if_pos e]
  · rw [if_neg e, if_neg e]; exact h.2.2 j hj⟩
theorem p_servedBy {e : Nat} {K : Int32 → Wd → Prop} (he : e < 41) (h26 : g 2 ≤ 6) (X : kX u z g q td) (hk : ∀ c z', c ≤ g 2 → DF (eE q td e) 0 (g 2) (g 2 - c) → kX u z' g q td → K (nI c) z') : w_X12_servedBy 245 (nI e) K z := by
  have g25 : ∀ d k m z, k + d = g 2 → kX u z g q td → (∀ t, t < 41 → wI z 255 t = if m t = 0 then -1 else nI (m t - 1)) → SB (eE q td e) (g 2) k m → l_X12_servedBy_25 K (d + 1) 245 (nI e) (nI (fb_ct (mat m) k)) (nI k) z := by
    intro d
    induction d with
    | zero =>
      intro k m z hk1 X r sb
      have : k = g 2 := by omega
      subst this
      obtain ⟨a1, a2, a3⟩ := p_rd (k := 2) X.1.2.1 (by omega) (P := fun z => z = nI (g 2)) rfl
      refine ⟨X.1.2.1.1.1, a1, a2, ?_⟩
      rw [show wI z (wR z 245 0) (2 : Int32).toNatClampNeg = nI (g 2) from a3]
      exact br_t (nI_le (Nat.le_refl _) (by omega)) (hk _ z (fb_ct_le _ _) (SB_DF sb) X)
    | succ d ih =>
      intro k m z hk1 X r sb
      obtain ⟨a1, a2, a3⟩ := p_rd (k := 2) X.1.2.1 (by omega) (P := fun z => z = nI (g 2)) rfl
      have cl := fb_ct_le (mat m) k
      refine ⟨X.1.2.1.1.1, a1, a2, ?_⟩
      rw [show wI z (wR z 245 0) (2 : Int32).toNatClampNeg = nI (g 2) from a3]
      have W : kW u (uL z 245 24 (lN 0)) g q td m 0 := ⟨rq_uL X.1, fun j hj => by rw [wL_uLn (by decide)]; exact X.2.1 j hj, X.2.2, r, by rw [wL_uL, if_pos rfl], by decide⟩
      have cnt : fb_ct (fun t => !(0 : Nat).testBit t) 41 < 42 := Nat.lt_succ_of_le (fb_ct_le _ _)
      refine br_f (nI_ge (by omega) (by omega)) ⟨42, by decide, p_finds he h26 42 k m 0 _ _ (by omega) W sb.1 sb.2.1 (SB_nok sb) cnt (fun m' V' z' W' s => ?_) (fun V' z' W' f => ?_)⟩
      · obtain ⟨s1, s2⟩ := SB_s sb s
        have y := ih (k + 1) m' z' (by omega) ⟨W'.1, W'.2.1, W'.2.2.1⟩ W'.2.2.2.1 s1
        rw [s2] at y
        rw [show (nI k + 1 : Int32) = nI (k + 1) from nI_add k 1, show (nI (fb_ct (mat m) k) + 1 : Int32) = nI (fb_ct (mat m) k + 1) from nI_add _ 1]
        exact br_f (by decide) y
      · obtain ⟨s1, s2⟩ := SB_f sb f
        have y := ih (k + 1) m z' (by omega) ⟨W'.1, W'.2.1, W'.2.2.1⟩ W'.2.2.2.1 s1
        rw [s2] at y
        rw [show (nI k + 1 : Int32) = nI (k + 1) from nI_add k 1, show (nI (fb_ct (mat m) k) + 0 : Int32) = nI (fb_ct (mat m) k) from nI_add _ 0]
        exact br_t rfl y
  have g2 : ∀ E : Nat → Int32 → Wd → Prop, (∀ z, kX u z g q td → (∀ s, s < 41 → wI z 255 s = -1) → E 245 (nI e) z) → ∀ d t z, t + d = 41 → kX u z g q td → (∀ s, s < t → wI z 255 s = -1) → l_X12_servedBy_2 E K (d + 1) 245 (nI e) (nI t) z := by
    intro E hE d
    induction d with
    | zero =>
      intro t z ht X r
      have : t = 41 := by omega
      subst this
      exact br_t (by decide) (hE z X r)
    | succ d ih =>
      intro t z ht X r
      have m := m22 X.1.2.1
      unfold l_X12_servedBy_2
      rw [m.1, m.2.2, nI_clamp (by omega), show (nI t + 1 : Int32) = nI (t + 1) from nI_add t 1]
      refine br_f (nI_nlt (a := 40) (by omega) (by decide)) ⟨X.1.2.1.1.1, m.2.1, vp_in_nI (by omega) (by decide), ih (t + 1) _ (by omega) (kX_5 X) (fun s hs => ?_)⟩
      rw [wI_uI]
      by_cases e1 : s = t
      · rw [if_pos e1]
      · rw [if_neg e1]; exact r s (by omega)
  refine ⟨42, g2 _ (fun z1 X1 r1 => ⟨g 2 + 1, g25 (g 2) 0 (fun _ => 0) z1 (by omega) X1 (fun t ht => by rw [if_pos rfl]; exact r1 t ht) (SB_0 _ _)⟩) 41 0 z rfl X (fun s hs => absurd hs (Nat.not_lt_zero s))⟩
end KX
