/-! 99.p3: calls: quietHours, quietWell, dry -/
section QC
variable {w : Wd} {B : Nat} {L F : Wd → Prop} {g : Nat → Nat}
theorem x242 (s : SH w) : wR w 64 8 = 242 := s.1.2.2.2.2.2.2.2.2.2.1
theorem q_hoursOf {j : Nat} {K : Int64 → Wd → Prop} (S : SH w) (hj : j < 6) (hk : K (wL w 243 j) w) : w_X6_hoursOf 242 (nI j) K w := by
  have Pl := S.2.2.2.2.2.2.2.2.2.1
  unfold w_X6_hoursOf
  rw [Pl.2.2.2.1.1, Pl.2.2.2.1.2.2, nI_clamp (by omega)]
  exact br_f (nI_pos (by omega)) ⟨Pl.1, Pl.2.2.2.1.2.1, br_f (nI_ge (b := 6) hj (by decide)) ⟨vp_in_nI hj (by decide), hk⟩⟩
theorem lN_0 {q : Nat} (h : q < 2 ^ 64) : lN q = 0 ↔ q = 0 := by
  constructor
  · intro z
    have a := wb_tn h
    rw [z] at a
    exact a.symm
  · intro z
    subst z
    rfl
theorem qm_64 (g : Nat → Nat) (k : Nat) : qm g k 41 < 2 ^ 64 := Nat.lt_of_lt_of_le (mk_lt _ 41) (Nat.pow_le_pow_right (by decide) (by decide))
theorem jn_quietHours {x : Int32} (I : INV w B) (hB : B + 99 < 2 ^ 24) (hk : ∀ u, INV u (B + 99) → L u) {K : Int32 → Wd → Prop} (hc : ∀ r w1, isK w1 245 12 → w_X12_quietHours 245 x (fun b w2 => tlT L F r b w2) w1 → K r w1) : w_L_quietHours 1 6 64 x 260 K w := by
  obtain ⟨g, I⟩ := INV_x I
  have hW := I.2.1
  have h26 := hW.1.1.2.2.1
  refine ⟨I.1.1.1, ⟨by decide, by decide⟩, I.1.1.1, ⟨by decide, by decide⟩, q_needHouse I.1 hW I.2.2.1 (fun c => ?_) (fun c N hN => ⟨rfl, ?_⟩)⟩
  · obtain ⟨k, rfl, hk2, -⟩ := isB_v c
    obtain ⟨h, Lx, e0, k5⟩ := x_P I
    rw [x242 I.1, I.1.1.2.1, e0]
    refine ⟨I.1.1.1, I.1.2.2.2.2.2.2.2.2.2.1.1, k5, Lx.1.1.1.1, q_lookP I hB (fun u A r => ?_)⟩
    have Iu := ap_x I A
    rw [x242 Iu.1]
    refine ⟨Iu.1.1.1, Iu.1.2.2.2.2.2.2.2.2.2.1.1, q_hoursOf Iu.1 (by omega) ?_⟩
    rw [r k (by omega), if_pos hk2]
    have Io := INVx_o (v := lN (qm g k 41)) Iu
    have N0 := rq_0 (val := lN (qm g k 41)) Iu
    refine INVx_out Iu (hc _ (uL u 260 0 (lN (qm g k 41))) (INVx_M Io) ⟨INVx_M Io, p_isHouse N0.2.1 hW.1 ?_⟩)
    rw [c]
    refine br_f (by decide) ⟨N0.2.1.1.1, p_laysQuiet N0 hW hB (fun z N r4 => ⟨N.2.1.1.1, ?_⟩)⟩
    have m := m21 N.2.1
    rw [m.1, m.2.2, nI_clamp (by omega), r4 k hk2]
    exact ⟨m.2.1, vp_in_nI (by omega) (by decide), rFin Iu N hB hk⟩
  · have J := INVx_J I hN
    have J1 := INVx_t (k := 4) (v := 0) J (by decide) (by decide) (by decide)
    have J2 := INVx_t (k := 4) (v := 1) J1 (by decide) (by decide) (by decide)
    refine hc _ _ (INVx_M J) ⟨INVx_M J, p_isHouse J1.2.2.2.1 hW.1 ?_⟩
    rw [c]
    exact br_t rfl ⟨INVx_M J1, INVx_M J1, finK J2 (by decide) (fw _ _) hB hk⟩
theorem rh_e {u z z' : Wd} {t : Nat} (R : rh u z g t) (e : eqW (fun t => t = 251) z z') (R' : RS z' 245 (hrs g t)) : rh u z' g t := by
  obtain ⟨v, h1, h2, h3, h4, h5⟩ := R
  exact ⟨v, h1, h2, h3, eqW_trans h4 (eqW_mono (fun t z => Or.inr z) e), R'⟩
theorem jn_quietWell {x y : Int32} (I : INV w B) (hB : B + 99 < 2 ^ 24) (hk : ∀ u, INV u (B + 99) → L u) {K : Int32 → Wd → Prop} (hc : ∀ r w1, isK w1 245 12 → w_X12_quietWell 245 x y (fun b w2 => tlT L F r b.toInt64 w2) w1 → K r w1) : w_L_quietWell 2 12 64 x y 260 K w := by
  obtain ⟨g, I⟩ := INV_x I
  have hW := I.2.1
  have h26 := hW.1.1.2.2.1
  refine ⟨I.1.1.1, ⟨by decide, by decide⟩, I.1.1.1, ⟨by decide, by decide⟩, q_needHouse I.1 hW I.2.2.1 (fun c => ⟨⟨by decide, by decide⟩, q_within 0 40 (by decide) (by decide) (fun cy => ?_) (fun cy N hN => Or.inr ⟨rfl, ?_⟩)⟩) (fun c N hN => Or.inl ⟨rfl, ?_⟩)⟩
  · obtain ⟨k, rfl, hk2, -⟩ := isB_v c
    obtain ⟨n, hn⟩ : ∃ n : Nat, y.toInt = n := ⟨y.toInt.toNat, by omega⟩
    have ey := nI_v hn
    subst ey
    have zW := hrs_WF hW (k := n) (by omega)
    have e2 : hrs g n 2 = g 2 := zW.2 2 (by omega)
    refine ⟨I.1.1.1, q_look I (by omega) (by omega) (fun u A => ?_)⟩
    have Iu := ah_x I A
    obtain ⟨a1, a2, a3, -⟩ := aLand I A
    obtain ⟨cu, ⟨h, Lu⟩, Nu⟩ := A
    rw [Iu.1.1.2.2.2.2.2.2.1, a2]
    refine ⟨a1, Nu.1, a3, q_lookAt Nu Lu.1 (by omega) zW.1 (LX_n Lu (by omega)) (fun u1 hu1 P1 L1 => ?_)⟩
    have nh : noH (nA 85) := fun t z => by unfold nA at z; omega
    have Lx1 := LX_of (cx_eqW hu1) nh Lu L1
    have A1 : ah w u1 g n := ⟨cx_trans cu (cx_mono (fun _ => Or.inr) (cx_eqW hu1)), ⟨h, Lx1⟩, P1.1⟩
    have Iu1 := ah_x I A1
    rw [x242 Iu1.1]
    refine ⟨Iu1.1.1.1, Iu1.1.2.2.2.2.2.2.2.2.2.1.1, q_qnow Iu1.1 Lx1 P1 zW.1 (by omega) (fun u2 hu2 => ?_)⟩
    have A2 : ah w u2 g n := ⟨cx_trans A1.1 (cx_mono (fun _ z => Or.inr (nT_nA z)) (cx_eqW hu2)), ⟨h, LX_cx (cx_eqW hu2) (fun t z => nh t (nT_nA z)) (fun t z q => by unfold landT at z; have := nT_nA q; unfold nA at this; omega) Lx1⟩, NS_fr hu2 (q_nT 85).1 P1.1⟩
    have I2 := ah_x I A2
    have Io := INVx_o (v := (qf (hrs g n) k).toInt64) I2
    have N0 := rq_0 (val := (qf (hrs g n) k).toInt64) I2
    refine INVx_out I2 (hc _ (uL u2 260 0 (qf (hrs g n) k).toInt64) (INVx_M Io) ⟨INVx_M Io, p_isHouse Io.2.2.2.1 hW.1 ?_⟩)
    rw [c]
    refine br_f (by decide) (p_withinI 0 40 (by decide) (by decide) ?_)
    rw [decide_eq_true cy]
    refine br_f (by decide) ⟨INVx_M Io, ?_⟩
    rw [fw]
    refine br_t (by decide) (rAside N0 (fun z0 R0 => ⟨n + 1, ?_⟩))
    have gr : ∀ d i z, i + d = n → rh (uL u2 260 0 (qf (hrs g n) k).toInt64) z g i → l_X12_quietWell_48 (fun b w2 => tlT L F 0 b.toInt64 w2) (d + 1) 245 (nI k) (nI n) (nI i) z := by
      intro d
      induction d with
      | zero =>
        intro i z hi R
        have : i = n := by omega
        subst this
        exact br_t (nI_le (Nat.le_refl _) (by omega)) ⟨(rh_RS R).1.1, p_quietFor (rh_RS R) zW.1 (by omega) (fun z1 e1 R1 => ⟨R1.1.1, rBack hW (by omega) (rh_e R e1 R1) (fun z' N' => rFin I2 N' hB hk)⟩)⟩
      | succ d ih =>
        intro i z hi R
        refine br_f (nI_ge (by omega) (by omega)) ⟨(rh_RS R).1.1, rHour hW (by omega) R (fun z' R' => ?_)⟩
        rw [show (nI i + 1 : Int32) = nI (i + 1) from nI_add i 1]
        exact ih (i + 1) z' (by omega) R'
    exact gr n 0 z0 (by omega) R0
  · have J := INVx_J I hN
    have J1 := INVx_t (k := 4) (v := 2) J (by decide) (by decide) (by decide)
    refine hc _ _ (INVx_M J) ⟨INVx_M J, p_isHouse J.2.2.2.1 hW.1 ?_⟩
    rw [c]
    refine br_f (by decide) (p_withinI 0 40 (by decide) (by decide) ?_)
    rw [decide_eq_false cy]
    refine br_t rfl ⟨INVx_M J, ?_⟩
    rw [fw]
    exact br_f (by decide) (finK J1 (by decide) (fw _ _) hB hk)
  · have J := INVx_J I hN
    have J1 := INVx_t (k := 4) (v := 1) J (by decide) (by decide) (by decide)
    refine hc _ _ (INVx_M J) ⟨INVx_M J, p_isHouse J.2.2.2.1 hW.1 ?_⟩
    rw [c]
    refine br_t rfl ⟨INVx_M J, ?_⟩
    rw [fw]
    exact br_f (by decide) (finK J1 (by decide) (fw _ _) hB hk)
theorem jn_dry (I : INV w B) (hB : B + 99 < 2 ^ 24) (hk : ∀ u, INV u (B + 99) → L u) {K : Int32 → Wd → Prop} (hc : ∀ r w1, isK w1 245 12 → w_X12_dry 245 (fun t w2 => (r = t → L w2) ∧ (¬ r = t → F w2)) w1 → K r w1) : w_X11_dry 64 K w := by
  obtain ⟨g, I⟩ := INV_x I
  have hW := I.2.1
  have h26 := hW.1.1.2.2.1
  obtain ⟨h, Lx, e0, k5⟩ := x_P I
  obtain ⟨p, hp⟩ : ∃ p : Nat → Bool, p = fun j => decide (qm g j 41 = 0) := ⟨_, rfl⟩
  unfold w_X11_dry
  rw [x242 I.1, I.1.1.2.1, e0]
  refine ⟨I.1.1.1, I.1.2.2.2.2.2.2.2.2.2.1.1, k5, Lx.1.1.1.1, q_lookP I hB (fun u A r => ⟨g 2 + 1, ?_⟩)⟩
  have Iu := ap_x I A
  obtain ⟨h', Lx', e0', k5'⟩ := x_P Iu
  have H := Lx'.1.1.1.2.2
  have ref : K (nI (mk p (g 2))) u := by
    have N0 : rq u (uI u 245 4 0) g := ⟨stR_uI Iu.1 (by decide) (by decide) (by decide), RSs Iu.2.2.2.1 (t := 245) (by omega) _, fw _ _⟩
    refine hc _ u (INVx_M Iu) ⟨INVx_M Iu, p_laysQuiet N0 hW hB (fun z N r4 => ⟨g 2 + 1, ?_⟩)⟩
    have m := m21 N.2.1
    obtain ⟨a1, a2, a3⟩ := p_rd (k := 2) N.2.1 (by omega) (P := fun z => z = nI (g 2)) rfl
    have go : ∀ d k, k + d = g 2 → l_X12_dry_13 (fun t w2 => (nI (mk p (g 2)) = t → L w2) ∧ (¬ nI (mk p (g 2)) = t → F w2)) (d + 1) 245 (nI (mk p k)) (nI k) z := by
      intro d
      induction d with
      | zero =>
        intro k hkk
        have : k = g 2 := by omega
        subst this
        refine ⟨N.2.1.1.1, a1, a2, ?_⟩
        rw [show wI z (wR z 245 0) (2 : Int32).toNatClampNeg = nI (g 2) from a3]
        exact br_t (nI_le (Nat.le_refl _) (by omega)) (br_t rfl (hk z (x_INV (INVx_r Iu N.1 N.2.1) (by omega) hB)))
      | succ d ih =>
        intro k hkk
        refine ⟨N.2.1.1.1, a1, a2, ?_⟩
        rw [show wI z (wR z 245 0) (2 : Int32).toNatClampNeg = nI (g 2) from a3, m.1, m.2.2, nI_clamp (by omega), r4 k (by omega), p_one (by omega), p_or _ (by omega), p_or0, show (nI k + 1 : Int32) = nI (k + 1) from nI_add k 1]
        refine br_f (nI_ge (by omega) (by omega)) ⟨m.2.1, vp_in_nI (by omega) (by decide), ?_⟩
        have y := ih (k + 1) (by omega)
        by_cases q : qm g k 41 = 0
        · rw [mk_t (show p k = true from by rw [hp]; exact decide_eq_true q)] at y
          exact br_t ((lg_cmp_eq _ _).mpr ((lN_0 (qm_64 g k)).mpr q)) y
        · rw [mk_f (show p k = false from by rw [hp]; exact decide_eq_false q)] at y
          exact br_f (fun e => q ((lN_0 (qm_64 g k)).mp ((lg_cmp_eq _ _).mp e))) y
    exact go (g 2) 0 (by omega)
  have go : ∀ d k, k + d = g 2 → l_X11_dry_18 K (d + 1) 64 (nI (mk p k)) (nI k) u := by
    intro d
    induction d with
    | zero =>
      intro k hkk
      have : k = g 2 := by omega
      subst this
      unfold l_X11_dry_18
      rw [Iu.1.1.2.1, e0', Lx'.1.1.1.2.1, H.2.1.2.2]
      exact ⟨Iu.1.1.1, k5', Lx'.1.1.1.1, H.1, br_t (nI_le (Nat.le_refl _) (by omega)) ref⟩
    | succ d ih =>
      intro k hkk
      unfold l_X11_dry_18
      rw [Iu.1.1.2.1, e0', Lx'.1.1.1.2.1, H.2.1.2.2, x242 Iu.1]
      refine ⟨Iu.1.1.1, k5', Lx'.1.1.1.1, H.1, br_f (nI_ge (by omega) (by omega)) ⟨Iu.1.2.2.2.2.2.2.2.2.2.1.1, q_hoursOf Iu.1 (by omega) ?_⟩⟩
      rw [r k (by omega), if_pos (show k < g 2 by omega), p_one (by omega), p_or _ (by omega), show (nI k + 1 : Int32) = nI (k + 1) from nI_add k 1]
      have y := ih (k + 1) (by omega)
      by_cases q : qm g k 41 = 0
      · rw [mk_t (show p k = true from by rw [hp]; exact decide_eq_true q)] at y
        exact br_t ((lg_cmp_eq _ _).mpr ((lN_0 (qm_64 g k)).mpr q)) y
      · rw [mk_f (show p k = false from by rw [hp]; exact decide_eq_false q)] at y
        exact br_f (fun e => q ((lN_0 (qm_64 g k)).mp ((lg_cmp_eq _ _).mp e))) y
  exact go (g 2) 0 (by omega)
end QC
