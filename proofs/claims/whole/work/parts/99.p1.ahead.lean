/-! 99.p1: the quiet hours of every house, on both sides -/
def aP (t : Nat) : Prop := aT t ∨ t = 243 ∨ t = 244
def ap (w u : Wd) (g : Nat → Nat) (t : Nat) : Prop := cx aP w u ∧ (∃ h, LX u 82 h (hrs g t)) ∧ NS u 85
theorem aP_cS {t : Nat} (h : aP t) : cS t := h.elim aT_cS (fun z => by unfold cS; omega)
theorem aP_noH : noH aP := fun t z => z.elim (fun z => aT_noH t z) (fun z => by omega)
theorem t3_noH : noH (fun t => t = 243) := fun t z => aP_noH t (Or.inr (Or.inl z))
section AP
variable {w u : Wd} {B t : Nat} {g : Nat → Nat}
theorem ap_x (I : INVx w B g) (A : ap w u g t) : INVx u B g := by
  obtain ⟨c, ⟨h, Lu⟩, Nu⟩ := A
  exact INVx_q I c (fun _ => aP_cS) (SH_t c (fun t z => by unfold aP aT landT nA at z; omega) (LA_LdS Lu.1) Nu I.1)
theorem ap_nA {v : Wd} (A : ap w u g t) {h : Nat} (e : eqW (nA 85) u v) (L : LX v 82 h (hrs g t)) (N : NS v 85) : ap w v g t := ⟨cx_trans A.1 (cx_mono (fun _ z => Or.inl (Or.inr z)) (cx_eqW e)), ⟨h, L⟩, N⟩
theorem ap_nT {v : Wd} (A : ap w u g t) (e : eqW (nT 85) u v) : ap w v g t := by
  obtain ⟨c, ⟨h, Lu⟩, Nu⟩ := A
  exact ⟨cx_trans c (cx_mono (fun _ z => Or.inl (Or.inr (nT_nA z))) (cx_eqW e)), ⟨h, LX_cx (cx_eqW e) (fun t z => by have := nT_nA z; unfold nA at this; omega) (fun t z y => by unfold landT at z; have := nT_nA y; unfold nA at this; omega) Lu⟩, NS_fr e (q_nT 85).1 Nu⟩
theorem ap_3 {k : Nat} {v : Int64} (A : ap w u g t) : ap w (uL u 243 k v) g t := by
  obtain ⟨c, ⟨h, Lu⟩, Nu⟩ := A
  have e : cx (fun t => t = 243) u (uL u 243 k v) := cx_uL rfl
  exact ⟨cx_trans c (cx_mono (fun _ z => Or.inr (Or.inl z)) e), ⟨h, LX_cx e t3_noH (fun t z y => by unfold landT at z; omega) Lu⟩, NS_fr (eqW_uL (T := fun t => t = 243) rfl) (by omega) Nu⟩
theorem ap_hour {K : Wd → Prop} (I : INVx w B g) (hB : B + t + 1 < 2 ^ 24) (A : ap w u g t) (hk : ∀ u', eqW (landT 82) u u' → ap w u' g (t + 1) → K u') : w_X2_passHour 82 K u := by
  obtain ⟨c, ⟨h, Lu⟩, Nu⟩ := A
  have z := hrs_WF I.2.1 (k := t) (by omega)
  refine q_passHour Lu.1 z.1 hB (fun u' hu' Lu' => hk u' hu' ⟨cx_trans c (cx_mono (fun _ z => Or.inl (Or.inl z)) (cx_eqW hu')), ⟨h, LX_of (cx_mono (fun _ => Or.inl) (cx_eqW hu')) aT_noH Lu Lu'⟩, NS_fr hu' (fun z => by unfold landT at z; omega) Nu⟩)
/-- row 243 in hour t, houses before k being looked at -/
def rw3 (u : Wd) (g : Nat → Nat) (t k : Nat) : Prop := ∀ j, j < 6 → wL u 243 j = lN (if j < g 2 then (if j < k then qm g j (t + 1) else qm g j t) else 0)
theorem rw3_eq {v : Wd} (h : rw3 u g t 0) (e : wL v 243 = wL u 243) : rw3 v g t 0 := fun j hj => by rw [e]; exact h j hj
theorem q_lookP {K : Wd → Prop} (I : INVx w B g) (hB : B + 99 < 2 ^ 24) (hk : ∀ u, ap w u g 41 → (∀ j, j < 6 → wL u 243 j = lN (if j < g 2 then qm g j 41 else 0)) → K u) : w_X6_lookAhead 242 92 K w := by
  have hW := I.2.1
  have h26 := hW.1.1.2.2.1
  have g34 : ∀ d t u, t + d = 41 → ap w u g t → rw3 u g t 0 → l_X6_lookAhead_34 K (d + 1) 242 92 (nI t) u := by
    intro d
    induction d with
    | zero =>
      intro t u ht A r
      have : t = 41 := by omega
      subst this
      exact br_t (by decide) (hk u A (fun j hj => by have := r j hj; rw [if_neg (Nat.not_lt_zero j)] at this; exact this))
    | succ d ih =>
      intro t u ht A r
      have Iu := ap_x I A
      have Pl := Iu.1.2.2.2.2.2.2.2.2.2.1
      have zW := hrs_WF hW (k := t) (by omega)
      have e2 : hrs g t 2 = g 2 := zW.2 2 (by omega)
      obtain ⟨cu, ⟨h, Lu⟩, Nu⟩ := A
      unfold l_X6_lookAhead_34
      rw [Pl.2.1, Pl.2.2.1]
      refine br_f (nI_nlt (a := 40) (by omega) (by decide)) ⟨Pl.1, Nu.1, Lu.1.1.1.1, q_lookAt Nu Lu.1 (by omega) zW.1 (LX_n Lu (by omega)) (fun u1 hu1 P1 L1 => ⟨g 2 + 1, ?_⟩)⟩
      have nh : noH (nA 85) := fun t z => by unfold nA at z; omega
      have A1 : ap w u1 g t := ap_nA ⟨cu, ⟨h, Lu⟩, Nu⟩ hu1 (LX_of (cx_eqW hu1) nh Lu L1) P1.1
      have r1 : rw3 u1 g t 0 := rw3_eq r (hu1.2.2.2 243 (by unfold nA; omega)).2.1
      have g53 : ∀ E : Nat → Nat → Int32 → Wd → Prop, (∀ u, ap w u g t → rw3 u g t (g 2) → E 242 92 (nI t) u) → ∀ d k u, k + d = g 2 → ap w u g t → NP u 85 82 (hrs g t) 0 → rw3 u g t k → l_X6_lookAhead_53 E K (d + 1) 242 92 (nI t) (nI k) u := by
        intro E hE d
        induction d with
        | zero =>
          intro k u hkk A P r
          have : k = g 2 := by omega
          subst this
          have Iu := ap_x I A
          have Pl := Iu.1.2.2.2.2.2.2.2.2.2.1
          obtain ⟨h, Lx, e0, k5⟩ := x_P Iu
          have H := Lx.1.1.1.2.2
          unfold l_X6_lookAhead_53
          rw [Pl.2.2.2.1.1, Lx.1.1.1.2.1, H.2.1.2.2]
          exact ⟨Pl.1, Pl.2.2.2.1.2.1, fun _ => hE u A r, fun _ => ⟨Lx.1.1.1.1, H.1, br_t (nI_le (Nat.le_refl _) (by omega)) (hE u A r)⟩⟩
        | succ d ih2 =>
          intro k u hkk A P r
          have Iu := ap_x I A
          have Pl := Iu.1.2.2.2.2.2.2.2.2.2.1
          obtain ⟨h, Lx, e0, k5⟩ := x_P Iu
          have H := Lx.1.1.1.2.2
          obtain ⟨c8, ⟨h8, L8⟩, N8⟩ := A
          unfold l_X6_lookAhead_53
          rw [Pl.2.2.2.1.1, Pl.2.2.2.1.2.2, Lx.1.1.1.2.1, H.2.1.2.2]
          refine ⟨Pl.1, Pl.2.2.2.1.2.1, br_f (nI_ge (b := 6) (by omega) (by decide)) ⟨Lx.1.1.1.1, H.1, br_f (nI_ge (by omega) (by omega)) (q_qnow Iu.1 L8 P zW.1 (by omega) (fun u2 e2' => ?_))⟩⟩
          have A2 := ap_nT ⟨c8, ⟨h8, L8⟩, N8⟩ e2'
          have P2 := NP_fr e2' P
          have Pl2 := (ap_x I A2).1.2.2.2.2.2.2.2.2.2.1
          have rr : wL u2 243 = wL u 243 := (e2'.2.2.2 243 (by unfold nT; omega)).2.1
          have row : wL u2 243 k = lN (qm g k t) := by
            rw [rr, r k (by omega), if_pos (by omega), if_neg (Nat.lt_irrefl k)]
          rw [show (nI k + 1 : Int32) = nI (k + 1) from nI_add k 1, Pl2.2.2.2.1.1, Pl2.2.2.2.1.2.2, nI_clamp (by omega), row]
          by_cases q : qf (hrs g t) k = -1
          · refine br_t q (ih2 (k + 1) u2 (by omega) A2 P2 (fun j hj => ?_))
            rw [rr, r j hj]
            have e : qm g k (t + 1) = qm g k t := mk_f (by show (!decide (qf (hrs g t) k = -1)) = false; rw [decide_eq_true q]; rfl)
            by_cases jk : j = k
            · subst jk
              rw [if_neg (Nat.lt_irrefl j), if_pos (Nat.lt_succ_self j), e]
            · by_cases jl : j < k
              · rw [if_pos jl, if_pos (show j < k + 1 by omega)]
              · rw [if_neg jl, if_neg (show ¬ j < k + 1 by omega)]
          · have e : qm g k (t + 1) = qm g k t + 2 ^ t := mk_t (by show (!decide (qf (hrs g t) k = -1)) = true; rw [decide_eq_false q]; rfl)
            rw [show lN (qm g k t) ||| x_lshl 1 (nI t) = lN (qm g k (t + 1)) from by rw [e]; exact lq_or _ (by omega)]
            refine br_f q ⟨Pl2.1, Pl2.2.2.2.1.2.1, vp_in_nI (by omega) (by decide), vp_in_nI (by omega) (by decide), ih2 (k + 1) _ (by omega) (ap_3 A2) ⟨NS_fr (eqW_uL (T := fun t => t = 243) rfl) (by omega) P2.1, P2.2.1, P2.2.2.1, P2.2.2.2⟩ (fun j hj => ?_)⟩
            rw [wL_uL]
            by_cases jk : j = k
            · subst jk
              rw [if_pos rfl, if_pos (show j < g 2 by omega), if_pos (Nat.lt_succ_self j)]
            · rw [if_neg jk, rr, r j hj]
              by_cases jl : j < k
              · rw [if_pos jl, if_pos (show j < k + 1 by omega)]
              · rw [if_neg jl, if_neg (show ¬ j < k + 1 by omega)]
      refine g53 _ (fun u3 A3 r3 => ?_) (g 2) 0 u1 (by omega) A1 P1 r1
      have Pl3 := (ap_x I A3).1.2.2.2.2.2.2.2.2.2.1
      have LD := (ap_x I A3).1.2.2.2.2.1
      rw [Pl3.2.2.1]
      refine ⟨Pl3.1, LD.1, ap_hour I (by omega) A3 (fun u4 e4 A4 => ?_)⟩
      rw [show (nI t + 1 : Int32) = nI (t + 1) from nI_add t 1]
      refine ih (t + 1) u4 (by omega) A4 (fun j hj => ?_)
      rw [(e4.2.2.2 243 (by unfold landT; omega)).2.1, r3 j hj, if_neg (Nat.not_lt_zero j)]
      by_cases jl : j < g 2
      · rw [if_pos jl, if_pos jl, if_pos jl]
      · rw [if_neg jl, if_neg jl]
  have g2 : ∀ E : Nat → Nat → Wd → Prop, (∀ u, cx aP w u → wR u = wR w → (∀ j, j < 6 → wL u 243 j = lN 0) → E 242 92 u) → ∀ d k u, k + d = 6 → cx aP w u → wR u = wR w → (∀ j, j < k → wL u 243 j = lN 0) → l_X6_lookAhead_2 E K (d + 1) 242 92 (nI k) u := by
    intro E hE d
    induction d with
    | zero =>
      intro k u hkk c cR r
      have : k = 6 := by omega
      subst this
      have Su := SH_e c cR I.1
      have Pl := Su.2.2.2.2.2.2.2.2.2.1
      unfold l_X6_lookAhead_2
      rw [Pl.2.2.2.1.1, Pl.2.2.2.1.2.2]
      exact ⟨Pl.1, Pl.2.2.2.1.2.1, br_t (by decide) (hE u c cR r)⟩
    | succ d ih =>
      intro k u hkk c cR r
      have Su := SH_e c cR I.1
      have Pl := Su.2.2.2.2.2.2.2.2.2.1
      unfold l_X6_lookAhead_2
      rw [Pl.2.2.2.1.1, Pl.2.2.2.1.2.2, nI_clamp (by omega), show (nI k + 1 : Int32) = nI (k + 1) from nI_add k 1]
      refine ⟨Pl.1, Pl.2.2.2.1.2.1, br_f (nI_ge (b := 6) (by omega) (by decide)) ⟨vp_in_nI (by omega) (by decide), ih (k + 1) _ (by omega) (cx_trans c (cx_uL (Or.inr (Or.inl rfl)))) cR (fun j hj => ?_)⟩⟩
      rw [wL_uL]
      by_cases e : j = k
      · rw [if_pos e]; rfl
      · rw [if_neg e]; exact r j (by omega)
  refine ⟨7, g2 _ (fun u c cR r => ?_) 6 0 w rfl (cx_refl _ _) rfl (fun j hj => absurd hj (Nat.not_lt_zero j))⟩
  have Su := SH_e c cR I.1
  have Iu : INVx u B g := INVx_q I c (fun _ => aP_cS) Su
  have Pl := Su.2.2.2.2.2.2.2.2.2.1
  obtain ⟨h, Lx, e0, k5⟩ := x_P Iu
  rw [Pl.2.2.1]
  refine ⟨Pl.1, Su.2.2.2.2.1.1, q_becomeX Su.2.2.2.2.1 Lx (by omega) (by omega) (fun u1 hu1 L1 => ⟨42, g34 41 0 u1 rfl ⟨cx_trans c (cx_mono (fun _ z => Or.inl (Or.inl z)) (cx_eqW hu1)), ⟨h, L1⟩, NS_fr hu1 (fun z => by unfold landT at z; omega) Su.2.2.2.2.2.1⟩ (fun j hj => ?_)⟩)⟩
  rw [(hu1.2.2.2 243 (by unfold landT; omega)).2.1, r j hj, if_neg (Nat.not_lt_zero j)]
  by_cases jl : j < g 2
  · rw [if_pos jl]; rfl
  · rw [if_neg jl]
end AP
