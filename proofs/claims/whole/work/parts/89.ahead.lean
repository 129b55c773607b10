/-! 89: hours ahead, on both sides; calls: waterIn, hasIn, fullest, loudHour, level -/
/-- the class's land ahead is t hours on -/
def ah (w u : Wd) (g : Nat → Nat) (t : Nat) : Prop := cx aT w u ∧ (∃ h, LX u 82 h (hrs g t)) ∧ NS u 85
/-- the reference is t hours on, what was is put aside -/
def rh (u z : Wd) (g : Nat → Nat) (t : Nat) : Prop := ∃ v, stR u v ∧ wI v 245 4 = 0 ∧ (∀ k, k < 22 → wI v 252 k = nI (g (5 + k))) ∧ eqW (refT 245) v z ∧ RS z 245 (hrs g t)
theorem aT_noH : noH aT := fun t z => by unfold aT landT nA at z; omega
section AH
variable {w u : Wd} {B t : Nat} {g : Nat → Nat}
theorem ah_x (I : INVx w B g) (A : ah w u g t) : INVx u B g := by
  obtain ⟨c, ⟨h, Lu⟩, Nu⟩ := A
  exact INVx_q I c (fun _ => aT_cS) (aT_SH I.1 c (LA_LdS Lu.1) Nu)
theorem aStart {K : Wd → Prop} (I : INVx w B g) (hk : ∀ u, ah w u g 0 → K u) : isK w 64 11 ∧ isK w (wR w 64 3) 2 ∧ isK w (wR w 64 0) 5 ∧ isK w (wR w (wR w 64 0) 0) 2 ∧ w_X2_become (wR w 64 3) (wR w (wR w 64 0) 0) K w := by
  obtain ⟨h, Lx, e0, k5⟩ := x_P I
  rw [I.1.1.2.2.2.2.1, I.1.1.2.1, e0]
  exact ⟨I.1.1.1, I.1.2.2.2.2.1.1, k5, Lx.1.1.1.1, q_becomeX I.1.2.2.2.2.1 Lx (by omega) (by omega) (fun u hu Lu => hk u ⟨cx_mono (fun _ => Or.inl) (cx_eqW hu), ⟨h, Lu⟩, NS_fr hu (fun z => by unfold landT at z; omega) I.1.2.2.2.2.2.1⟩)⟩
theorem aLand (I : INVx w B g) (A : ah w u g t) : isK u 64 11 ∧ wR u 64 3 = 82 ∧ isK u 82 2 ∧ ∃ h, LX u 82 h (hrs g t) := by
  have Iu := ah_x I A
  obtain ⟨c, ⟨h, Lu⟩, Nu⟩ := A
  exact ⟨Iu.1.1.1, Iu.1.1.2.2.2.2.1, Lu.1.1.1.1, h, Lu⟩
theorem aHour {K : Wd → Prop} (I : INVx w B g) (hB : B + t + 1 < 2 ^ 24) (A : ah w u g t) (hk : ∀ u', ah w u' g (t + 1) → K u') : w_X2_passHour 82 K u := by
  obtain ⟨c, ⟨h, Lu⟩, Nu⟩ := A
  have z := hrs_WF I.2.1 (k := t) (by omega)
  refine q_passHour Lu.1 z.1 hB (fun u' hu' Lu' => hk u' ⟨cx_trans c (cx_mono (fun _ => Or.inl) (cx_eqW hu')), ⟨h, LX_of (cx_mono (fun _ => Or.inl) (cx_eqW hu')) aT_noH Lu Lu'⟩, NS_fr hu' (fun z => by unfold landT at z; omega) Nu⟩)
theorem rAside {K : Wd → Prop} {v : Wd} (N : rq u v g) (hk : ∀ z, rh u z g 0 → K z) : w_X12_putsAside 245 K v := by
  refine p_aside N.2.1 (fun f hf => ?_)
  have e : eqW (fun t => t = 252) v (sI v (245 + 7) f) := eqW_sI rfl
  refine hk _ ⟨sI v (245 + 7) f, stR_trans N.1 (stR_e N.1.2.1 e (fun t z => by subst z; unfold rS; omega)), ?_, fun k hk' => ?_, eqW_refl _ _, RSs N.2.1 (by omega) f⟩
  · rw [(e.2.2.2 245 (by omega)).1]; exact N.2.2
  · show wI (sI v 252 f) 252 k = _
    rw [wI_sI]
    exact hf k hk'
theorem rh_RS {z : Wd} (R : rh u z g t) : RS z 245 (hrs g t) := by
  obtain ⟨v, -, -, -, -, h⟩ := R
  exact h
theorem rHour {K : Wd → Prop} {z : Wd} (hW : WF g B) (hB : B + t + 1 < 2 ^ 24) (R : rh u z g t) (hk : ∀ z', rh u z' g (t + 1) → K z') : w_X12_hour 245 K z := by
  obtain ⟨v, h1, h2, h3, h4, h5⟩ := R
  have y := hrs_WF hW (k := t) (by omega)
  exact p_hour h5 y.1 hB (fun z' hz' Rz' => hk z' ⟨v, h1, h2, h3, eqW_trans h4 hz', Rz'⟩)
theorem rh_s {z : Wd} (f : Nat → Int32) (R : rh u z g t) : rh u (sI z (245 + 6) f) g t := by
  obtain ⟨v, h1, h2, h3, h4, h5⟩ := R
  exact ⟨v, h1, h2, h3, eqW_trans h4 (eqW_sI (rT6 245)), RSs h5 (by omega) f⟩
theorem rBack {K : Wd → Prop} {z : Wd} (hW : WF g B) (hB : B + t < 2 ^ 24) (R : rh u z g t) (hk : ∀ z', rq u z' g → K z') : w_X12_putsBack 245 K z := by
  obtain ⟨v, h1, h2, h3, h4, h5⟩ := R
  have y := hrs_WF hW (k := t) hB
  refine p_back (g0 := g) h5 (fun k hk' => by rw [(h4.2.2.2 252 (by unfold refT; omega)).1]; exact h3 k hk') y.2 (fun z' hz' Rz' => hk z' ?_)
  have e := eqW_trans h4 hz'
  exact ⟨stR_trans h1 (stR_refT h1.2.1 e), Rz', by rw [(e.2.2.2 245 (by unfold refT; omega)).1]; exact h2⟩
theorem wsum_le {g : Nat → Nat} : ∀ m, (∀ v, v < m → g (15 + v) ≤ 99) → wsum g m ≤ 99 * m
  | 0, _ => Nat.le_refl _
  | m + 1, h => by
    have := wsum_le m (fun v hv => h v (by omega))
    have := h m (by omega)
    show wsum g m + g (15 + m) ≤ _
    omega
theorem wsum_b (hW : WF g B) : wsum g (g 1) ≤ 990 := by
  have h10 := hW.1.1.2.1
  have := wsum_le (g := g) (g 1) (fun v hv => by
    have a := hW.1.2.1 v hv
    have b : g (15 + v) ≤ g (47 + v) := (hW.2.2.1.1 v hv).2
    omega)
  omega
end AH
section JA
variable {w : Wd} {B : Nat} {L F : Wd → Prop}
theorem q_look {g : Nat → Nat} {n : Nat} {K : Wd → Prop} (I : INVx w B g) (hB : B + n < 2 ^ 24) (hn : n < 2 ^ 24) (hk : ∀ u, ah w u g n → K u) : w_X11_lookAhead 64 (nI n) K w := by
  refine aStart I (fun u A => ⟨n + 1, ?_⟩)
  have go : ∀ d i u, i + d = n → ah w u g i → l_X11_lookAhead_16 K (d + 1) 64 (nI n) (nI i) u := by
    intro d
    induction d with
    | zero =>
      intro i u hi A
      have : i = n := by omega
      subst this
      exact br_t (nI_le (Nat.le_refl _) (by omega)) (hk u A)
    | succ d ih =>
      intro i u hi A
      obtain ⟨a1, a2, a3, h, Lu⟩ := aLand I A
      unfold l_X11_lookAhead_16
      rw [a2, nI_1]
      exact br_f (nI_ge (by omega) (by omega)) ⟨a1, a3, aHour I (by omega) A (fun u' A' => ih (i + 1) u' (by omega) A')⟩
  exact go n 0 u (by omega) A
theorem jn_waterIn {x y : Int32} (I : INV w B) (hB : B + 300 < 2 ^ 24) (hk : ∀ u, INV u (B + 99) → L u) {K : Int32 → Wd → Prop} (hc : ∀ r w1, isK w1 245 12 → w_X12_waterIn 245 x y (fun b w2 => tlT L F r b.toInt64 w2) w1 → K r w1) : w_L_waterIn 2 12 64 x y 260 K w := by
  obtain ⟨g, I⟩ := INV_x I
  have hW := I.2.1
  have h10 := hW.1.1.2.1
  have hB' : B + 99 < 2 ^ 24 := by omega
  refine ⟨I.1.1.1, ⟨by decide, by decide⟩, I.1.1.1, ⟨by decide, by decide⟩, q_needWell I.1 hW I.2.2.1 (fun c => ⟨⟨by decide, by decide⟩, q_within 0 200 (by decide) (by decide) (fun cn => ?_) (fun cn N hN => Or.inr ⟨rfl, ?_⟩)⟩) (fun c N hN => Or.inl ⟨rfl, ?_⟩)⟩
  · obtain ⟨v, rfl, hv, -⟩ := isB_v c
    obtain ⟨n, hn⟩ : ∃ n : Nat, y.toInt = n := ⟨y.toInt.toNat, by omega⟩
    rw [nI_v hn]
    have zW := hrs_WF hW (k := n) (by omega)
    have z1 := zW.2 1 (by omega)
    refine ⟨I.1.1.1, q_look I (by omega) (by omega) (fun u A => ?_)⟩
    obtain ⟨a1, a2, a3, h, Lu⟩ := aLand I A
    rw [a2]
    refine ⟨a1, a3, q_waterOf Lu.1.1 (by omega) ?_⟩
    have Iu := ah_x I A
    have Io := INVx_o (v := (nI (hrs g n (15 + v))).toInt64) Iu
    have N0 := rq_0 (val := (nI (hrs g n (15 + v))).toInt64) Iu
    refine INVx_out Iu (hc _ (uL u 260 0 (nI (hrs g n (15 + v))).toInt64) (INVx_M Io) ⟨INVx_M Io, p_isWell Io.2.2.2.1 hW.1 ?_⟩)
    rw [i64_32, c]
    refine br_f (by decide) (p_withinI 0 200 (by decide) (by decide) ?_)
    rw [decide_eq_true cn, nI_v hn]
    refine br_f (by decide) ⟨INVx_M Io, ?_⟩
    rw [fw]
    refine br_t (by decide) (rAside N0 (fun z0 R0 => ⟨n + 1, ?_⟩))
    have go : ∀ E : Nat → Int32 → Wd → Prop, ∀ KK, (∀ z, rh (uL u 260 0 (nI (hrs g n (15 + v))).toInt64) z g n → E 245 (nI v) z) → ∀ d i z, i + d = n → rh (uL u 260 0 (nI (hrs g n (15 + v))).toInt64) z g i → l_X12_waterIn_49 E KK (d + 1) 245 (nI v) (nI n) (nI i) z := by
      intro E KK hE d
      induction d with
      | zero =>
        intro i z hi R
        have : i = n := by omega
        subst this
        exact br_t (nI_le (Nat.le_refl _) (by omega)) (hE z R)
      | succ d ih =>
        intro i z hi R
        refine br_f (nI_ge (by omega) (by omega)) ⟨(rh_RS R).1.1, rHour hW (by omega) R (fun z' R' => ?_)⟩
        rw [nI_1]
        exact ih (i + 1) z' (by omega) R'
    refine go _ _ (fun z R => ?_) n 0 z0 (by omega) R0
    have Rz := rh_RS R
    obtain ⟨b1, b2, b3⟩ := p_rd (k := 15 + v) Rz (by omega) (P := fun q => q = nI (hrs g n (15 + v))) rfl
    rw [show nI (15 + v) = 15 + nI v from (nI_add 15 v).symm] at b2 b3
    refine ⟨Rz.1.1, b1, b2, rBack hW (by omega) R (fun z' N' => ?_)⟩
    rw [b3]
    exact rFin Iu N' hB' hk
  · have J := INVx_J I hN
    have J1 := INVx_t (k := 4) (v := 2) J (by decide) (by decide) (by decide)
    refine hc _ _ (INVx_M J) ⟨INVx_M J, p_isWell J.2.2.2.1 hW.1 ?_⟩
    rw [i64_32, c]
    refine br_f (by decide) (p_withinI 0 200 (by decide) (by decide) ?_)
    rw [decide_eq_false cn]
    refine br_t rfl ⟨INVx_M J, ?_⟩
    rw [fw]
    exact br_f (by decide) (finK J1 (by decide) (fw _ _) hB' hk)
  · have J := INVx_J I hN
    have J1 := INVx_t (k := 4) (v := 1) J (by decide) (by decide) (by decide)
    refine hc _ _ (INVx_M J) ⟨INVx_M J, p_isWell J.2.2.2.1 hW.1 ?_⟩
    rw [i64_32, c]
    refine br_t rfl ⟨INVx_M J, ?_⟩
    rw [fw]
    exact br_f (by decide) (finK J1 (by decide) (fw _ _) hB' hk)
theorem jn_hasIn {x y : Int32} (I : INV w B) (hB : B + 300 < 2 ^ 24) (hk : ∀ u, INV u (B + 99) → L u) {K : Int32 → Wd → Prop} (hc : ∀ r w1, isK w1 245 12 → w_X12_hasIn 245 x y (fun b w2 => tlT L F r b.toInt64 w2) w1 → K r w1) : w_L_hasIn 2 12 64 x y 260 K w := by
  obtain ⟨g, I⟩ := INV_x I
  have hW := I.2.1
  have h10 := hW.1.1.2.1
  have hB' : B + 99 < 2 ^ 24 := by omega
  have yl := Int32.toInt_lt y
  have p0 : (0 : Int32).toInt = 0 := by decide
  refine ⟨I.1.1.1, ⟨by decide, by decide⟩, I.1.1.1, ⟨by decide, by decide⟩, q_needWell I.1 hW I.2.2.1 (fun c => ⟨⟨by decide, by decide⟩, q_within 0 2147483647 (by decide) (by decide) (fun cn => ?_) (fun cn N hN => Or.inr ⟨rfl, ?_⟩)⟩) (fun c N hN => Or.inl ⟨rfl, ?_⟩)⟩
  · obtain ⟨v, rfl, hv, -⟩ := isB_v c
    obtain ⟨n, hn⟩ : ∃ n : Nat, y.toInt = n := ⟨y.toInt.toNat, by omega⟩
    have hn31 : n < 2 ^ 31 := by omega
    rw [nI_v hn]
    have wz : ∀ t, t ≤ 201 → hrs g t (15 + v) ≤ 99 := fun t ht => by
      have z := hrs_WF hW (k := t) (by omega)
      have z1 := z.2 1 (by omega)
      have a := z.1.1.2.1 v (by omega)
      have b : hrs g t (15 + v) ≤ hrs g t (47 + v) := (z.1.2.2.1.1 v (by omega)).2
      omega
    obtain ⟨k, k1, k2, k3⟩ := jd_ex (fun t => if n ≤ hrs g t (15 + v) then 1 else 0) 201
    have k2' : ∀ j, j < k → hrs g j (15 + v) < n := fun j hj => by
      have : (if n ≤ hrs g j (15 + v) then 1 else 0) = 0 := k2 j hj
      split at this
      · cases this
      · omega
    have k3' : k < 201 → n ≤ hrs g k (15 + v) := fun hk' => Classical.byContradiction fun z => k3 hk' (show (if n ≤ hrs g k (15 + v) then 1 else 0) = 0 by rw [if_neg z])
    obtain ⟨ans, hans⟩ : ∃ ans : Int32, ans = if k < 201 then nI k else -1 := ⟨_, rfl⟩
    refine aStart I (fun u A => ⟨k + 1, ?_⟩)
    have go : ∀ E : Int32 → Wd → Prop, ∀ X t, (∀ u, ah w u g t → ah w u g t) → (∀ u t, ah w u g t → E ans u) → ∀ d i u, i + d = k → ah w u g i → l_X11_hasIn_29 2 12 X E (d + 1) 64 (nI v) (nI n) (nI i) 2 12 u := by
      intro E X t _ hE d
      induction d with
      | zero =>
        intro i u hi A
        have : i = k := by omega
        subst this
        obtain ⟨a1, a2, a3, h, Lu⟩ := aLand I A
        have z := hE u i A
        unfold l_X11_hasIn_29
        rw [a2]
        by_cases ek : i < 201
        · rw [hans, if_pos ek] at z
          have := wz i (by omega)
          exact br_f (nI_nlt (a := 200) (by omega) (by decide)) ⟨a1, a3, q_waterOf Lu.1.1 (by omega) (br_f (nI_nlt (k3' ek) (by omega)) z)⟩
        · rw [hans, if_neg ek] at z
          exact br_t (nI_lt (a := 200) (by omega) (by omega)) z
      | succ d ih =>
        intro i u hi A
        obtain ⟨a1, a2, a3, h, Lu⟩ := aLand I A
        unfold l_X11_hasIn_29
        rw [a2]
        refine br_f (nI_nlt (a := 200) (by omega) (by decide)) ⟨a1, a3, q_waterOf Lu.1.1 (by omega) (br_t (nI_lt (k2' i (by omega)) hn31) ⟨a1, ?_⟩)⟩
        rw [a2, nI_1]
        exact ⟨a3, aHour I (by omega) A (fun u' A' => ih (i + 1) u' (by omega) A')⟩
    refine go _ _ 0 (fun _ z => z) (fun u t A => ?_) k 0 u (by omega) A
    have Iu := ah_x I A
    have Io := INVx_o (v := ans.toInt64) Iu
    have N0 := rq_0 (val := ans.toInt64) Iu
    refine INVx_out Iu (hc _ (uL u 260 0 ans.toInt64) (INVx_M Io) ⟨INVx_M Io, p_isWell Io.2.2.2.1 hW.1 ?_⟩)
    rw [i64_32, c, nI_v hn]
    refine br_f (by decide) (br_t (nI_pos' (by omega)) ⟨INVx_M Io, ?_⟩)
    rw [fw]
    refine br_t (by decide) (rAside N0 (fun z0 R0 => ⟨k + 1, ?_⟩))
    have gr : ∀ E : Int32 → Wd → Prop, (∀ z, rq (uL u 260 0 ans.toInt64) z g → E ans z) → ∀ d i z, i + d = k → rh (uL u 260 0 ans.toInt64) z g i → l_X12_hasIn_41 E (d + 1) 245 (nI v) (nI n) (nI i) z := by
      intro E hE d
      induction d with
      | zero =>
        intro i z hi R
        have : i = k := by omega
        subst this
        have Rz := rh_RS R
        obtain ⟨b1, b2, b3⟩ := p_rd (k := 15 + v) Rz (by omega) (P := fun q => q = nI (hrs g i (15 + v))) rfl
        rw [show nI (15 + v) = 15 + nI v from (nI_add 15 v).symm] at b2 b3
        by_cases ek : i < 201
        · rw [hans, if_pos ek] at hE
          have := wz i (by omega)
          refine br_f (nI_nlt (a := 200) (by omega) (by decide)) ⟨Rz.1.1, b1, b2, ?_⟩
          rw [b3]
          exact br_t (nI_le (k3' ek) (by omega)) (rBack hW (by omega) R (fun z' N' => br_t (nI_le (b := 200) (by omega) (by decide)) (by rw [hans, if_pos ek] at N'; exact hE z' N')))
        · rw [hans, if_neg ek] at hE
          exact br_t (nI_lt (a := 200) (by omega) (by omega)) ⟨Rz.1.1, rBack hW (by omega) R (fun z' N' => br_f (nI_ge (a := 200) (by omega) (by omega)) (by rw [hans, if_neg ek] at N'; exact hE z' N'))⟩
      | succ d ih =>
        intro i z hi R
        have Rz := rh_RS R
        obtain ⟨b1, b2, b3⟩ := p_rd (k := 15 + v) Rz (by omega) (P := fun q => q = nI (hrs g i (15 + v))) rfl
        rw [show nI (15 + v) = 15 + nI v from (nI_add 15 v).symm] at b2 b3
        refine br_f (nI_nlt (a := 200) (by omega) (by decide)) ⟨Rz.1.1, b1, b2, ?_⟩
        rw [b3, nI_1]
        exact br_f (nI_ge (k2' i (by omega)) hn31) (rHour hW (by omega) R (fun z' R' => ih (i + 1) z' (by omega) R'))
    exact gr _ (fun z N' => rFin Iu N' hB' hk) k 0 z0 (by omega) R0
  · have J := INVx_J I hN
    have J1 := INVx_t (k := 4) (v := 2) J (by decide) (by decide) (by decide)
    refine hc _ _ (INVx_M J) ⟨INVx_M J, p_isWell J.2.2.2.1 hW.1 ?_⟩
    rw [i64_32, c]
    refine br_f (by decide) (br_f (by rw [fa_le, p0]; omega) ⟨INVx_M J, ?_⟩)
    rw [fw]
    exact br_f (by decide) (finK J1 (by decide) (fw _ _) hB' hk)
  · have J := INVx_J I hN
    have J1 := INVx_t (k := 4) (v := 1) J (by decide) (by decide) (by decide)
    refine hc _ _ (INVx_M J) ⟨INVx_M J, p_isWell J.2.2.2.1 hW.1 ?_⟩
    rw [i64_32, c]
    refine br_t rfl ⟨INVx_M J, ?_⟩
    rw [fw]
    exact br_f (by decide) (finK J1 (by decide) (fw _ _) hB' hk)
end JA
