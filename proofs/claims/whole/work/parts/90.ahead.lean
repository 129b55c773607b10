/-! 90: calls: fullest, loudHour, level -/
section JB
variable {w : Wd} {B : Nat} {L F : Wd → Prop}
theorem jn_fullest (I : INV w B) (hB : B + 300 < 2 ^ 24) (hk : ∀ u, INV u (B + 99) → L u) {K : Int32 → Wd → Prop} (hc : ∀ r w1, isK w1 245 12 → w_X12_fullest 245 (fun t w2 => (r = t → L w2) ∧ (¬ r = t → F w2)) w1 → K r w1) : w_X11_fullest 64 K w := by
  obtain ⟨g, I⟩ := INV_x I
  have hW := I.2.1
  have hB' : B + 99 < 2 ^ 24 := by omega
  obtain ⟨f, hf⟩ : ∃ f : Nat → Nat, f = fun t => wsum (hrs g t) (hrs g t 1) := ⟨_, rfl⟩
  have ef : ∀ t, wsum (hrs g t) (hrs g t 1) = f t := fun t => by rw [hf]
  have fl : ∀ t, t ≤ 201 → f t ≤ 990 := fun t ht => by
    rw [hf]
    exact wsum_b (hrs_WF hW (k := t) (by omega)).1
  have al : ∀ i, am f (i + 1) ≤ i := am_lt f
  obtain ⟨mst, hmst⟩ : ∃ mst : Nat → Int32, mst = fun i => if i = 0 then -1 else nI (f (am f i)) := ⟨_, rfl⟩
  have m0 : mst 0 = -1 := by rw [hmst]; rfl
  have ms : ∀ i, mst (i + 1) = nI (f (am f (i + 1))) := fun i => by rw [hmst]; exact if_neg (by omega)
  obtain ⟨ans, hans⟩ : ∃ ans : Nat, ans = am f 201 := ⟨_, rfl⟩
  refine aStart I (fun u A => ⟨201 + 1, ?_⟩)
  have go : (∀ u t, ah w u g t → K (nI ans) u) → ∀ d i u, i + d = 201 → ah w u g i → l_X11_fullest_20 K (d + 1) 64 (nI (am f i)) (mst i) (nI i) u := by
    intro hE d
    induction d with
    | zero =>
      intro i u hi A
      have : i = 201 := by omega
      subst this
      rw [← hans]
      exact br_t (by decide) (hE u 201 A)
    | succ d ih =>
      intro i u hi A
      obtain ⟨a1, a2, a3, h, Lu⟩ := aLand I A
      have zW := hrs_WF hW (k := i) (by omega)
      have f1 := fl i (by omega)
      unfold l_X11_fullest_20
      rw [a2]
      refine br_f (nI_nlt (a := 200) (by omega) (by decide)) ⟨a1, a3, q_allWater Lu.1.1 zW.1.1 ?_⟩
      have y := fun u' A' => ih (i + 1) u' (by omega) A'
      have ea : am f (i + 1) = if f (am f i) < f i then i else am f i := rfl
      rw [ms, ea] at y
      rw [a2, ef, nI_1]
      cases i with
      | zero =>
        rw [m0]
        rw [show (if f (am f 0) < f 0 then 0 else am f 0) = 0 from if_neg (Nat.lt_irrefl _)] at y
        refine br_f ?_ ⟨a1, a3, aHour I (by omega) A y⟩
        rw [fa_le, nI_toInt (by omega), show (-1 : Int32).toInt = -1 from by decide]
        omega
      | succ j =>
        rw [ms]
        have f2 := fl (am f (j + 1)) (by have := al j; omega)
        by_cases c : f (am f (j + 1)) < f (j + 1)
        · rw [if_pos c] at y
          exact br_f (nI_ge c (by omega)) ⟨a1, a3, aHour I (by omega) A y⟩
        · rw [if_neg c] at y
          exact br_t (nI_le (by omega) (by omega)) ⟨a1, a3, aHour I (by omega) A y⟩
  have z := fun hE => go hE 201 0 u (by omega) A
  rw [m0] at z
  refine z (fun u t A => ?_)
  have Iu := ah_x I A
  have J1 := INVx_t (k := 4) (v := 0) Iu (by decide) (by decide) (by decide)
  refine hc _ u (INVx_M Iu) ⟨INVx_M Iu, ?_⟩
  have N0 : rq u (uI u 245 4 0) g := ⟨stR_uI Iu.1 (by decide) (by decide) (by decide), J1.2.2.2.1, fw _ _⟩
  refine rAside N0 (fun z0 R0 => ⟨(rh_RS R0).1.1, p_waterAll (rh_RS R0) hW.1 ⟨200 + 1, ?_⟩⟩)
  have gr : ∀ E : Int32 → Wd → Prop, (∀ z, rq u z g → E (nI ans) z) → ∀ d i z, i + 1 + d = 201 → rh u z g i → l_X12_fullest_18 E (d + 1) 245 (nI (am f (i + 1))) (nI (f (am f (i + 1)))) (nI (i + 1)) z := by
    intro E hE d
    induction d with
    | zero =>
      intro i z hi R
      have : i = 200 := by omega
      subst this
      rw [show am f (200 + 1) = ans from hans.symm]
      exact br_t (by decide) ⟨(rh_RS R).1.1, rBack hW (by omega) R (fun z' N' => hE z' N')⟩
    | succ d ih =>
      intro i z hi R
      refine br_f (nI_nlt (a := 200) (by omega) (by decide)) ⟨(rh_RS R).1.1, rHour hW (by omega) R (fun z' R' => ⟨(rh_RS R').1.1, ?_⟩)⟩
      have zW := hrs_WF hW (k := i + 1) (by omega)
      have y := fun z' R' => ih (i + 1) z' (by omega) R'
      have ea : am f (i + 1 + 1) = if f (am f (i + 1)) < f (i + 1) then i + 1 else am f (i + 1) := rfl
      rw [ea] at y
      have f1 := fl (i + 1) (by omega)
      have f2 := fl (am f (i + 1)) (by have := al i; omega)
      refine p_waterAll (rh_RS R') zW.1.1 ?_
      rw [ef, nI_1]
      by_cases c : f (am f (i + 1)) < f (i + 1)
      · rw [if_pos c] at y
        refine br_t (nI_lt c (by omega)) ⟨(rh_RS R').1.1, p_waterAll (rh_RS R') zW.1.1 ?_⟩
        rw [ef]
        exact y z' R'
      · rw [if_neg c] at y
        exact br_f (nI_nlt (by omega) (by omega)) (y z' R')
  have e1 : am f (0 + 1) = 0 := by show (if f (am f 0) < f 0 then 0 else am f 0) = 0; exact if_neg (Nat.lt_irrefl _)
  have y := fun E hE => gr E hE 200 0 z0 (by omega) R0
  rw [e1] at y
  rw [ef 0]
  exact y _ (fun z' N' => br_t rfl (hk z' (x_INV (INVx_r Iu N'.1 N'.2.1) (by omega) hB')))
theorem rhChain {u z : Wd} {g : Nat → Nat} {t a n : Nat} {K : Int32 → Wd → Prop} (hW : WF g B) (hB : B + t < 2 ^ 24) (R : rh u z g t) (ha : a < g 1) (hn : n ≤ 99) (hk : ∀ z', rh u z' g t → K (nI (clo (hrs g t) a n 0)) z') : w_X12_chainOf 245 (nI a) (nI n) K z := by
  have y := hrs_WF hW (k := t) hB
  exact p_chainOf (rh_RS R) y.1 (by rw [y.2 1 (by omega)]; exact ha) hn (fun f => hk _ (rh_s f R))
theorem jn_loudHour {x y : Int32} (I : INV w B) (hB : B + 300 < 2 ^ 24) (hk : ∀ u, INV u (B + 99) → L u) {K : Int32 → Wd → Prop} (hc : ∀ r w1, isK w1 245 12 → w_X12_loudHour 245 x y (fun b w2 => tlT L F r b.toInt64 w2) w1 → K r w1) : w_L_loudHour 2 12 64 x y 260 K w := by
  obtain ⟨g, I⟩ := INV_x I
  have hW := I.2.1
  have hB' : B + 99 < 2 ^ 24 := by omega
  refine ⟨I.1.1.1, ⟨by decide, by decide⟩, I.1.1.1, ⟨by decide, by decide⟩, q_needWell I.1 hW I.2.2.1 (fun c => ⟨⟨by decide, by decide⟩, q_noise (fun n hy hn cn => ?_) (fun cn N hN => Or.inr ⟨rfl, ?_⟩)⟩) (fun c N hN => Or.inl ⟨rfl, ?_⟩)⟩
  · obtain ⟨v, rfl, hv, -⟩ := isB_v c
    subst hy
    obtain ⟨f, hf⟩ : ∃ f : Nat → Nat, f = fun t => cb (clo (hrs g t) v n 0) := ⟨_, rfl⟩
    have ef : ∀ t, cb (clo (hrs g t) v n 0) = f t := fun t => by rw [hf]
    have fl : ∀ t, f t ≤ 10 := fun t => by rw [hf]; exact cb_le _
    obtain ⟨mst, hmst⟩ : ∃ mst : Nat → Int32, mst = fun i => if i = 0 then -1 else nI (f (am f i)) := ⟨_, rfl⟩
    have m0 : mst 0 = -1 := by rw [hmst]; rfl
    have ms : ∀ i, mst (i + 1) = nI (f (am f (i + 1))) := fun i => by rw [hmst]; exact if_neg (by omega)
    obtain ⟨ans, hans⟩ : ∃ ans : Nat, ans = am f 41 := ⟨_, rfl⟩
    have cmp : ∀ i, nI (f i) ≤ mst i ∧ am f (i + 1) = am f i ∧ mst (i + 1) = mst i ∨ ¬ nI (f i) ≤ mst i ∧ am f (i + 1) = i ∧ mst (i + 1) = nI (f i) := fun i => by
      have ea : am f (i + 1) = if f (am f i) < f i then i else am f i := rfl
      have f1 := fl i
      have f2 := fl (am f i)
      cases i with
      | zero =>
        have e1 : am f (0 + 1) = 0 := by rw [ea]; exact if_neg (Nat.lt_irrefl _)
        refine Or.inr ⟨?_, e1, by rw [ms, e1]⟩
        rw [m0, fa_le, nI_toInt (by omega), show (-1 : Int32).toInt = -1 from by decide]
        omega
      | succ j =>
        by_cases cc : f (am f (j + 1)) < f (j + 1)
        · rw [if_pos cc] at ea
          exact Or.inr ⟨by rw [ms]; exact nI_ge cc (by omega), ea, by rw [ms, ea]⟩
        · rw [if_neg cc] at ea
          exact Or.inl ⟨by rw [ms]; exact nI_le (by omega) (by omega), ea, by rw [ms, ea, ms]⟩
    refine aStart I (fun u A => ⟨41 + 1, ?_⟩)
    have go : ∀ E : Int32 → Wd → Prop, ∀ X, (∀ u t, ah w u g t → E (nI ans) u) → ∀ d i u, i + d = 41 → ah w u g i → l_X11_loudHour_31 2 12 X E (d + 1) 64 (nI v) (nI n) (nI (am f i)) (mst i) (nI i) 2 12 u := by
      intro E X hE d
      induction d with
      | zero =>
        intro i u hi A
        have : i = 41 := by omega
        subst this
        rw [← hans]
        exact br_t (by decide) (hE u 41 A)
      | succ d ih =>
        intro i u hi A
        obtain ⟨a1, a2, a3, -⟩ := aLand I A
        have Iu := ah_x I A
        obtain ⟨cu, ⟨h, Lu⟩, Nu⟩ := A
        have zW := hrs_WF hW (k := i) (by omega)
        have z1 := zW.2 1 (by omega)
        unfold l_X11_loudHour_31
        rw [Iu.1.1.2.2.2.2.2.2.1, a2]
        refine br_f (nI_nlt (a := 40) (by omega) (by decide)) ⟨a1, Nu.1, a3, q_over Nu Lu.1 (by omega) zW.1 (LX_n Lu (by omega)) (fun u1 hu1 P1 L1 => ?_)⟩
        have nh : noH (nA 85) := fun t z => by unfold nA at z; omega
        have A1 : ah w u1 g i := ⟨cx_trans cu (cx_mono (fun _ => Or.inr) (cx_eqW hu1)), ⟨h, LX_of (cx_eqW hu1) nh Lu L1⟩, P1.1⟩
        have Iu1 := ah_x I A1
        have Lx1 := LX_of (cx_eqW hu1) nh Lu L1
        rw [Iu1.1.1.2.2.2.2.2.2.1]
        refine n64 Iu1 (q_wokenBy P1 L1 zW.1 (LX_nT Lx1 (by omega)) (by omega) hn (fun u2 hu2 => p_bitCount (set_lt zW.1.1 (clo_lt _ _ _ _)) ?_))
        have A2 : ah w u2 g i := ⟨cx_trans A1.1 (cx_mono (fun _ z => Or.inr (nT_nA z)) (cx_eqW hu2)), ⟨h, LX_cx (cx_eqW hu2) (fun t z => nh t (nT_nA z)) (fun t z q => by unfold landT at z; have := nT_nA q; unfold nA at this; omega) Lx1⟩, NS_fr hu2 (q_nT 85).1 P1.1⟩
        obtain ⟨b1, b2, b3, -⟩ := aLand I A2
        have y := fun u' A' => ih (i + 1) u' (by omega) A'
        rw [ef, b2, nI_1]
        rcases cmp i with ⟨q1, q2, q3⟩ | ⟨q1, q2, q3⟩
        · rw [q2, q3] at y
          exact br_t q1 ⟨b1, b3, aHour I (by omega) A2 y⟩
        · rw [q2, q3] at y
          exact br_f q1 ⟨b1, b3, aHour I (by omega) A2 y⟩
    have z := fun E X hE => go E X hE 41 0 u (by omega) A
    rw [m0] at z
    refine z _ _ (fun u t A => ?_)
    have Iu := ah_x I A
    have Io := INVx_o (v := (nI ans).toInt64) Iu
    have N0 := rq_0 (val := (nI ans).toInt64) Iu
    refine INVx_out Iu (hc _ (uL u 260 0 (nI ans).toInt64) (INVx_M Io) ⟨INVx_M Io, p_isWell Io.2.2.2.1 hW.1 ?_⟩)
    rw [i64_32, c]
    refine br_f (by decide) (p_isNoise ?_)
    rw [cn]
    refine br_f (by decide) ⟨INVx_M Io, INVx_M Io, ?_⟩
    rw [fw]
    refine br_t (by decide) (rAside N0 (fun z0 R0 => ⟨41 + 1, ?_⟩))
    have gr : ∀ E : Int32 → Wd → Prop, (∀ z, rq (uL u 260 0 (nI ans).toInt64) z g → E (nI ans) z) → ∀ d i z, i + d = 41 → rh (uL u 260 0 (nI ans).toInt64) z g i → l_X12_loudHour_50 E (d + 1) 245 (nI v) (nI n) (nI (am f i)) (mst i) (nI i) z := by
      intro E hE d
      induction d with
      | zero =>
        intro i z hi R
        have : i = 41 := by omega
        subst this
        rw [← hans]
        exact br_t (by decide) ⟨(rh_RS R).1.1, rBack hW (by omega) R (fun z' N' => hE z' N')⟩
      | succ d ih =>
        intro i z hi R
        have zW := hrs_WF hW (k := i) (by omega)
        refine br_f (nI_nlt (a := 40) (by omega) (by decide)) ⟨(rh_RS R).1.1, rhChain hW (by omega) R hv hn (fun z1 R1 => p_size (set_lt zW.1.1 (clo_lt _ _ _ _)) ?_)⟩
        have y := fun u' A' => ih (i + 1) u' (by omega) A'
        rw [ef, nI_1]
        rcases cmp i with ⟨q1, q2, q3⟩ | ⟨q1, q2, q3⟩
        · rw [q2, q3] at y
          exact br_t q1 ⟨(rh_RS R1).1.1, rHour hW (by omega) R1 y⟩
        · rw [q2, q3] at y
          exact br_f q1 ⟨(rh_RS R1).1.1, rHour hW (by omega) R1 y⟩
    have y := fun E hE => gr E hE 41 0 z0 (by omega) R0
    rw [m0] at y
    exact y _ (fun z' N' => rFin Iu N' hB' hk)
  · have J := INVx_J I hN
    have J1 := INVx_t (k := 4) (v := 2) J (by decide) (by decide) (by decide)
    refine hc _ _ (INVx_M J) ⟨INVx_M J, p_isWell J.2.2.2.1 hW.1 ?_⟩
    rw [i64_32, c]
    refine br_f (by decide) (p_isNoise ?_)
    rw [cn]
    refine br_t rfl ⟨INVx_M J, INVx_M J, ?_⟩
    rw [fw]
    exact br_f (by decide) (finK J1 (by decide) (fw _ _) hB' hk)
  · have J := INVx_J I hN
    have J1 := INVx_t (k := 4) (v := 1) J (by decide) (by decide) (by decide)
    refine hc _ _ (INVx_M J) ⟨INVx_M J, p_isWell J.2.2.2.1 hW.1 ?_⟩
    rw [i64_32, c]
    refine br_t rfl ⟨INVx_M J, INVx_M J, ?_⟩
    rw [fw]
    exact br_f (by decide) (finK J1 (by decide) (fw _ _) hB' hk)
theorem jn_level {x y : Int32} (I : INV w B) (hB : B + 300 < 2 ^ 24) (hk : ∀ u, INV u (B + 99) → L u) {K : Int32 → Wd → Prop} (hc : ∀ r w1, isK w1 245 12 → w_X12_level 245 x y (fun b w2 => tlT L F r b.toInt64 w2) w1 → K r w1) : w_L_level 4 24 64 x y 260 K w := by
  obtain ⟨g, I⟩ := INV_x I
  have hW := I.2.1
  have h10 := hW.1.1.2.1
  have hB' : B + 99 < 2 ^ 24 := by omega
  have bad1 : ∀ N, wN w ≤ N → j_X12_level_19 (fun b w2 => tlT L F 1 b.toInt64 w2) 245 x y 245 (wJ w N) := fun N hN => by
    have J := INVx_J I hN
    have J1 := INVx_t (k := 4) (v := 1) J (by decide) (by decide) (by decide)
    refine ⟨INVx_M J, INVx_M J, ?_⟩
    rw [fw]
    exact br_f (by decide) (finK J1 (by decide) (fw _ _) hB' hk)
  refine ⟨I.1.1.1, ⟨by decide, by decide⟩, I.1.1.1, ⟨by decide, by decide⟩, q_needWell I.1 hW I.2.2.1 (fun c => ⟨I.1.1.1, ⟨by decide, by decide⟩, q_needWell I.1 hW I.2.2.1 (fun d => ⟨⟨by decide, by decide⟩, ?_⟩) (fun d N hN => Or.inl ⟨rfl, ?_⟩)⟩) (fun c N hN => Or.inl ⟨rfl, ?_⟩)⟩
  · refine ⟨fun e => ⟨⟨by decide, by decide⟩, fun N hN => Or.inr ⟨rfl, ?_⟩⟩, fun e => ⟨I.1.1.1, ⟨by decide, by decide⟩, ?_⟩⟩
    · have J := INVx_J I hN
      have J1 := INVx_t (k := 4) (v := 2) J (by decide) (by decide) (by decide)
      refine hc _ _ (INVx_M J) ⟨INVx_M J, p_isWell J.2.2.2.1 hW.1 ?_⟩
      rw [i64_32, c]
      refine br_f (by decide) ⟨INVx_M J, p_isWell J.2.2.2.1 hW.1 ?_⟩
      rw [i64_32, d]
      refine br_f (by decide) (br_t e ⟨INVx_M J, ?_⟩)
      rw [fw]
      exact br_f (by decide) (finK J1 (by decide) (fw _ _) hB' hk)
    · obtain ⟨a, rfl, ha, -⟩ := isB_v c
      obtain ⟨b, rfl, hb, -⟩ := isB_v d
      obtain ⟨h, Lx, e0, k5⟩ := x_P I
      have set10 := set_lt hW.1 (hW.1.2.1 a ha).2.2.2
      have pre : ∀ {u : Wd} {r : Int32}, INVx u B g → ((g (57 + a)).testBit b = false → isK u 245 12 ∧ ((wI (uI u 245 4 2) 245 4 ≤ 0 → w_X12_putsAside 245 (fun w39 => ∃ n40, l_X12_level_67 (fun b w2 => tlT L F r b.toInt64 w2) n40 245 (nI a) (nI b) 0 w39) (uI u 245 4 2)) ∧ (¬ wI (uI u 245 4 2) 245 4 ≤ 0 → tlT L F r (0 : Int32).toInt64 (uI u 245 4 2)))) → ((g (57 + a)).testBit b = true → isK u 245 12 ∧ ((wI (uI u 245 4 0) 245 4 ≤ 0 → w_X12_putsAside 245 (fun w39 => ∃ n40, l_X12_level_67 (fun b w2 => tlT L F r b.toInt64 w2) n40 245 (nI a) (nI b) 0 w39) (uI u 245 4 0)) ∧ (¬ wI (uI u 245 4 0) 245 4 ≤ 0 → tlT L F r (0 : Int32).toInt64 (uI u 245 4 0)))) → w_X12_level 245 (nI a) (nI b) (fun b w2 => tlT L F r b.toInt64 w2) u := fun {u r} Iu h1 h2 => by
        obtain ⟨b1, b2, b3⟩ := p_rd (k := 57 + a) Iu.2.2.2.1 (by omega) (P := fun q => q = nI (g (57 + a))) rfl
        rw [show nI (57 + a) = 57 + nI a from (nI_add 57 a).symm] at b2 b3
        refine ⟨INVx_M Iu, p_isWell Iu.2.2.2.1 hW.1 ?_⟩
        rw [i64_32, c]
        refine br_f (by decide) ⟨INVx_M Iu, p_isWell Iu.2.2.2.1 hW.1 ?_⟩
        rw [i64_32, d]
        refine br_f (by decide) (br_f e ⟨INVx_M Iu, b1, b2, ?_⟩)
        rw [b3]
        refine p_xhas (by omega) (by omega) ?_
        cases q : (g (57 + a)).testBit b
        · exact br_t rfl (h1 q)
        · exact br_f (by decide) (h2 q)
      unfold w_X11_needBeside
      rw [I.1.1.2.1, e0, Lx.1.1.1.2.1]
      refine ⟨I.1.1.1, k5, Lx.1.1.1.1, Lx.1.1.1.2.2.1, q_besideOf Lx.1.1.1.2.2 (by omega) (q_has (by omega) (by omega) ?_)⟩
      cases eb : (g (57 + a)).testBit b
      · refine br_t rfl ⟨⟨by decide, by decide⟩, fun N hN => Or.inr ⟨rfl, ?_⟩⟩
        have J := INVx_J I hN
        have J1 := INVx_t (k := 4) (v := 2) J (by decide) (by decide) (by decide)
        refine hc _ _ (INVx_M J) (pre J (fun _ => ⟨INVx_M J, ?_⟩) (fun q => by rw [eb] at q; cases q))
        rw [fw]
        exact br_f (by decide) (finK J1 (by decide) (fw _ _) hB' hk)
      · refine br_f (by decide) ?_
        have wz : ∀ v, v < g 1 → ∀ t, t ≤ 201 → hrs g t (15 + v) ≤ 99 := fun v hv t ht => by
          have z := hrs_WF hW (k := t) (by omega)
          have z1 := z.2 1 (by omega)
          have a := z.1.1.2.1 v (by omega)
          have b : hrs g t (15 + v) ≤ hrs g t (47 + v) := (z.1.2.2.1.1 v (by omega)).2
          omega
        obtain ⟨k, k1, k2, k3⟩ := jd_ex (fun t => if hrs g t (15 + a) = hrs g t (15 + b) then 1 else 0) 201
        have k2' : ∀ j, j < k → ¬ hrs g j (15 + a) = hrs g j (15 + b) := fun j hj => by
          have : (if hrs g j (15 + a) = hrs g j (15 + b) then 1 else 0) = 0 := k2 j hj
          split at this
          · cases this
          · assumption
        have k3' : k < 201 → hrs g k (15 + a) = hrs g k (15 + b) := fun hk' => Classical.byContradiction fun z => k3 hk' (show (if hrs g k (15 + a) = hrs g k (15 + b) then 1 else 0) = 0 by rw [if_neg z])
        have ne : ∀ t, t ≤ 201 → ¬ hrs g t (15 + a) = hrs g t (15 + b) → ¬ nI (hrs g t (15 + a)) = nI (hrs g t (15 + b)) := fun t ht q z => q ((nI_eq (by have := wz a ha t ht; omega) (by have := wz b hb t ht; omega)).mp z)
        obtain ⟨ans, hans⟩ : ∃ ans : Int32, ans = if k < 201 then nI k else -1 := ⟨_, rfl⟩
        refine aStart I (fun u A => ⟨k + 1, ?_⟩)
        have go : ∀ E : Int32 → Wd → Prop, ∀ X, (∀ u t, ah w u g t → E ans u) → ∀ d i u, i + d = k → ah w u g i → l_X11_level_37 4 24 X E (d + 1) 64 (nI a) (nI b) (nI i) 4 24 u := by
          intro E X hE d
          induction d with
          | zero =>
            intro i u hi A
            have : i = k := by omega
            subst this
            obtain ⟨a1, a2, a3, h, Lu⟩ := aLand I A
            have z := hE u i A
            unfold l_X11_level_37
            rw [a2]
            by_cases ek : i < 201
            · rw [hans, if_pos ek] at z
              refine br_f (nI_nlt (a := 200) (by omega) (by decide)) ⟨a1, a3, q_waterOf Lu.1.1 (by omega) ⟨a1, ?_⟩⟩
              rw [a2]
              exact ⟨a3, q_waterOf Lu.1.1 (by omega) (br_t (by rw [k3' ek]) z)⟩
            · rw [hans, if_neg ek] at z
              exact br_t (nI_lt (a := 200) (by omega) (by omega)) z
          | succ d ih =>
            intro i u hi A
            obtain ⟨a1, a2, a3, h, Lu⟩ := aLand I A
            unfold l_X11_level_37
            rw [a2]
            refine br_f (nI_nlt (a := 200) (by omega) (by decide)) ⟨a1, a3, q_waterOf Lu.1.1 (by omega) ⟨a1, ?_⟩⟩
            rw [a2]
            refine ⟨a3, q_waterOf Lu.1.1 (by omega) (br_f (ne i (by omega) (k2' i (by omega))) ⟨a1, ?_⟩)⟩
            rw [a2, nI_1]
            exact ⟨a3, aHour I (by omega) A (fun u' A' => ih (i + 1) u' (by omega) A')⟩
        refine go _ _ (fun u t A => ?_) k 0 u (by omega) A
        have Iu := ah_x I A
        have Io := INVx_o (v := ans.toInt64) Iu
        have N0 := rq_0 (val := ans.toInt64) Iu
        refine INVx_out Iu (hc _ (uL u 260 0 ans.toInt64) (INVx_M Io) (pre Io (fun q => by rw [eb] at q; cases q) (fun _ => ⟨INVx_M Io, ?_⟩)))
        rw [fw]
        refine br_t (by decide) (rAside N0 (fun z0 R0 => ⟨k + 1, ?_⟩))
        have gr : ∀ E : Int32 → Wd → Prop, (∀ z, rq (uL u 260 0 ans.toInt64) z g → E ans z) → ∀ d i z, i + d = k → rh (uL u 260 0 ans.toInt64) z g i → l_X12_level_67 E (d + 1) 245 (nI a) (nI b) (nI i) z := by
          intro E hE d
          induction d with
          | zero =>
            intro i z hi R
            have : i = k := by omega
            subst this
            have Rz := rh_RS R
            obtain ⟨b1, b2, b3⟩ := p_rd (k := 15 + a) Rz (by omega) (P := fun q => q = nI (hrs g i (15 + a))) rfl
            obtain ⟨-, c2, c3⟩ := p_rd (k := 15 + b) Rz (by omega) (P := fun q => q = nI (hrs g i (15 + b))) rfl
            rw [show nI (15 + a) = 15 + nI a from (nI_add 15 a).symm] at b2 b3
            rw [show nI (15 + b) = 15 + nI b from (nI_add 15 b).symm] at c2 c3
            by_cases ek : i < 201
            · refine br_f (nI_nlt (a := 200) (by omega) (by decide)) ⟨Rz.1.1, b1, b2, c2, ?_⟩
              rw [b3, c3]
              refine br_t (by rw [k3' ek]) (rBack hW (by omega) R (fun z' N' => br_t (nI_le (b := 200) (by omega) (by decide)) ?_))
              have y := hE z' N'
              rw [hans, if_pos ek] at y
              exact y
            · refine br_t (nI_lt (a := 200) (by omega) (by omega)) ⟨Rz.1.1, rBack hW (by omega) R (fun z' N' => br_f (nI_ge (a := 200) (by omega) (by omega)) ?_)⟩
              have y := hE z' N'
              rw [hans, if_neg ek] at y
              exact y
          | succ d ih =>
            intro i z hi R
            have Rz := rh_RS R
            obtain ⟨b1, b2, b3⟩ := p_rd (k := 15 + a) Rz (by omega) (P := fun q => q = nI (hrs g i (15 + a))) rfl
            obtain ⟨-, c2, c3⟩ := p_rd (k := 15 + b) Rz (by omega) (P := fun q => q = nI (hrs g i (15 + b))) rfl
            rw [show nI (15 + a) = 15 + nI a from (nI_add 15 a).symm] at b2 b3
            rw [show nI (15 + b) = 15 + nI b from (nI_add 15 b).symm] at c2 c3
            refine br_f (nI_nlt (a := 200) (by omega) (by decide)) ⟨Rz.1.1, b1, b2, c2, ?_⟩
            rw [b3, c3, nI_1]
            exact br_f (ne i (by omega) (k2' i (by omega))) (rHour hW (by omega) R (fun z' R' => ih (i + 1) z' (by omega) R'))
        exact gr _ (fun z N' => rFin Iu N' hB' hk) k 0 z0 (by omega) R0
  · have J := INVx_J I hN
    refine hc _ _ (INVx_M J) ⟨INVx_M J, p_isWell J.2.2.2.1 hW.1 ?_⟩
    rw [i64_32, c]
    refine br_f (by decide) ⟨INVx_M J, p_isWell J.2.2.2.1 hW.1 ?_⟩
    rw [i64_32, d]
    exact br_t rfl (bad1 N hN)
  · have J := INVx_J I hN
    refine hc _ _ (INVx_M J) ⟨INVx_M J, p_isWell J.2.2.2.1 hW.1 ?_⟩
    rw [i64_32, c]
    exact br_t rfl (bad1 N hN)
end JB
