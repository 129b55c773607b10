/-! 78: calls: hours, undo -/
def INVx (w : Wd) (B : Nat) (g : Nat → Nat) : Prop := SH w ∧ WF g B ∧ CP w g ∧ RS w 245 g ∧ OT w B
theorem INV_x {w : Wd} {B : Nat} (I : INV w B) : ∃ g, INVx w B g := by
  obtain ⟨s, ⟨g, hW, P, R⟩, O⟩ := I
  exact ⟨g, s, hW, P, R, O⟩
theorem x_INV {w : Wd} {B C : Nat} {g : Nat → Nat} (I : INVx w B g) (hB : B ≤ C) (hC : C < 2 ^ 24) : INV w C := ⟨I.1, ⟨g, WF_mono I.2.1 hB hC, I.2.2.1, I.2.2.2.1⟩, OT_cx (T := fun _ => False) (cx_refl _ _) (fun _ z => z.elim) I.1 ⟨rfl, rfl, rfl⟩ hB hC I.2.2.2.2⟩
/-- the class asks: its page stays -/
theorem INVx_q {T : Nat → Prop} {w u : Wd} {B : Nat} {g : Nat → Nat} (I : INVx w B g) (c : cx T w u) (hT : ∀ t, T t → cS t) (s : SH u) : INVx u B g := by
  have st : stC w u := ⟨cx_mono (fun t z => Or.inl (hT t z)) c, s⟩
  exact ⟨s, I.2.1, CP_q c hT I.2.2.1, stC_RS st I.2.2.2.1, stC_OT I.1 st (Nat.le_refl _) I.2.1.2.2.2.2 I.2.2.2.2⟩
theorem INVx_J {w : Wd} {B N : Nat} {g : Nat → Nat} (I : INVx w B g) (h : wN w ≤ N) : INVx (wJ w N) B g := INVx_q (T := fun _ => False) I (cx_wJ h) (fun _ z => z.elim) (stC_wJ I.1 h).2
theorem INVx_o {w : Wd} {B : Nat} {g : Nat → Nat} {v : Int64} (I : INVx w B g) : INVx (uL w 260 0 v) B g := INVx_q (T := cS) I (cx_uL (by unfold cS; omega)) (fun _ z => z) (stC_out I.1).2
theorem INVx_r {w u : Wd} {B : Nat} {g : Nat → Nat} (I : INVx w B g) (st : stR w u) (R : RS u 245 g) : INVx u B g := ⟨st.2.1, I.2.1, stR_CP st I.2.2.1, R, stR_OT I.1 st (Nat.le_refl _) I.2.1.2.2.2.2 I.2.2.2.2⟩
theorem INVx_t {w : Wd} {B : Nat} {g : Nat → Nat} {k : Nat} {v : Int32} (I : INVx w B g) (h6 : k ≠ 6) (h14 : k ≠ 14) (h15 : k ≠ 15) : INVx (uI w 245 k v) B g := INVx_r I (stR_uI I.1 h6 h14 h15) (RSs I.2.2.2.1 (t := 245) (by omega) _)
theorem INVx_M {w : Wd} {B : Nat} {g : Nat → Nat} (I : INVx w B g) : isK w 245 12 := I.2.2.2.1.1.1
theorem INVx_out {w : Wd} {B : Nat} {g : Nat → Nat} {P : Prop} (I : INVx w B g) (h : P) : isK w 260 21 ∧ vp_in 0 (wn w 260) ∧ P := ⟨I.1.2.2.2.2.2.2.2.2.2.2.2.1, by rw [I.1.2.2.2.2.2.2.2.2.2.2.2.2]; exact vp_in_nI (n := 0) (by decide) (by decide), h⟩
theorem p_withinI {x : Int32} {a b : Int64} {K : Int32 → Wd → Prop} {w : Wd} (p q : Int) (ha : a.toInt = p) (hb : b.toInt = q) (hk : K (b2i (decide (p ≤ x.toInt ∧ x.toInt ≤ q))) w) : w_X12_within x.toInt64 a b K w := p_within (by rw [within_dec ha hb, i64_32]; exact hk)
/-- so many hours on -/
def hrs (g : Nat → Nat) : Nat → Nat → Nat
  | 0 => g
  | k + 1 => hourR (hrs g k)
theorem hrs_WF {g : Nat → Nat} {B : Nat} (hW : WF g B) : ∀ {k : Nat}, B + k < 2 ^ 24 → WF (hrs g k) (B + k) ∧ sameH g (hrs g k)
  | 0, _ => ⟨hW, sameH_refl g⟩
  | k + 1, h => by
    have z := hrs_WF hW (k := k) (by omega)
    have y := hourR_WF z.1 (by omega)
    exact ⟨y.1, sameH_trans z.2 y.2⟩
/-- the land of the page goes on for an hour -/
theorem pg_hour {w : Wd} {B : Nat} {g : Nat → Nat} {h e : Nat} {K : Wd → Prop} (s : SH w) (P : PG w 90 h e g) (hW : WF g B) (hB : B + 1 < 2 ^ 24) (hk : ∀ u, stC w u → PG u 90 h e (hourR g) → K u) : w_X2_passHour 92 K w := by
  refine q_passHour P.2.1.1 hW hB (fun u hu Lu => hk u (stC_e s (cx_eqW hu) (fun t z => ?_) (fun z => ?_) (fun z => ?_)) (PG_deed (by omega) (cx_eqW hu) (fun _ => Or.inr) P Lu (hourR_WF hW hB).2))
  · unfold landT at z; unfold cD cS; omega
  · unfold landT at z; omega
  · unfold landT at z; omega
theorem pg_remember {w : Wd} {B : Nat} {g : Nat → Nat} {h e : Nat} {K : Wd → Prop} (s : SH w) (P : PG w 90 h e g) (hW : WF g B) (hk : ∀ u e', stC w u → PG u 90 h e' (keepR g) → K u) : w_X5_remember 90 K w := by
  refine q_remember (by omega) hW.1 P (fun u e' hu Pu => hk u e' (stC_e s (cx_eqW hu) (fun t z => ?_) (fun z => ?_) (fun z => ?_)) Pu)
  · unfold pgT at z; unfold cD cS; omega
  · unfold pgT at z; omega
  · unfold pgT at z; omega
section JH
variable {w : Wd} {B : Nat} {L F : Wd → Prop}
theorem jn_hours {x : Int32} (I : INV w B) (hB : B + 99 < 2 ^ 24) (hk : ∀ u, INV u (B + 99) → L u) {K : Int32 → Wd → Prop} (hc : ∀ r w1, isK w1 245 12 → w_X12_hours 245 x (fun b w2 => tlT L F r b.toInt64 w2) w1 → K r w1) : w_L_hours 1 6 64 x 260 K w := by
  obtain ⟨g, I⟩ := INV_x I
  obtain ⟨s, hW, ⟨h, e, P⟩, R, O⟩ := I
  have I : INVx w B g := ⟨s, hW, ⟨h, e, P⟩, R, O⟩
  refine ⟨s.1.1, ⟨by decide, by decide⟩, ⟨by decide, by decide⟩, q_within 1 99 (by decide) (by decide) (fun c => ?_) (fun c N hN => ⟨rfl, ?_⟩)⟩
  · obtain ⟨n, hn⟩ : ∃ n : Nat, x.toInt = n := ⟨x.toInt.toNat, by omega⟩
    have hn1 : 1 ≤ n ∧ n ≤ 99 := by omega
    rw [s.1.2.1]
    refine ⟨s.1.1, P.1.1, pg_remember s P hW (fun u1 e' st1 P1 => ?_)⟩
    have hWk := keepR_WF hW
    rw [st1.2.1.2.1, P1.1.2.1]
    refine ⟨st1.2.1.1, P1.1.1, P1.2.1.1.1.1.1, q_allWater P1.2.1.1.1 hWk.1 ⟨n + 1, ?_⟩⟩
    rw [nI_v hn]
    have go : ∀ E : Int32 → Wd → Prop, ∀ X, (∀ u, stC w u → PG u 90 h e' (hrs (keepR g) n) → E (nI (wsum (hrs (keepR g) n) (hrs (keepR g) n 1)) - nI (wsum (keepR g) (keepR g 1))) u) → ∀ d i u, i + d = n → stC w u → PG u 90 h e' (hrs (keepR g) i) → l_X11_hours_27 1 6 X E (d + 1) 64 (nI n) (nI (wsum (keepR g) (keepR g 1))) (nI i) 1 6 u := by
      intro E X hE d
      induction d with
      | zero =>
        intro i u hi st Pu
        have : i = n := by omega
        subst this
        have z := hrs_WF hWk (k := i) (by omega)
        unfold l_X11_hours_27
        rw [st.2.1.2.1, Pu.1.2.1]
        exact br_t (nI_le (Nat.le_refl _) (by omega)) ⟨st.2.1.1, Pu.1.1, Pu.2.1.1.1.1.1, q_allWater Pu.2.1.1.1 z.1.1 (hE u st Pu)⟩
      | succ d ih =>
        intro i u hi st Pu
        have z := hrs_WF hWk (k := i) (by omega)
        unfold l_X11_hours_27
        rw [st.2.1.2.1, Pu.1.2.1, nI_1]
        exact br_f (nI_ge (by omega) (by omega)) ⟨st.2.1.1, Pu.1.1, Pu.2.1.1.1.1.1, pg_hour st.2 Pu z.1 (by omega) (fun u' st' P' => ih (i + 1) u' (by omega) (stC_trans st st') P')⟩
    refine go _ _ (fun u st Pu => ?_) n 0 u1 (by omega) st1 P1
    have z := hrs_WF hWk (k := n) (by omega)
    have Iu : INVx u B g → True := fun _ => trivial
    have k260 := st.2.2.2.2.2.2.2.2.2.2.2.2
    have so := stC_out (v := (nI (wsum (hrs (keepR g) n) (hrs (keepR g) n 1)) - nI (wsum (keepR g) (keepR g 1))).toInt64) st.2
    have st2 := stC_trans st so
    have P2 : CP (uL u 260 0 (nI (wsum (hrs (keepR g) n) (hrs (keepR g) n 1)) - nI (wsum (keepR g) (keepR g 1))).toInt64) (hrs (keepR g) n) := CP_q (T := cS) (cx_uL (by unfold cS; omega)) (fun _ z => z) ⟨h, e', Pu⟩
    have R2 := stC_RS st2 R
    have O2 := stC_OT s st2 (Nat.le_refl _) hW.2.2.2.2 O
    refine ⟨k260.1, by rw [k260.2]; exact vp_in_nI (n := 0) (by decide) (by decide), hc _ _ R2.1.1 ⟨R2.1.1, p_withinI 1 99 (by decide) (by decide) ?_⟩⟩
    rw [decide_eq_true c, nI_v hn]
    have R3 := RSs R2 (t := 245) (by omega) (upd (wI (uL u 260 0 (nI (wsum (hrs (keepR g) n) (hrs (keepR g) n 1)) - nI (wsum (keepR g) (keepR g 1))).toInt64) 245) 4 0)
    have st3 := stR_uI (k := 4) (v := 0) st2.2 (by decide) (by decide) (by decide)
    refine br_f (by decide) ⟨R2.1.1, p_keeps R3 hW.1 (fun v1 hv1 Rv1 => ⟨Rv1.1.1, p_waterAll Rv1 hWk.1 ⟨n + 1, ?_⟩⟩)⟩
    have gr : ∀ E : Int32 → Wd → Prop, (∀ v, eqW (refT 245) v1 v → RS v 245 (hrs (keepR g) n) → E (nI (wsum (hrs (keepR g) n) (hrs (keepR g) n 1)) - nI (wsum (keepR g) (keepR g 1))) v) → ∀ d i v, i + d = n → eqW (refT 245) v1 v → RS v 245 (hrs (keepR g) i) → l_X12_hours_34 E (d + 1) 245 (nI n) (nI (wsum (keepR g) (keepR g 1))) (nI i) v := by
      intro E hE d
      induction d with
      | zero =>
        intro i v hi hv Rv
        have : i = n := by omega
        subst this
        have z := hrs_WF hWk (k := i) (by omega)
        exact br_t (nI_le (Nat.le_refl _) (by omega)) ⟨Rv.1.1, p_waterAll Rv z.1.1 (hE v hv Rv)⟩
      | succ d ih =>
        intro i v hi hv Rv
        have z := hrs_WF hWk (k := i) (by omega)
        refine br_f (nI_ge (by omega) (by omega)) ⟨Rv.1.1, p_hour Rv z.1 (by omega) (fun v' hv' Rv' => ?_)⟩
        rw [nI_1]
        exact ih (i + 1) v' (by omega) (eqW_trans hv hv') Rv'
    refine gr _ (fun v hv Rv => ?_) n 0 v1 (by omega) (eqW_refl _ _) Rv1
    have e4 := eqW_trans hv1 hv
    have st4 := stR_refT st3.2.1 e4
    have st5 := stR_trans st3 st4
    refine tlT_0 st5.2.1 ?_ (out_at st.2 st5) (hk v (INV_end st5.2.1 (WF_mono z.1 (by omega) hB) (stR_CP st5 P2) Rv (stR_OT st2.2 st5 (by omega) hB O2)))
    rw [(e4.2.2.2 245 (by unfold refT; omega)).1, wI_uI, if_pos rfl]
  · have J := INVx_J I hN
    refine hc _ _ (INVx_M J) ⟨INVx_M J, p_withinI 1 99 (by decide) (by decide) ?_⟩
    rw [decide_eq_false c]
    have J1 := INVx_t (k := 4) (v := 0) J (by decide) (by decide) (by decide)
    have J2 := INVx_t (k := 4) (v := 1) J1 (by decide) (by decide) (by decide)
    refine br_t rfl ⟨INVx_M J1, INVx_M J1, tlT_k J2.1 (by decide) ?_ (hk _ (x_INV J2 (by omega) hB))⟩
    rw [wI_uI, if_pos rfl]
theorem undR_WF {g : Nat → Nat} {n : Nat} (hW : WF g B) (h1 : 1 ≤ n) (hn : n ≤ g 4) : WF (undR g n) B := by
  have hh := hW.1
  have o : ∀ j, j ≠ 4 → (j < 5 ∨ 27 ≤ j) → undR g n j = g j := fun j h4 hj => by
    unfold undR
    rw [if_neg h4, if_neg (by omega)]
  have o4 : undR g n 4 = g 4 - n := by unfold undR; rw [if_pos rfl]
  have e1 := o 1 (by omega) (by omega)
  have e27 : ∀ v, v < 10 → undR g n (27 + v) = g (27 + v) ∧ undR g n (47 + v) = g (47 + v) := fun v hv => ⟨o _ (by omega) (by omega), o _ (by omega) (by omega)⟩
  refine ⟨⟨?_, fun v hv => ?_, fun v hv => ?_⟩, ?_, ?_, fun i hi => ?_, hW.2.2.2.2⟩
  · rw [o 0 (by omega) (by omega), e1, o 2 (by omega) (by omega), o 3 (by omega) (by omega), o4]
    have z := hh.1
    exact ⟨z.1, z.2.1, z.2.2.1, z.2.2.2.1, by omega⟩
  · rw [e1] at hv
    rw [o (27 + v) (by omega) (by omega), o (37 + v) (by omega) (by omega), o (47 + v) (by omega) (by omega), o (57 + v) (by omega) (by omega), e1]
    exact hh.2.1 v hv
  · rw [o 2 (by omega) (by omega)] at hv
    rw [o (67 + v) (by omega) (by omega), o (73 + v) (by omega) (by omega), e1]
    exact hh.2.2 v hv
  · unfold wfL
    rw [o 3 (by omega) (by omega)]
    have i : irr g → irr (undR g n) := irr_of e1 (fun v hv => o (57 + v) (by omega) (by omega))
    exact hW.2.1.imp (fun z => ⟨z.1, i z.2⟩) (fun z => ⟨okT_of (fun j => o (299 + j) (by omega) (by omega)) _ _ _ z.1, i z.2⟩)
  · refine wfS_of (o := 79 + 22 * (g 4 - n)) (fun j hj => ?_) e1 e27 hh (hW.2.2.2.1 (g 4 - n) (by omega))
    unfold undR
    rw [if_neg (by omega), if_pos (by omega)]
    exact congrArg g (by omega)
  · rw [o4] at hi
    exact wfS_of (fun j hj => o _ (by omega) (by omega)) e1 e27 hh (hW.2.2.2.1 i (by omega))
theorem jn_undo {x : Int32} (I : INV w B) (hB : B + 99 < 2 ^ 24) (hk : ∀ u, INV u (B + 99) → L u) {K : Int32 → Wd → Prop} (hc : ∀ r w1, isK w1 245 12 → w_X12_undo 245 x (fun b w2 => tlT L F r b.toInt64 w2) w1 → K r w1) : w_L_undo 2 12 64 x 260 K w := by
  obtain ⟨g, I⟩ := INV_x I
  obtain ⟨s, hW, ⟨h, e, P⟩, R, O⟩ := I
  have I : INVx w B g := ⟨s, hW, ⟨h, e, P⟩, R, O⟩
  have h4 := hW.1.1.2.2.2.2
  have n4 : (nI (g 4)).toInt = (g 4 : Int) := nI_toInt (by omega)
  have bad : ¬ (1 ≤ x.toInt ∧ x.toInt ≤ 10 ∧ x.toInt ≤ (g 4 : Int)) → ∀ N, wN w ≤ N → K 1 (wJ w N) := fun c N hN => by
    have J := INVx_J I hN
    have J1 := INVx_t (k := 4) (v := 0) J (by decide) (by decide) (by decide)
    have J2 := INVx_t (k := 4) (v := 1) J1 (by decide) (by decide) (by decide)
    have fin : tlT L F 1 (0 : Int32).toInt64 (uI (uI (wJ w N) 245 4 0) 245 4 1) := tlT_k J2.1 (by decide) (by rw [wI_uI, if_pos rfl]) (hk _ (x_INV J2 (by omega) hB))
    refine hc _ _ (INVx_M J) ⟨INVx_M J, p_withinI 1 10 (by decide) (by decide) ?_⟩
    by_cases c1 : 1 ≤ x.toInt ∧ x.toInt ≤ 10
    · rw [decide_eq_true c1]
      obtain ⟨a1, a2, a3⟩ := p_rd (k := 4) J1.2.2.2.1 (by decide) (P := fun z => z = nI (g 4)) rfl
      refine br_f (by decide) ⟨INVx_M J1, a1, a2, ?_⟩
      rw [show wI (uI (wJ w N) 245 4 0) (wR (uI (wJ w N) 245 4 0) 245 0) (4 : Int32).toNatClampNeg = nI (g 4) from a3]
      exact br_f (by rw [fa_le, n4]; omega) ⟨INVx_M J1, fin⟩
    · rw [decide_eq_false c1]
      exact br_t rfl ⟨INVx_M J1, INVx_M J1, fin⟩
  refine ⟨s.1.1, ⟨by decide, by decide⟩, ⟨by decide, by decide⟩, q_within 1 10 (by decide) (by decide) (fun c => ?_) (fun c N hN => ⟨rfl, bad (by omega) N hN⟩)⟩
  rw [s.1.2.1, P.2.2.1]
  refine ⟨s.1.1, P.1.1, ⟨by decide, by decide⟩, q_within 1 (g 4) (by decide) n4 (fun c2 => ?_) (fun c2 N hN => ⟨rfl, bad (by omega) N hN⟩)⟩
  obtain ⟨n, hn⟩ : ∃ n : Nat, x.toInt = n := ⟨x.toInt.toNat, by omega⟩
  have hn1 : 1 ≤ n ∧ n ≤ g 4 := by omega
  rw [nI_v hn, s.1.2.1]
  refine ⟨s.1.1, P.1.1, q_goBack (by omega) hW.1 P hn1.1 hn1.2 (fun u hu Pu => ?_)⟩
  have st : stC w u := stC_e s (cx_eqW hu) (fun t z => by unfold pgT at z; unfold cD cS; omega) (fun z => by unfold pgT at z; omega) (fun z => by unfold pgT at z; omega)
  have u4 : undR g n 4 = g 4 - n := by unfold undR; rw [if_pos rfl]
  rw [st.2.1.2.1, Pu.2.2.1, u4]
  have k260 := st.2.2.2.2.2.2.2.2.2.2.2.2
  refine ⟨st.2.1.1, Pu.1.1, k260.1, by rw [k260.2]; exact vp_in_nI (n := 0) (by decide) (by decide), ?_⟩
  have so := stC_out (v := (nI (g 4 - n)).toInt64) st.2
  have st2 := stC_trans st so
  have P2 : CP (uL u 260 0 (nI (g 4 - n)).toInt64) (undR g n) := CP_q (T := cS) (cx_uL (by unfold cS; omega)) (fun _ z => z) ⟨h, e, Pu⟩
  have R2 := stC_RS st2 R
  have O2 := stC_OT s st2 (Nat.le_refl _) hW.2.2.2.2 O
  refine hc _ (uL u 260 0 (nI (g 4 - n)).toInt64) R2.1.1 ⟨R2.1.1, p_withinI 1 10 (by decide) (by decide) ?_⟩
  rw [decide_eq_true c, nI_v hn]
  have R3 : RS (uI (uL u 260 0 (nI (g 4 - n)).toInt64) 245 4 0) 245 g := RSs R2 (t := 245) (by omega) _
  have st3 := stR_uI (k := 4) (v := 0) st2.2 (by decide) (by decide) (by decide)
  obtain ⟨a1, a2, a3⟩ := p_rd (k := 4) R3 (by decide) (P := fun z => z = nI (g 4)) rfl
  refine br_f (by decide) ⟨R2.1.1, a1, a2, ?_⟩
  rw [show wI (uI (uL u 260 0 (nI (g 4 - n)).toInt64) 245 4 0) (wR (uI (uL u 260 0 (nI (g 4 - n)).toInt64) 245 4 0) 245 0) (4 : Int32).toNatClampNeg = nI (g 4) from a3, pk_sub hn1.2, R3.1.2.1.1]
  refine br_t (nI_le hn1.2 (by omega)) ⟨by rw [R3.1.2.1.1] at a2; exact a2, by rw [R3.1.2.1.1] at a2; exact a2, 22 + 1, ?_⟩
  have go : ∀ E : Int32 → Wd → Prop, (∀ v, eqW (refT 245) (uI (uL u 260 0 (nI (g 4 - n)).toInt64) 245 4 0) v → RS v 245 (undR g n) → E (nI (g 4 - n)) v) → ∀ d i v g', i + d = 22 → eqW (refT 245) (uI (uL u 260 0 (nI (g 4 - n)).toInt64) 245 4 0) v → RS v 245 g' → g' 4 = g 4 - n → (∀ j, 5 ≤ j → j < 5 + i → g' j = g (79 + 22 * (g 4 - n) + (j - 5))) → (∀ j, j ≠ 4 → (j < 5 ∨ 5 + i ≤ j) → g' j = g j) → l_X12_undo_45 E (d + 1) 245 (nI i) v := by
    intro E hE d
    induction d with
    | zero =>
      intro i v g' hi hv Rv g4 gi go
      have : i = 22 := by omega
      subst this
      obtain ⟨b1, b2, b3⟩ := p_rd (k := 4) Rv (by decide) (P := fun z => z = nI (g' 4)) rfl
      have eg : undR g n = g' := funext fun j => by
        unfold undR
        by_cases c4 : j = 4
        · subst c4; rw [if_pos rfl, g4]
        · rw [if_neg c4]
          by_cases c5 : 5 ≤ j ∧ j < 27
          · rw [if_pos c5, gi j (by omega) (by omega)]
          · rw [if_neg c5, go j c4 (by omega)]
      refine br_t (by decide) ⟨Rv.1.1, b1, b2, ?_⟩
      rw [show wI v (wR v 245 0) (4 : Int32).toNatClampNeg = nI (g' 4) from b3, g4]
      exact hE v hv (by rw [eg]; exact Rv)
    | succ d ih =>
      intro i v g' hi hv Rv g4 gi go
      obtain ⟨b1, b2, b3⟩ := p_rd (k := 4) Rv (by decide) (P := fun z => z = nI (g' 4)) rfl
      obtain ⟨-, c2, c3⟩ := p_rd (k := 79 + 22 * (g 4 - n) + i) Rv (by omega) (P := fun z => z = nI (g' (79 + 22 * (g 4 - n) + i))) rfl
      obtain ⟨-, d2, -⟩ := p_rd (k := 5 + i) Rv (by omega) (P := fun _ => True) trivial
      refine br_f (nI_ge (b := 22) (by omega) (by decide)) ⟨Rv.1.1, b1, b2, ?_⟩
      have ei : (79 + 22 * wI v (wR v 245 0) (4 : Int32).toNatClampNeg + nI i : Int32) = nI (79 + 22 * (g 4 - n) + i) := by
        rw [show wI v (wR v 245 0) (4 : Int32).toNatClampNeg = nI (g' 4) from b3, g4, show (22 * nI (g 4 - n) : Int32) = nI (22 * (g 4 - n)) from pk_mul 22 _, show (79 + nI (22 * (g 4 - n)) : Int32) = nI (79 + 22 * (g 4 - n)) from nI_add 79 _, nI_add]
      rw [ei, show (5 + nI i : Int32) = nI (5 + i) from nI_add 5 i]
      refine ⟨c2, d2, ?_⟩
      rw [c3, nI_clamp (n := 5 + i) (by omega), Rv.1.2.1.1, nI_1]
      refine ih (i + 1) _ _ (by omega) (eqW_trans hv (eqW_uI (rT1 245))) (RS_wr Rv (5 + i) _) ?_ (fun j j5 ji => ?_) (fun j j4 ji => ?_)
      · rw [upN_n _ (by omega)]; exact g4
      · by_cases ej : j = 5 + i
        · subst ej
          rw [upN_s, go _ (by omega) (by omega)]
          exact congrArg g (by omega)
        · rw [upN_n _ ej]; exact gi j j5 (by omega)
      · rw [upN_n _ (by omega)]; exact go j j4 (by omega)
  refine go _ (fun v hv Rv => ?_) 22 0 _ (upN g 4 (g 4 - n)) (by omega) (eqW_uI (rT1 245)) (RS_wr R3 4 (g 4 - n)) (upN_s _ _ _) (fun j j5 ji => absurd ji (by omega)) (fun j j4 _ => upN_n _ j4)
  have st4 := stR_refT st3.2.1 hv
  have st5 := stR_trans st3 st4
  refine tlT_0 st5.2.1 ?_ (out_at st.2 st5) (hk v (INV_end st5.2.1 (WF_mono (undR_WF hW hn1.1 hn1.2) (by omega) hB) (stR_CP st5 P2) Rv (stR_OT st2.2 st5 (by omega) hB O2)))
  rw [(hv.2.2.2 245 (by unfold refT; omega)).1, wI_uI, if_pos rfl]
end JH
