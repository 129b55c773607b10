/-! 77: calls: deeds, on both sides -/
def tlT (L F : Wd → Prop) (rc : Int32) (b : Int64) (w : Wd) : Prop := isK w 245 12 ∧ w_X12_thrown 245 (fun r3 w3 => ((r3 = rc → ((rc = 0 → isK w3 260 21 ∧ vp_in 0 (wn w3 260) ∧ (((lg_cmp (wL w3 260 (0 : Int32).toNatClampNeg) b) = 0 → L w3) ∧ (¬ (lg_cmp (wL w3 260 (0 : Int32).toNatClampNeg) b) = 0 → F w3))) ∧ (¬ rc = 0 → L w3))) ∧ (¬ r3 = rc → F w3))) w
theorem tlT_0 {L F : Wd → Prop} {b : Int64} {w : Wd} (s : SH w) (ht : wI w 245 4 = 0) (hb : wL w 260 0 = b) (hL : L w) : tlT L F 0 b w := by
  have k := s.2.2.2.2.2.2.2.2.2.2
  refine ⟨k.1.1, k.1.1, ?_⟩
  rw [ht]
  refine br_t rfl (br_t rfl ⟨k.2.1, by rw [k.2.2]; exact vp_in_nI (n := 0) (by decide) (by decide), br_t ?_ hL⟩)
  rw [show wL w 260 (0 : Int32).toNatClampNeg = b from hb]
  exact (lg_cmp_eq _ _).mpr rfl
theorem tlT_k {L F : Wd → Prop} {b : Int64} {w : Wd} {k : Int32} (s : SH w) (h0 : ¬ k = 0) (ht : wI w 245 4 = k) (hL : L w) : tlT L F k b w := by
  have z := s.2.2.2.2.2.2.2.2.2.2
  refine ⟨z.1.1, z.1.1, ?_⟩
  rw [ht]
  exact br_t rfl (br_f h0 hL)
theorem q_within {x lo hi : Int32} {K : Wd → Prop} {X : String → Wd → Prop} {w : Wd} (a b : Int) (ha : lo.toInt = a) (hb : hi.toInt = b) (h1 : a ≤ x.toInt ∧ x.toInt ≤ b → K w) (h2 : ¬ (a ≤ x.toInt ∧ x.toInt ≤ b) → ∀ N, wN w ≤ N → X "java/lang/IllegalArgumentException" (wJ w N)) : w_X11_needWithin 1 6 x lo hi K X w := by
  refine ⟨fun c => ⟨⟨by decide, by decide⟩, h2 ?_⟩, fun c => ⟨fun d => h1 ?_, fun d => ⟨⟨by decide, by decide⟩, h2 ?_⟩⟩⟩
  · rw [fa_lt, ha] at c; omega
  · rw [fa_lt, ha] at c; rw [fa_le, hb] at d; omega
  · rw [fa_lt, ha] at c; rw [fa_le, hb] at d; omega
theorem out_at {w u : Wd} {v : Int64} (s : SH w) (h : stR (uL w 260 0 v) u) : wL u 260 0 = v := by
  have z := cx_at h.1 (show isK (uL w 260 0 v) 260 21 from s.2.2.2.2.2.2.2.2.2.2.2.1) (by unfold rS; omega)
  rw [z.2.1]
  show va_up w.2.2.2.2.1 260 (vp_updL (w.2.2.2.2.1 260) 0 v) 260 0 = v
  rw [va_up_self]
  exact pk_uLs
section QN
variable {w : Wd} {B : Nat} {g : Nat → Nat} {X : String → Wd → Prop}
theorem q_needWell {x : Int32} {K : Wd → Prop} (s : SH w) (hW : WF g B) (P : CP w g) (h1 : isB (g 1) x.toInt = true → K w) (h2 : isB (g 1) x.toInt = false → ∀ N, wN w ≤ N → X "java/util/NoSuchElementException" (wJ w N)) : w_X11_needWell 1 6 64 x K X w := by
  obtain ⟨h, e, P⟩ := P
  unfold w_X11_needWell
  rw [s.1.2.1, P.1.2.1, P.2.1.1.1.1.2.1]
  have H := P.2.1.1.1.1.2.2
  refine ⟨s.1.1, P.1.1, P.2.1.1.1.1.1, H.1, q_hasWell H hW.1 ?_⟩
  cases c : isB (g 1) x.toInt
  · exact br_t rfl ⟨⟨by decide, by decide⟩, h2 c⟩
  · exact br_f (by decide) (h1 c)
theorem q_needHouse {x : Int32} {K : Wd → Prop} (s : SH w) (hW : WF g B) (P : CP w g) (h1 : isB (g 2) x.toInt = true → K w) (h2 : isB (g 2) x.toInt = false → ∀ N, wN w ≤ N → X "java/util/NoSuchElementException" (wJ w N)) : w_X11_needHouse 1 6 64 x K X w := by
  obtain ⟨h, e, P⟩ := P
  unfold w_X11_needHouse
  rw [s.1.2.1, P.1.2.1, P.2.1.1.1.1.2.1]
  have H := P.2.1.1.1.1.2.2
  refine ⟨s.1.1, P.1.1, P.2.1.1.1.1.1, H.1, q_hasHouse H hW.1 ?_⟩
  cases c : isB (g 2) x.toInt
  · exact br_t rfl ⟨⟨by decide, by decide⟩, h2 c⟩
  · exact br_f (by decide) (h1 c)
end QN
theorem unR_same {g g' : Nat → Nat} (sm : sameH g g') (i : Nat) : simR (unR g i) (unR g' i) := fun j h4 hj => by
  unfold unR
  by_cases c : 5 ≤ j ∧ j < 27
  · rw [if_pos c, if_pos c]
    exact sm _ (by omega)
  · rw [if_neg c, if_neg c]
    exact sm _ (by omega)
theorem PG_deed {T : Nat → Prop} {w u : Wd} {p h e : Nat} {g g' : Nat → Nat} (hp : 90 ≤ p ∧ p + 34 < 245) (c : cx T w u) (hT : ∀ t, T t → nA 85 t ∨ landT (p + 2) t) (P : PG w p h e g) (L : LA u (p + 2) h g') (sm : sameH g g') : PG u p h e g' := by
  have nH : noH T := fun t z => by
    have := hT t z
    unfold nA landT at this
    omega
  obtain ⟨a1, a2, a3, ⟨a4, a5⟩, a6⟩ := P
  have n0 : ∀ t, (t = p ∨ t = p + 1 ∨ (p + 5 ≤ t ∧ t ≤ p + 34)) → ¬ T t := fun t ht z => by
    have := hT t z
    unfold nA landT at this
    omega
  have f0 := cx_at c a1.1 (n0 p (by omega))
  refine ⟨PS_cx c (n0 p (by omega)) (n0 _ (by omega)) a1, LX_of c nH a2 L, ?_, ⟨?_, a5⟩, fun s hs => ?_⟩
  · rw [f0.1, a3, sm 4 (by omega)]
  · rw [f0.1]; exact a4
  · obtain ⟨h', g2, b1, b2⟩ := a6 s hs
    refine ⟨h', g2, LX_cx c nH (fun t z => n0 t (by unfold landT at z; omega)) b1, fun i hi hie => ?_⟩
    rw [sm 4 (by omega)] at hi
    have z := b2 i hi hie
    exact ⟨z.1, simR_trans z.2 (unR_same sm i)⟩
theorem whyD_0 {g : Nat → Nat} {x y : Int} (h : whyD g x y = 0) : ∃ v n : Nat, x = v ∧ y = n ∧ v < g 1 ∧ 1 ≤ n ∧ n ≤ 99 ∧ n ≤ g (15 + v) := by
  unfold whyD at h
  split at h
  · cases h
  rename_i c3
  have c3' : 0 ≤ x ∧ x < g 1 := of_decide_eq_true (by
    cases e : isB (g 1) x
    · exact absurd e c3
    · exact e)
  split at h
  · cases h
  split at h
  · cases h
  split at h
  · cases h
  split at h
  · cases h
  exact ⟨x.toNat, y.toNat, by omega, by omega, by omega, by omega, by omega, by omega⟩
theorem whyL_0 {g : Nat → Nat} {x : Int} (h : whyL g x = 0) : ∃ v : Nat, x = v ∧ v < g 1 := by
  unfold whyL at h
  split at h
  · cases h
  rename_i c3
  have c3' : 0 ≤ x ∧ x < g 1 := of_decide_eq_true (by
    cases e : isB (g 1) x
    · exact absurd e c3
    · exact e)
  exact ⟨x.toNat, by omega, by omega⟩
theorem whyC_0 {g : Nat → Nat} {x : Int} (h : whyC g x = 0) : ∃ v : Nat, x = v ∧ v < g 1 := by
  unfold whyC at h
  split at h
  · cases h
  rename_i c3
  have c3' : 0 ≤ x ∧ x < g 1 := of_decide_eq_true (by
    cases e : isB (g 1) x
    · exact absurd e c3
    · exact e)
  exact ⟨x.toNat, by omega, by omega⟩
theorem whyD_le (g : Nat → Nat) (x y : Int) : whyD g x y ≤ 4 := by
  unfold whyD
  repeat' split
  all_goals omega
theorem whyL_le (g : Nat → Nat) (x : Int) : whyL g x ≤ 4 := by
  unfold whyL
  repeat' split
  all_goals omega
theorem whyC_le (g : Nat → Nat) (x : Int) : whyC g x ≤ 4 := by
  unfold whyC
  repeat' split
  all_goals omega
theorem nI_v {x : Int32} {v : Nat} (h : x.toInt = v) : x = nI v := by
  rw [← i32n (x := x) (by omega), h]
  rfl
theorem i64_32 (x : Int32) : x.toInt64.toInt = x.toInt := Int32.toInt_toInt64 x
section JD
variable {w : Wd} {B : Nat} {L F : Wd → Prop}
theorem jn_awake (I : INV w B) (hB : B + 99 < 2 ^ 24) (hk : ∀ u, INV u (B + 99) → L u) : w_X11_awake 64 (fun r w1 => isK w1 245 12 ∧ w_X12_awake 245 (fun t w2 => (r = t → L w2) ∧ (¬ r = t → F w2)) w1) w := by
  obtain ⟨s, ⟨g, hW, ⟨h, e, P⟩, R⟩, O⟩ := I
  unfold w_X11_awake
  rw [s.1.2.1, P.1.2.1]
  refine ⟨s.1.1, P.1.1, P.2.1.1.1.1.1, q_awakeBits P.2.1.1.1 hW ⟨R.1.1, R.1.1, ?_⟩⟩
  have st := stR_uI (k := 4) (v := 0) s (by decide) (by decide) (by decide)
  have R' : RS (uI w 245 4 0) 245 g := RSs R (t := 245) (by omega) _
  exact p_upIn R' hW.1 hW.2.2.1 hW.2.2.2.2 (n := 0) (by decide) (br_t rfl (hk _ (INV_end st.2.1 (WF_mono hW (by omega) hB) (stR_CP st ⟨h, e, P⟩) R' (stR_OT s st (by omega) hB O))))
theorem jn_water (I : INV w B) (hB : B + 99 < 2 ^ 24) (hk : ∀ u, INV u (B + 99) → L u) : w_X11_water 64 (fun r w1 => isK w1 245 12 ∧ w_X12_water 245 (fun t w2 => (r = t → L w2) ∧ (¬ r = t → F w2)) w1) w := by
  obtain ⟨s, ⟨g, hW, ⟨h, e, P⟩, R⟩, O⟩ := I
  unfold w_X11_water
  rw [s.1.2.1, P.1.2.1]
  refine ⟨s.1.1, P.1.1, P.2.1.1.1.1.1, q_allWater P.2.1.1.1 hW.1 ⟨R.1.1, R.1.1, ?_⟩⟩
  have st := stR_uI (k := 4) (v := 0) s (by decide) (by decide) (by decide)
  have R' : RS (uI w 245 4 0) 245 g := RSs R (t := 245) (by omega) _
  exact p_waterAll R' hW.1 (br_t rfl (hk _ (INV_end st.2.1 (WF_mono hW (by omega) hB) (stR_CP st ⟨h, e, P⟩) R' (stR_OT s st (by omega) hB O))))
/-- the class remembers, then does a deed upon its land -/
theorem stC_deed {u1 u2 : Wd} {h e e' : Nat} {g g' : Nat → Nat} (s : SH w) (hu1 : eqW (pgT 90) w u1) (hu2 : eqW (dT 85 92) u1 u2) (hN : NS u2 85) (P1 : PG u1 90 h e' g) (L2 : LA u2 92 h g') (sm : sameH g g') : stC w u2 ∧ CP u2 g' := by
  have c : cx (fun t => nA 85 t ∨ pgT 90 t) w u2 := cx_trans (cx_mono (fun _ => Or.inr) (cx_eqW hu1)) (cx_mono (fun t z => z.elim Or.inl (fun k => Or.inr (by unfold landT at k; unfold pgT; omega))) (cx_eqW hu2))
  refine ⟨stC_e s c (fun t z => ?_) (fun z => ?_) (fun _ => hN), h, e', PG_deed (by omega) (cx_eqW hu2) (fun _ z => z) P1 L2 sm⟩
  · unfold nA pgT at z; unfold cD cS; omega
  · unfold nA pgT at z; omega
/-- the reference keeps, then does a deed -/
theorem keepR_at {g : Nat → Nat} {B : Nat} (hW : WF g B) {j : Nat} (h : j < 79) (h4 : j ≠ 4) : keepR g j = g j := keepR_o hW.1 (Or.inl h) h4
theorem NS_pg {u : Wd} (s : SH w) (hu : eqW (pgT 90) w u) : NS u 85 := NS_fr hu (fun z => by unfold pgT at z; omega) s.2.2.2.2.2.1
theorem DK_pg {u : Wd} (s : SH w) (hu : eqW (pgT 90) w u) : isK u 241 0 ∧ wR u 241 0 = 85 := ⟨(eqW_isK hu).mpr s.2.2.2.2.2.2.2.2.1.1, by rw [(hu.2.2.2 241 (fun z => by unfold pgT at z; omega)).2.2]; exact s.2.2.2.2.2.2.2.2.1.2.1⟩
theorem XT_pg {u : Wd} (s : SH w) (hu : eqW (pgT 90) w u) : isK u 64 11 ∧ wR u 64 = wR w 64 := ⟨(eqW_isK hu).mpr s.1.1, (hu.2.2.2 64 (fun z => by unfold pgT at z; omega)).2.2⟩
theorem jn_draw {x y : Int32} (I : INV w B) (hB : B + 99 < 2 ^ 24) (hk : ∀ u, INV u (B + 99) → L u) {K : Int32 → Wd → Prop} (hc : ∀ r w1, isK w1 245 12 → w_X12_draw 245 x y (fun t w2 => (r = t → L w2) ∧ (¬ r = t → F w2)) w1 → K r w1) : w_X11_draw 64 x y K w := by
  obtain ⟨s, ⟨g, hW, ⟨h, e, P⟩, R⟩, O⟩ := I
  have wl := whyD_le g x.toInt y.toInt
  unfold w_X11_draw
  rw [s.1.2.1, P.1.2.1]
  refine ⟨s.1.1, P.1.1, P.2.1.1.1.1.1, q_whyD P.2.1.1.1 hW ?_⟩
  have rw0 : ∀ {w1 : Wd} {K2 : Int32 → Wd → Prop}, RS w1 245 g → K2 (nI (whyD g x.toInt y.toInt)) (uI w1 245 4 0) → w_X12_whyDraw 245 x.toInt64 y.toInt64 K2 (uI w1 245 4 0) := fun R1 z => by
    refine p_whyDraw (RSs R1 (t := 245) (by omega) _) hW ?_
    rw [i64_32, i64_32]
    exact z
  by_cases c : whyD g x.toInt y.toInt = 0
  · obtain ⟨v, n, hx, hy, hv, h1, hn, hnw⟩ := whyD_0 c
    refine br_t (by rw [c]; rfl) ⟨s.1.1, ?_⟩
    rw [s.1.2.1]
    refine ⟨P.1.1, q_remember (by omega) hW.1 P (fun u1 e' hu1 P1 => ?_)⟩
    have hWk := keepR_WF hW
    have k1 := keepR_at hW (j := 1) (by omega) (by omega)
    have h10 := hW.1.1.2.1
    have k15 := keepR_at hW (j := 15 + v) (by omega) (by omega)
    rw [(XT_pg s hu1).2, s.1.2.2.2.2.2.2.2.1, s.1.2.1, P1.1.2.1, nI_v hx, nI_v hy]
    have L1 := P1.2.1
    refine ⟨(XT_pg s hu1).1, (DK_pg s hu1).1, P1.1.1, L1.1.1.1.1, q_drawFrom (DK_pg s hu1) (by unfold nA; omega) (NS_pg s hu1) L1.1 (by omega) hWk (LX_n L1 (by omega)) (by omega) hn (by omega) (fun u2 hu2 L2 N2 => ?_)⟩
    have D := drawR_WF (n := n) hWk (v := v) (by omega)
    obtain ⟨st, P2⟩ := stC_deed (e := e) s hu1 hu2 N2 P1 L2 D.2
    have R2 := stC_RS st R
    have O2 := stC_OT s st (Nat.le_refl _) hW.2.2.2.2 O
    refine hc _ _ R2.1.1 ⟨R2.1.1, rw0 R2 (br_t (by rw [c]; rfl) ⟨R2.1.1, p_keeps (RSs R2 (t := 245) (by omega) _) hW.1 (fun u3 hu3 R3 => ⟨R3.1.1, ?_⟩)⟩)⟩
    rw [nI_v hx, nI_v hy]
    refine p_draws R3 hWk (by omega) hn (by omega) (fun u4 hu4 R4 => br_t rfl (hk _ ?_))
    have st3 : stR u2 u4 := stR_trans (stR_uI st.2 (by decide) (by decide) (by decide)) (stR_refT (stR_uI (k := 4) (v := 0) st.2 (by decide) (by decide) (by decide)).2.1 (eqW_trans hu3 hu4))
    exact INV_end st3.2.1 (WF_mono D.1 (by omega) hB) (stR_CP st3 P2) R4 (stR_OT st.2 st3 (by omega) hB O2)
  · have c' : ¬ nI (whyD g x.toInt y.toInt) = 0 := nI_ne0 (by omega) (by omega)
    have st3 := stR_uI (k := 4) (v := 0) s (by decide) (by decide) (by decide)
    have R' : RS (uI w 245 4 0) 245 g := RSs R (t := 245) (by omega) _
    exact br_f c' (hc _ _ R.1.1 ⟨R.1.1, rw0 R (br_f c' (br_t rfl (hk _ (INV_end st3.2.1 (WF_mono hW (by omega) hB) (stR_CP st3 ⟨h, e, P⟩) R' (stR_OT s st3 (by omega) hB O)))))⟩)
theorem jn_coin {x : Int32} (I : INV w B) (hB : B + 99 < 2 ^ 24) (hk : ∀ u, INV u (B + 99) → L u) {K : Int32 → Wd → Prop} (hc : ∀ r w1, isK w1 245 12 → w_X12_coin 245 x (fun t w2 => (r = t → L w2) ∧ (¬ r = t → F w2)) w1 → K r w1) : w_X11_coin 64 x K w := by
  obtain ⟨s, ⟨g, hW, ⟨h, e, P⟩, R⟩, O⟩ := I
  have wl := whyC_le g x.toInt
  unfold w_X11_coin
  rw [s.1.2.1, P.1.2.1]
  refine ⟨s.1.1, P.1.1, P.2.1.1.1.1.1, q_whyC P.2.1.1.1 hW ?_⟩
  have rw0 : ∀ {w1 : Wd} {K2 : Int32 → Wd → Prop}, RS w1 245 g → K2 (nI (whyC g x.toInt)) (uI w1 245 4 0) → w_X12_whyCoin 245 x.toInt64 K2 (uI w1 245 4 0) := fun R1 z => by
    refine p_whyCoin (RSs R1 (t := 245) (by omega) _) hW ?_
    rw [i64_32]
    exact z
  by_cases c : whyC g x.toInt = 0
  · obtain ⟨v, hx, hv⟩ := whyC_0 c
    refine br_t (by rw [c]; rfl) ⟨s.1.1, ?_⟩
    rw [s.1.2.1]
    refine ⟨P.1.1, q_remember (by omega) hW.1 P (fun u1 e' hu1 P1 => ?_)⟩
    have hWk := keepR_WF hW
    have k1 := keepR_at hW (j := 1) (by omega) (by omega)
    have h10 := hW.1.1.2.1
    rw [(XT_pg s hu1).2, s.1.2.2.2.2.2.2.2.1, s.1.2.1, P1.1.2.1, nI_v hx]
    have L1 := P1.2.1
    refine ⟨(XT_pg s hu1).1, (DK_pg s hu1).1, P1.1.1, L1.1.1.1.1, q_coinInto (DK_pg s hu1) (by unfold nA; omega) (NS_pg s hu1) L1.1 (by omega) hWk (LX_n L1 (by omega)) (by omega) (fun u2 hu2 L2 N2 => ?_)⟩
    have D := coinR_WF hWk (v := v) (by omega)
    obtain ⟨st, P2⟩ := stC_deed (e := e) s hu1 hu2 N2 P1 L2 D.2
    have R2 := stC_RS st R
    have O2 := stC_OT s st (Nat.le_refl _) hW.2.2.2.2 O
    refine hc _ _ R2.1.1 ⟨R2.1.1, rw0 R2 (br_t (by rw [c]; rfl) ⟨R2.1.1, p_keeps (RSs R2 (t := 245) (by omega) _) hW.1 (fun u3 hu3 R3 => ⟨R3.1.1, ?_⟩)⟩)⟩
    rw [nI_v hx]
    refine p_coins R3 hWk (by omega) (fun u4 hu4 R4 => br_t rfl (hk _ ?_))
    have st3 : stR u2 u4 := stR_trans (stR_uI st.2 (by decide) (by decide) (by decide)) (stR_refT (stR_uI (k := 4) (v := 0) st.2 (by decide) (by decide) (by decide)).2.1 (eqW_trans hu3 hu4))
    exact INV_end st3.2.1 (WF_mono D.1 (by omega) hB) (stR_CP st3 P2) R4 (stR_OT st.2 st3 (by omega) hB O2)
  · have c' : ¬ nI (whyC g x.toInt) = 0 := nI_ne0 (by omega) (by omega)
    have st3 := stR_uI (k := 4) (v := 0) s (by decide) (by decide) (by decide)
    have R' : RS (uI w 245 4 0) 245 g := RSs R (t := 245) (by omega) _
    exact br_f c' (hc _ _ R.1.1 ⟨R.1.1, rw0 R (br_f c' (br_t rfl (hk _ (INV_end st3.2.1 (WF_mono hW (by omega) hB) (stR_CP st3 ⟨h, e, P⟩) R' (stR_OT s st3 (by omega) hB O)))))⟩)
theorem jn_lull {x : Int32} (I : INV w B) (hB : B + 99 < 2 ^ 24) (hk : ∀ u, INV u (B + 99) → L u) {K : Int32 → Wd → Prop} (hc : ∀ r w1, isK w1 245 12 → w_X12_lull 245 x (fun t w2 => (r = t → L w2) ∧ (¬ r = t → F w2)) w1 → K r w1) : w_X11_lull 64 x K w := by
  obtain ⟨s, ⟨g, hW, ⟨h, e, P⟩, R⟩, O⟩ := I
  have wl := whyL_le g x.toInt
  unfold w_X11_lull
  rw [s.1.2.1, P.1.2.1]
  refine ⟨s.1.1, P.1.1, P.2.1.1.1.1.1, q_whyL P.2.1.1.1 hW ?_⟩
  have rw0 : ∀ {w1 : Wd} {K2 : Int32 → Wd → Prop}, RS w1 245 g → K2 (nI (whyL g x.toInt)) (uI w1 245 4 0) → w_X12_whyLull 245 x.toInt64 K2 (uI w1 245 4 0) := fun R1 z => by
    refine p_whyLull (RSs R1 (t := 245) (by omega) _) hW ?_
    rw [i64_32]
    exact z
  by_cases c : whyL g x.toInt = 0
  · obtain ⟨v, hx, hv⟩ := whyL_0 c
    refine br_t (by rw [c]; rfl) ⟨s.1.1, ?_⟩
    rw [s.1.2.1]
    refine ⟨P.1.1, q_remember (by omega) hW.1 P (fun u1 e' hu1 P1 => ?_)⟩
    have hWk := keepR_WF hW
    have k1 := keepR_at hW (j := 1) (by omega) (by omega)
    have h10 := hW.1.1.2.1
    have q37 := (hWk.1.2.1 v (by omega)).1
    rw [(XT_pg s hu1).2, s.1.2.1, P1.1.2.1, nI_v hx]
    have L1 := P1.2.1
    refine ⟨(XT_pg s hu1).1, P1.1.1, L1.1.1.1.1, q_putToSleep L1.1 hWk (by omega) (fun u2 hu2 L2 => ?_)⟩
    have D := lullR_WF hWk (v := v) (by omega)
    obtain ⟨st, P2⟩ := stC_deed (e := e) s hu1 (eqW_mono (fun _ => Or.inr) hu2) (NS_fr hu2 (fun z => by unfold landT at z; omega) (NS_pg s hu1)) P1 L2 D.2
    have R2 := stC_RS st R
    have O2 := stC_OT s st (Nat.le_refl _) hW.2.2.2.2 O
    obtain ⟨h2, e2, P2'⟩ := P2
    rw [st.2.1.2.1, P2'.1.2.1]
    refine ⟨st.2.1.1, P2'.1.1, L2.1.1.1, q_shiftOf L2.1 (by omega) (hc _ _ R2.1.1 ⟨R2.1.1, rw0 R2 (br_t (by rw [c]; rfl) ⟨R2.1.1, p_keeps (RSs R2 (t := 245) (by omega) _) hW.1 (fun u3 hu3 R3 => ?_)⟩)⟩)⟩
    obtain ⟨a1, a2, a3⟩ := p_rd (k := 37 + v) R3 (by omega) (P := fun z => z = nI (keepR g (37 + v))) rfl
    rw [nI_v hx, show (37 + nI v : Int32) = nI (37 + v) from nI_add 37 v, show (5 + nI v : Int32) = nI (5 + v) from nI_add 5 v]
    refine ⟨R3.1.1, a1, a2, ?_⟩
    rw [a3]
    refine p_shiftsTo R3 hWk.1 hWk.2.2.1 hWk.2.2.2.2 (by omega) (by omega) ?_
    have R4 : RS (uI u3 246 (5 + v) (nI (fmN (keepR g (37 + v)) (keepR g 26) (keepR g (27 + v))))) 245 (lullR (keepR g) v) := RS_wr R3 (5 + v) (fmN (keepR g (37 + v)) (keepR g 26) (keepR g (27 + v)))
    obtain ⟨b1, b2, b3⟩ := p_rd (k := 5 + v) R4 (by omega) (P := fun z => z = nI (lullR (keepR g) v (5 + v))) rfl
    refine ⟨R4.1.1, b1, b2, ?_⟩
    rw [b3]
    refine br_t rfl (hk _ ?_)
    have st3 : stR u2 (uI u3 246 (5 + v) (nI (fmN (keepR g (37 + v)) (keepR g 26) (keepR g (27 + v))))) := stR_trans (stR_uI st.2 (by decide) (by decide) (by decide)) (stR_refT (stR_uI (k := 4) (v := 0) st.2 (by decide) (by decide) (by decide)).2.1 (eqW_trans hu3 (eqW_uI (rT1 245))))
    exact INV_end st3.2.1 (WF_mono D.1 (by omega) hB) (stR_CP st3 ⟨h2, e2, P2'⟩) R4 (stR_OT st.2 st3 (by omega) hB O2)
  · have c' : ¬ nI (whyL g x.toInt) = 0 := nI_ne0 (by omega) (by omega)
    have st3 := stR_uI (k := 4) (v := 0) s (by decide) (by decide) (by decide)
    have R' : RS (uI w 245 4 0) 245 g := RSs R (t := 245) (by omega) _
    exact br_f c' (hc _ _ R.1.1 ⟨R.1.1, rw0 R (br_f c' (br_t rfl (hk _ (INV_end st3.2.1 (WF_mono hW (by omega) hB) (stR_CP st3 ⟨h, e, P⟩) R' (stR_OT s st3 (by omega) hB O)))))⟩)
theorem jn_thunder (I : INV w B) (hB : B + 99 < 2 ^ 24) (hk : ∀ u, INV u (B + 99) → L u) {K : Int32 → Wd → Prop} (hc : ∀ r w1, isK w1 245 12 → w_X12_thunder 245 (fun t w2 => (r = t → L w2) ∧ (¬ r = t → F w2)) w1 → K r w1) : w_X11_thunder 64 K w := by
  obtain ⟨s, ⟨g, hW, ⟨h, e, P⟩, R⟩, O⟩ := I
  unfold w_X11_thunder
  rw [s.1.2.1]
  refine ⟨s.1.1, P.1.1, q_remember (by omega) hW.1 P (fun u1 e' hu1 P1 => ?_)⟩
  have hWk := keepR_WF hW
  rw [(XT_pg s hu1).2, s.1.2.2.2.2.2.2.2.1, s.1.2.1, P1.1.2.1]
  have L1 := P1.2.1
  refine ⟨(XT_pg s hu1).1, (DK_pg s hu1).1, P1.1.1, L1.1.1.1.1, q_thunderOver L1.1 hWk (fun u2 hu2 L2 => ?_)⟩
  have D := thunR_WF hWk
  obtain ⟨st, P2⟩ := stC_deed (e := e) s hu1 (eqW_mono (fun _ => Or.inr) hu2) (NS_fr hu2 (fun z => by unfold landT at z; omega) (NS_pg s hu1)) P1 L2 D.2
  have R2 := stC_RS st R
  have O2 := stC_OT s st (Nat.le_refl _) hW.2.2.2.2 O
  refine hc _ _ R2.1.1 ⟨R2.1.1, p_keeps (RSs R2 (t := 245) (by omega) _) hW.1 (fun u3 hu3 R3 => ⟨R3.1.1, ?_⟩)⟩
  refine p_thunders R3 hWk (fun u4 hu4 R4 => br_t rfl (hk _ ?_))
  have st3 : stR u2 u4 := stR_trans (stR_uI st.2 (by decide) (by decide) (by decide)) (stR_refT (stR_uI (k := 4) (v := 0) st.2 (by decide) (by decide) (by decide)).2.1 (eqW_trans hu3 hu4))
  exact INV_end st3.2.1 (WF_mono D.1 (by omega) hB) (stR_CP st3 P2) R4 (stR_OT st.2 st3 (by omega) hB O2)
end JD
