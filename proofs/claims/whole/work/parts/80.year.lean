/-! 80: calls: perform, year -/
theorem upb_sim {g g' : Nat → Nat} (s : simR g g') {n v : Nat} (hv : v < 10) : upb g' n v = upb g n v := by
  unfold upb ph
  rw [s 26 (by omega) (by omega), s (5 + v) (by omega) (by omega), s (27 + v) (by omega) (by omega), s (37 + v) (by omega) (by omega)]
theorem isB_in {n : Nat} {x : Int} (h : ¬ isB n x = false) : 0 ≤ x ∧ x < n := of_decide_eq_true (by
  cases e : isB n x
  · exact absurd e h
  · exact e)
theorem whyD_sim {g g' : Nat → Nat} (hh : wfH g) (s : simR g g') (x y : Int) : whyD g' x y = whyD g x y := by
  have h10 := hh.1.2.1
  unfold whyD
  rw [s 1 (by omega) (by omega), s 25 (by omega) (by omega)]
  by_cases c : isB (g 1) x = false
  · rw [if_pos c, if_pos c]
  · have c' := isB_in c
    rw [if_neg c, if_neg c, upb_sim s (by omega), s (15 + x.toNat) (by omega) (by omega)]
theorem whyL_sim {g g' : Nat → Nat} (hh : wfH g) (s : simR g g') (x : Int) : whyL g' x = whyL g x := by
  have h10 := hh.1.2.1
  unfold whyL
  rw [s 1 (by omega) (by omega)]
  by_cases c : isB (g 1) x = false
  · rw [if_pos c, if_pos c]
  · have c' := isB_in c
    rw [if_neg c, if_neg c, upb_sim s (by omega), s (37 + x.toNat) (by omega) (by omega), s (27 + x.toNat) (by omega) (by omega)]
theorem whyC_sim {g g' : Nat → Nat} (hh : wfH g) (s : simR g g') (x : Int) : whyC g' x = whyC g x := by
  have h10 := hh.1.2.1
  unfold whyC
  rw [s 1 (by omega) (by omega)]
  by_cases c : isB (g 1) x = false
  · rw [if_pos c, if_pos c]
  · have c' := isB_in c
    rw [if_neg c, if_neg c, upb_sim s (by omega)]
theorem whyT_sim {g g' : Nat → Nat} (hh : wfH g) (s : simR g g') (x : Int) : whyT g' x = whyT g x := by
  unfold whyT
  rw [whyD_sim hh s, whyL_sim hh s, whyC_sim hh s]
theorem i3264 (x : Int32) : x.toInt64.toInt32 = x := by
  have a := Int32.toInt_lt x
  have b := Int32.le_toInt x
  apply Int32.toInt_inj.mp
  rw [Int64.toInt_toInt32, Int32.toInt_toInt64]
  exact bm (by omega) (by omega)
/-- a told deed, with what can be undone -/
noncomputable def kdR (g : Nat → Nat) (x : Int) : Nat → Nat := doR (keepR g) x
theorem kdR_WF {g : Nat → Nat} {B : Nat} {x : Int} (hW : WF g B) (hB : B + 1 < 2 ^ 24) (h : whyT g x = 0) : WF (kdR g x) (B + 1) ∧ sameH (keepR g) (kdR g x) := doR_WF (keepR_WF hW) hB (by rw [whyT_sim hW.1 (keepR_sim hW.1)]; exact h)
section JP
variable {w : Wd} {B : Nat} {L F : Wd → Prop} {g : Nat → Nat}
theorem q_carryIf {K : Int32 → Wd → Prop} {x : Int64} {h e : Nat} (s : SH w) (hW : WF g B) (hB : B + 1 < 2 ^ 24) (P : PG w 90 h e g) (hk1 : whyT g x.toInt = 0 → ∀ u, stC w u → CP u (kdR g x.toInt) → K 1 u) (hk0 : ¬ whyT g x.toInt = 0 → K 0 w) : w_X11_carryOutIfCan 64 x K w := by
  have wl := whyT_le g x.toInt
  unfold w_X11_carryOutIfCan
  rw [s.1.2.1, P.1.2.1]
  refine ⟨s.1.1, P.1.1, P.2.1.1.1.1.1, q_whyT P.2.1.1.1 hW ?_⟩
  by_cases c : whyT g x.toInt = 0
  · refine br_t (by rw [c]; rfl) ⟨s.1.1, ?_⟩
    rw [s.1.2.1]
    refine ⟨P.1.1, q_remember (by omega) hW.1 P (fun u1 e' hu1 P1 => ?_)⟩
    have hWk := keepR_WF hW
    have c2 : whyT (keepR g) x.toInt = 0 := by rw [whyT_sim hW.1 (keepR_sim hW.1)]; exact c
    rw [(XT_pg s hu1).2, s.1.2.2.2.2.2.2.2.1, s.1.2.1, P1.1.2.1]
    have L1 := P1.2.1
    refine ⟨(XT_pg s hu1).1, (DK_pg s hu1).1, P1.1.1, L1.1.1.1.1, q_carryOut (DK_pg s hu1) (by unfold nA; omega) (NS_pg s hu1) L1.1 (by omega) hWk hB (LX_n L1 (by omega)) c2 (fun u2 hu2 L2 N2 => ?_)⟩
    obtain ⟨st, P2⟩ := stC_deed (e := e) s hu1 hu2 N2 P1 L2 (kdR_WF hW hB c).2
    exact hk1 c u2 st P2
  · exact br_f (nI_ne0 (by omega) (by omega)) (hk0 c)
theorem p_kd {K : Wd → Prop} {x : Int64} (R : RS w 245 g) (hW : WF g B) (hB : B + 1 < 2 ^ 24) (c : whyT g x.toInt = 0) {Q : Wd → Prop} (hQ : ∀ u, eqW (refT 245) w u → RS u 245 (keepR g) → w_X12_does 245 x.toInt32 K u → Q u) (hk : ∀ u, eqW (refT 245) w u → RS u 245 (kdR g x.toInt) → K u) : w_X12_keeps 245 Q w := p_keeps R hW.1 (fun u hu Ru => hQ u hu Ru (p_does Ru (keepR_WF hW) hB (by rw [whyT_sim hW.1 (keepR_sim hW.1)]; exact c) (fun u2 hu2 R2 => hk u2 (eqW_trans hu hu2) R2)))
theorem finD {u v : Wd} {g' : Nat → Nat} {C : Nat} {val : Int64} (s : SH w) (O : OT w B) (st : stC w u) (P : CP u g') (W' : WF g' C) (hC : C ≤ B + 99) (st' : stR (uL u 260 0 val) v) (R : RS v 245 g') (h4 : wI v 245 4 = 0) (hB : B + 99 < 2 ^ 24) (hk : ∀ u, INV u (B + 99) → L u) : tlT L F 0 val v := by
  have so := stC_out (v := val) st.2
  have st2 := stC_trans st so
  have P2 : CP (uL u 260 0 val) g' := CP_q (T := cS) (cx_uL (by unfold cS; omega)) (fun _ z => z) P
  exact tlT_0 st'.2.1 h4 (out_at st.2 st') (hk v (INV_end st'.2.1 (WF_mono W' hC hB) (stR_CP st' P2) R (stR_OT st2.2 st' (Nat.le_refl _) hB (stC_OT s st2 (by omega) hB O))))
noncomputable def pfR (g : Nat → Nat) (v : Nat → Int64) : Nat → Nat → Nat
  | 0 => g
  | k + 1 => kdR (pfR g v k) (v k).toInt
theorem pfR_WF {v : Nat → Int64} (hW : WF g B) : ∀ {k : Nat}, B + k < 2 ^ 24 → (∀ j, j < k → whyT (pfR g v j) (v j).toInt = 0) → WF (pfR g v k) (B + k)
  | 0, _, _ => hW
  | k + 1, h, ok => (kdR_WF (pfR_WF hW (k := k) (by omega) (fun j hj => ok j (by omega))) (by omega) (ok k (by omega))).1
theorem jn_perform {x : Int32} (I : INV w B) (hB : B + 99 < 2 ^ 24) (hk : ∀ u, INV u (B + 99) → L u) {K : Int32 → Wd → Prop} (hc : ∀ r w1, isK w1 245 12 → w_X12_perform 245 x (fun b w2 => tlT L F r b.toInt64 w2) w1 → K r w1) : w_L_perform 2 12 64 x 260 K w := by
  obtain ⟨g, I⟩ := INV_x I
  have s := I.1
  have hW := I.2.1
  refine ⟨s.1.1, ⟨by decide, by decide⟩, s.1.1, ⟨by decide, by decide⟩, q_presentTray s I.2.2.2.2.2.1 (fun i hi hx sv m v t => ?_) (fun c N hN => Or.inl ⟨rfl, ?_⟩) (fun i hi hx sv m v t N hN => Or.inr ⟨rfl, ?_⟩)⟩
  · subst hx
    have hm := t.2.1
    obtain ⟨k, k1, k2, k3⟩ := jd_ex (fun j => whyT (pfR g v j) (v j).toInt) m
    have Wk : ∀ j, j ≤ k → WF (pfR g v j) (B + j) := fun j hj => pfR_WF hW (by omega) (fun j' hj' => k2 j' (by omega))
    have go : ∀ E : Int32 → Wd → Prop, ∀ X, (∀ u, stC w u → CP u (pfR g v k) → E (nI k) u) → ∀ d j u, j + d = k → stC w u → CP u (pfR g v j) → l_X11_perform_11 2 12 X E (d + 1) 64 (230 + 2 * i) (nI j) (nI j) 2 12 u := by
      intro E X hE d
      induction d with
      | zero =>
        intro j u hj st Pu
        have : j = k := by omega
        subst this
        have tu := TRv_fr st.1 s hi (fun t z => by unfold cD cS at z; omega) t
        have S := st.2.2.2.2.2.2.2.1 i hi
        unfold l_X11_perform_11
        rw [tu.2.2.1.2.1]
        refine ⟨S.1, ?_⟩
        by_cases ek : j < m
        · obtain ⟨h, e, Pu'⟩ := Pu
          refine br_f (nI_ge ek (by omega)) (q_numberAt st.2 hi tu ek ⟨st.2.1.1, q_carryIf st.2 (Wk j (by omega)) (by omega) Pu' (fun c => absurd c (k3 ek)) (fun _ => br_t rfl (hE u st ⟨h, e, Pu'⟩))⟩)
        · exact br_t (nI_le (by omega) (by omega)) (hE u st Pu)
      | succ d ih =>
        intro j u hj st Pu
        have tu := TRv_fr st.1 s hi (fun t z => by unfold cD cS at z; omega) t
        have S := st.2.2.2.2.2.2.2.1 i hi
        obtain ⟨h, e, Pu'⟩ := Pu
        unfold l_X11_perform_11
        rw [tu.2.2.1.2.1]
        refine ⟨S.1, br_f (nI_ge (by omega) (by omega)) (q_numberAt st.2 hi tu (by omega) ⟨st.2.1.1, q_carryIf st.2 (Wk j (by omega)) (by omega) Pu' (fun c u' st' P' => br_f (by decide) ?_) (fun c => absurd (k2 j (by omega)) c)⟩)⟩
        rw [nI_1]
        exact ih (j + 1) u' (by omega) (stC_trans st st') P'
    refine ⟨k + 1, go _ _ (fun u st Pu => ?_) k 0 w (by omega) (stC_refl s) I.2.2.1⟩
    have k260 := st.2.2.2.2.2.2.2.2.2.2.2.2
    have so := stC_out (v := (nI k).toInt64) st.2
    have st2 := stC_trans st so
    have R2 := stC_RS st2 I.2.2.2.1
    have tu : TRv (uL u 260 0 (nI k).toInt64) i true sv m v := TRv_fr st2.1 s hi (fun t z => by unfold cD cS at z; omega) t
    refine ⟨k260.1, by rw [k260.2]; exact vp_in_nI (n := 0) (by decide) (by decide), hc _ (uL u 260 0 (nI k).toInt64) R2.1.1 ⟨R2.1.1, p_trayFault st2.2 hi tu ⟨R2.1.1, ?_⟩⟩⟩
    have st3 := stR_uI (k := 4) (v := 0) st2.2 (by decide) (by decide) (by decide)
    have t3 : TRv (uI (uL u 260 0 (nI k).toInt64) 245 4 0) i true sv m v := TRv_fr st3.1 st2.2 hi (fun t z => by unfold rS at z; omega) tu
    have R3 : RS (uI (uL u 260 0 (nI k).toInt64) 245 4 0) 245 g := RSs R2 (t := 245) (by omega) _
    have x4 : wI (uI (uL u 260 0 (nI k).toInt64) 245 4 0) 245 4 = 0 := by rw [wI_uI, if_pos rfl]
    rw [if_pos rfl, x4]
    refine br_t (by decide) ⟨k + 1, ?_⟩
    have gr : ∀ E : Int32 → Wd → Prop, (∀ z, eqW (refT 245) (uI (uL u 260 0 (nI k).toInt64) 245 4 0) z → RS z 245 (pfR g v k) → E (nI k) z) → ∀ d j z, j + d = k → eqW (refT 245) (uI (uL u 260 0 (nI k).toInt64) 245 4 0) z → RS z 245 (pfR g v j) → l_X12_perform_20 E (d + 1) 245 (nI i) (nI j) z := by
      intro E hE d
      induction d with
      | zero =>
        intro j z hj hz Rz
        have : j = k := by omega
        subst this
        have q := stR_refT st3.2.1 hz
        have tz := TRv_fr q.1 st3.2.1 hi (fun t z => by unfold rS at z; omega) t3
        have sz := q.2.1
        unfold l_X12_perform_20
        rw [(m27 sz).1, (m27 sz).2.2, nI_clamp (n := i) (by omega), tz.2.2.2.2.1]
        refine ⟨Rz.1.1, (m27 sz).2.1, vp_in_nI hi (by decide), ?_⟩
        by_cases ek : j < m
        · have ei : ((30 * nI i) + nI j : Int32) = nI (30 * i + j) := by rw [show (30 * nI i : Int32) = nI (30 * i) from pk_mul 30 i, nI_add]
          have wl := whyT_le (pfR g v j) (v j).toInt
          refine br_f (nI_ge ek (by omega)) ?_
          rw [(m28 sz).1, (m28 sz).2.2, ei, nI_clamp (n := 30 * i + j) (by omega), tz.2.2.2.2.2 j (by omega)]
          exact ⟨(m28 sz).2.1, vp_in_nI (by omega) (by decide), p_whyT Rz (Wk j (by omega)) (br_f (nI_ne0 (by have := k3 ek; omega) (by omega)) (hE z hz Rz))⟩
        · exact br_t (nI_le (by omega) (by omega)) (hE z hz Rz)
      | succ d ih =>
        intro j z hj hz Rz
        have q := stR_refT st3.2.1 hz
        have tz := TRv_fr q.1 st3.2.1 hi (fun t z => by unfold rS at z; omega) t3
        have sz := q.2.1
        have ei : ((30 * nI i) + nI j : Int32) = nI (30 * i + j) := by rw [show (30 * nI i : Int32) = nI (30 * i) from pk_mul 30 i, nI_add]
        have w0 := k2 j (by omega)
        unfold l_X12_perform_20
        rw [(m27 sz).1, (m27 sz).2.2, nI_clamp (n := i) (by omega), tz.2.2.2.2.1]
        refine ⟨Rz.1.1, (m27 sz).2.1, vp_in_nI hi (by decide), br_f (nI_ge (by omega) (by omega)) ?_⟩
        rw [(m28 sz).1, (m28 sz).2.2, ei, nI_clamp (n := 30 * i + j) (by omega), tz.2.2.2.2.2 j (by omega)]
        refine ⟨(m28 sz).2.1, vp_in_nI (by omega) (by decide), p_whyT Rz (Wk j (by omega)) ?_⟩
        rw [show whyT (pfR g v j) (v j).toInt = 0 from w0]
        refine br_t rfl ⟨Rz.1.1, p_kd (x := v j) Rz (Wk j (by omega)) (by omega) w0 (fun z1 hz1 Rz1 z2 => ?_) (fun z1 hz1 Rz1 => ih (j + 1) z1 (by omega) (eqW_trans hz hz1) Rz1)⟩
        have q1 := stR_refT q.2.1 hz1
        have tz1 := TRv_fr q1.1 q.2.1 hi (fun t z => by unfold rS at z; omega) tz
        rw [(m28 q1.2.1).1, (m28 q1.2.1).2.2, tz1.2.2.2.2.2 j (by omega), nI_1]
        exact ⟨Rz1.1.1, (m28 q1.2.1).2.1, vp_in_nI (by omega) (by decide), z2⟩
    refine gr _ (fun z hz Rz => ?_) k 0 _ (by omega) (eqW_refl _ _) R3
    refine finD s I.2.2.2.2 st Pu (Wk k (Nat.le_refl _)) (by omega) (stR_trans st3 (stR_refT st3.2.1 hz)) Rz ?_ hB hk
    rw [(hz.2.2.2 245 (by unfold refT; omega)).1]
    exact x4
  · have J := INVx_J I hN
    have J1 := INVx_t (k := 4) (v := 1) J (by decide) (by decide) (by decide)
    refine hc _ _ (INVx_M J) ⟨INVx_M J, p_trayFault_n c ⟨INVx_M J, ?_⟩⟩
    rw [show wI (uI (wJ w N) 245 4 1) 245 4 = 1 by rw [wI_uI, if_pos rfl]]
    exact br_f (by decide) (finK J1 (by decide) (by rw [wI_uI, if_pos rfl]) hB hk)
  · subst hx
    have J := INVx_J I hN
    have tJ := TRv_fr (T := fun _ => False) (cx_wJ hN) s hi (fun _ z => z.elim) t
    have J1 := INVx_t (k := 4) (v := 2) J (by decide) (by decide) (by decide)
    refine hc _ _ (INVx_M J) ⟨INVx_M J, p_trayFault J.1 hi tJ ⟨INVx_M J, ?_⟩⟩
    rw [if_neg (by decide), show wI (uI (wJ w N) 245 4 2) 245 4 = 2 by rw [wI_uI, if_pos rfl]]
    exact br_f (by decide) (finK J1 (by decide) (by rw [wI_uI, if_pos rfl]) hB hk)
end JP
