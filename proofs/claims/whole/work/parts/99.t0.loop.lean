/-! 99.t0: the law's loop -/
def cWk (L F : Wd → Prop) (r b : Int32) (w : Wd) : Prop := isK w 245 12 ∧ w_X12_thrown 245 (fun r411 w412 => ((r411 = r → ((r = 0 → isK w412 260 21 ∧ vp_in 0 (wn w412 260) ∧ ((b = 0 → (((lg_cmp (wL w412 260 (0 : Int32).toNatClampNeg) 0) = 0 → L w412) ∧ (¬ (lg_cmp (wL w412 260 (0 : Int32).toNatClampNeg) 0) = 0 → F w412))) ∧ (¬ b = 0 → (((lg_cmp (wL w412 260 (0 : Int32).toNatClampNeg) 1) = 0 → L w412) ∧ (¬ (lg_cmp (wL w412 260 (0 : Int32).toNatClampNeg) 1) = 0 → F w412))))) ∧ (¬ r = 0 → L w412))) ∧ (¬ r411 = r → F w412))) w
theorem cWk_0 {L F : Wd → Prop} {r : Int32} {w : Wd} (h : tlT L F r 0 w) : cWk L F r 0 w := by
  obtain ⟨h1, h2, h3⟩ := h
  refine ⟨h1, h2, fun e => ?_, h3.2⟩
  have q := h3.1 e
  exact ⟨fun e0 => ⟨(q.1 e0).1, (q.1 e0).2.1, fun _ => (q.1 e0).2.2, fun ne => absurd rfl ne⟩, q.2⟩
theorem cWk_1 {L F : Wd → Prop} {r b : Int32} {w : Wd} (hb : ¬ b = 0) (h : tlT L F r 1 w) : cWk L F r b w := by
  obtain ⟨h1, h2, h3⟩ := h
  refine ⟨h1, h2, fun e => ?_, h3.2⟩
  have q := h3.1 e
  exact ⟨fun e0 => ⟨(q.1 e0).1, (q.1 e0).2.1, fun eb => absurd eb hb, fun _ => (q.1 e0).2.2⟩, q.2⟩
section WK
variable {w : Wd} {B : Nat} {L F : Wd → Prop}
theorem jn_wakes2 {x y z : Int32} (I : INV w B) (hB : B + 99 < 2 ^ 24) (hk : ∀ u, INV u (B + 99) → L u) {K : Int32 → Wd → Prop} (hc : ∀ r w1, isK w1 245 12 → w_X12_wakes 245 x y z (fun b w2 => cWk L F r b w2) w1 → K r w1) : w_L_wakes 4 24 64 x y z 260 K w := by
  obtain ⟨g, I⟩ := INV_x I
  have hW := I.2.1
  have h10 := hW.1.1.2.1
  have bad : ∀ N, wN w ≤ N → ∀ k : Int32, ¬ k = 0 → j_X12_wakes_40 (fun b w2 => cWk L F k b w2) 245 x y z k 245 (wJ w N) := fun N hN k hk0 => by
    have J := INVx_J I hN
    have J1 := INVx_t (k := 4) (v := k) J (by decide) (by decide) (by decide)
    refine ⟨INVx_M J, INVx_M J, ?_⟩
    rw [fw]
    exact br_f hk0 (cWk_0 (finK J1 hk0 (fw _ _) hB hk))
  refine ⟨I.1.1.1, ⟨by decide, by decide⟩, I.1.1.1, ⟨by decide, by decide⟩, q_needWell I.1 hW I.2.2.1 (fun c => ⟨I.1.1.1, ⟨by decide, by decide⟩, q_needWell I.1 hW I.2.2.1 (fun d => ⟨⟨by decide, by decide⟩, ?_⟩) (fun d N hN => Or.inl ⟨rfl, ?_⟩)⟩) (fun c N hN => Or.inl ⟨rfl, ?_⟩)⟩
  · refine ⟨fun e => ⟨⟨by decide, by decide⟩, fun N hN => Or.inr ⟨rfl, ?_⟩⟩, fun e => ⟨⟨by decide, by decide⟩, q_noise (fun n hy hn cn => ?_) (fun cn N hN => Or.inr ⟨rfl, ?_⟩)⟩⟩
    · have J := INVx_J I hN
      refine hc _ _ (INVx_M J) ⟨INVx_M J, p_isWell J.2.2.2.1 hW.1 ?_⟩
      rw [i64_32, c]
      refine br_f (by decide) ⟨INVx_M J, p_isWell J.2.2.2.1 hW.1 ?_⟩
      rw [i64_32, d]
      exact br_f (by decide) (br_t e (bad N hN 2 (by decide)))
    · obtain ⟨a, rfl, ha, -⟩ := isB_v c
      obtain ⟨b, rfl, hb, -⟩ := isB_v d
      subst hy
      refine nLook I (fun u Iu P => nOnce Iu P ha hn (fun u' hu' Iu' P' => ?_))
      have s10 := set_lt hW.1 (show once g a n < 2 ^ g 1 from mk_lt _ _)
      refine q_has (by omega) (by omega) ⟨b2i_or _, ?_⟩
      rw [once_b hb]
      have ref : ∀ val : Int64, (val = if wkn g a b n = true then 1 else 0) → K 0 (uL u' 260 (0 : Int32).toNatClampNeg val) := fun val hv => by
        have Io := INVx_o (v := val) Iu'
        refine hc _ _ (INVx_M Io) ⟨INVx_M Io, p_isWell Io.2.2.2.1 hW.1 ?_⟩
        rw [i64_32, c]
        refine br_f (by decide) ⟨INVx_M Io, p_isWell Io.2.2.2.1 hW.1 ?_⟩
        rw [i64_32, d]
        refine br_f (by decide) (br_f e (p_isNoise ?_))
        rw [cn]
        refine br_f (by decide) ⟨INVx_M Io, INVx_M Io, ?_⟩
        rw [fw]
        refine br_t rfl (rWoken (rq_0 Iu') hW ha hb hn (fun v Nv => ?_))
        have z := rFin (F := F) Iu' Nv hB hk
        cases e5 : wkn g a b n
        · rw [hv, e5] at z
          exact br_t rfl (cWk_0 z)
        · rw [hv, e5] at z
          exact br_f (by decide) (cWk_1 (by decide) z)
      cases e5 : wkn g a b n
      · exact br_t rfl (INVx_out Iu' (ref 0 (by rw [e5]; rfl)))
      · exact br_f (by decide) (INVx_out Iu' (ref 1 (by rw [e5]; rfl)))
    · have J := INVx_J I hN
      refine hc _ _ (INVx_M J) ⟨INVx_M J, p_isWell J.2.2.2.1 hW.1 ?_⟩
      rw [i64_32, c]
      refine br_f (by decide) ⟨INVx_M J, p_isWell J.2.2.2.1 hW.1 ?_⟩
      rw [i64_32, d]
      refine br_f (by decide) (br_f e (p_isNoise ?_))
      rw [cn]
      exact br_t rfl (bad N hN 2 (by decide))
  · have J := INVx_J I hN
    refine hc _ _ (INVx_M J) ⟨INVx_M J, p_isWell J.2.2.2.1 hW.1 ?_⟩
    rw [i64_32, c]
    refine br_f (by decide) ⟨INVx_M J, p_isWell J.2.2.2.1 hW.1 ?_⟩
    rw [i64_32, d]
    exact br_t rfl (bad N hN 1 (by decide))
  · have J := INVx_J I hN
    refine hc _ _ (INVx_M J) ⟨INVx_M J, p_isWell J.2.2.2.1 hW.1 ?_⟩
    rw [i64_32, c]
    exact br_t rfl (bad N hN 1 (by decide))
end WK
theorem INV_up {w : Wd} {B : Nat} (I : INV w B) (h : B + 99 < 2 ^ 24) : INV w (B + 99) := by
  obtain ⟨g, I⟩ := INV_x I
  exact x_INV I (by omega) h
set_option maxHeartbeats 4000000 in
theorem law_loop {n0 : Nat} {sc : Nat → Int32} {K : Int32 → Wd → Prop} (hn : n0 ≤ 3072) (hK : ∀ w, K 1 w) : ∀ d p i0 j0 B w, n0 < p + 6 * (d + 1) → p ≤ n0 + 6 → i0 ≤ 9000 + 167 * p → j0 ≤ 300000 + 335 * p → 999 ≤ B → B ≤ 1000 + 17 * p → INV w B → l_L_law_23 n0 sc 601024 7293034 K (d + 1) 64 245 260 (nI p) i0 j0 w := by
  intro d
  have ex : ∀ p, n0 < p + 6 → p ≤ n0 + 6 → (Int32.ofNat n0 - 6 : Int32) < nI p := fun p h1 h2 => by
    have e := pk_sub_toInt (a := n0) (b := 6) (by omega) (by decide)
    refine Int32.lt_iff_toInt_lt.mpr ?_
    rw [nI_toInt (by omega)]
    have e' : (Int32.ofNat n0 - 6 : Int32).toInt = (n0 : Int) - 6 := e
    omega
  have nex : ∀ p, p + 6 ≤ n0 → ¬ (Int32.ofNat n0 - 6 : Int32) < nI p := fun p h1 y => by
    have e := pk_sub_toInt (a := n0) (b := 6) (by omega) (by decide)
    have y2 := Int32.lt_iff_toInt_lt.mp y
    rw [nI_toInt (by omega)] at y2
    have e' : (Int32.ofNat n0 - 6 : Int32).toInt = (n0 : Int) - 6 := e
    omega
  induction d with
  | zero =>
    intro p i0 j0 B w h1 h2 h3 h4 h5 h6 I
    exact ⟨fun _ => hK w, fun y => absurd (ex p (by omega) h2) y⟩
  | succ d ih =>
    intro p i0 j0 B w h1 h2 h3 h4 h5 h6 I
    by_cases c : n0 < p + 6
    · exact ⟨fun _ => hK w, fun y => absurd (ex p c h2) y⟩
    have h99 : B + 99 < 2 ^ 24 := by omega
    have h300 : B + 300 < 2 ^ 24 := by omega
    have h999 : 999 ≤ B := h5
    have nx : ∀ i1 j1, i1 ≤ 9000 + 167 * (p + 6) → j1 ≤ 300000 + 335 * (p + 6) → ∀ u, INV u (B + 99) → l_L_law_23 n0 sc 601024 7293034 K (d + 1) 64 245 260 (nI p + 6) i1 j1 u := fun i1 j1 a1 a2 u Iu => by
      rw [show (nI p + 6 : Int32) = nI (p + 6) from nI_add p 6]
      exact ih (p + 6) i1 j1 (B + 99) u (by omega) (by omega) a1 a2 (by omega) (by omega) Iu
    have vp : ∀ k, k < 6 → vp_in (nI p + nI k) n0 := fun k hk => by
      rw [show (nI p + nI k : Int32) = nI (p + k) from nI_add p k]
      exact vp_in_nI (by omega) (by omega)
    have V0 : vp_in (nI p) n0 := vp_in_nI (by omega) (by omega)
    have V1 : vp_in (nI p + 1) n0 := vp 1 (by decide)
    have V2 : vp_in (nI p + 2) n0 := vp 2 (by decide)
    have V3 : vp_in (nI p + 3) n0 := vp 3 (by decide)
    have V4 : vp_in (nI p + 4) n0 := vp 4 (by decide)
    have V5 : vp_in (nI p + 5) n0 := vp 5 (by decide)
    unfold l_L_law_23
    refine ⟨fun _ => hK w, fun _ => ⟨V0, ?_⟩⟩
    refine ⟨fun _ => ⟨V1, V2, V3, V4, V5, I.1.1.1, jn_feed (L := fun u => l_L_law_23 n0 sc 601024 7293034 K (d + 1) 64 245 260 (nI p + 6) i0 j0 u) (F := fun u => K 0 u) I h99 (nx i0 j0 (by omega) (by omega)) (fun r w1 k h => ⟨V1, V2, V3, V4, V5, k, h⟩)⟩, fun _ => ?_⟩
    refine ⟨fun _ => ⟨V1, 1001, 2006, ⟨by omega, by omega⟩, jn_hills (L := fun u => l_L_law_23 n0 sc 601024 7293034 K (d + 1) 64 245 260 (nI p + 6) (i0 + 1001) (j0 + 2006) u) (F := fun u => K 0 u) I h999 h99 (nx (i0 + 1001) (j0 + 2006) (by omega) (by omega)) (fun r w1 k h => ⟨V1, k, h⟩)⟩, fun _ => ?_⟩
    refine ⟨fun _ => ⟨V1, I.1.1.1, jn_fault (L := fun u => l_L_law_23 n0 sc 601024 7293034 K (d + 1) 64 245 260 (nI p + 6) i0 j0 u) (F := fun u => K 0 u) I h99 (nx i0 j0 (by omega) (by omega)) (fun r w1 k h => ⟨V1, k, h⟩)⟩, fun _ => ?_⟩
    refine ⟨fun _ => ⟨V1, V2, ⟨by omega, by omega⟩, jn_well (L := fun u => l_L_law_23 n0 sc 601024 7293034 K (d + 1) 64 245 260 (nI p + 6) (i0 + 2) (j0 + 12) u) (F := fun u => K 0 u) I h99 (nx (i0 + 2) (j0 + 12) (by omega) (by omega)) (fun r w1 k h => ⟨V1, V2, k, h⟩)⟩, fun _ => ?_⟩
    refine ⟨fun _ => ⟨V1, V2, ⟨by omega, by omega⟩, jn_house (L := fun u => l_L_law_23 n0 sc 601024 7293034 K (d + 1) 64 245 260 (nI p + 6) (i0 + 2) (j0 + 12) u) (F := fun u => K 0 u) I h99 (nx (i0 + 2) (j0 + 12) (by omega) (by omega)) (fun r w1 k h => ⟨V1, V2, k, h⟩)⟩, fun _ => ?_⟩
    refine ⟨fun _ => ⟨I.1.1.1, jn_awake (L := fun u => l_L_law_23 n0 sc 601024 7293034 K (d + 1) 64 245 260 (nI p + 6) i0 j0 u) (F := fun u => K 0 u) I h99 (nx i0 j0 (by omega) (by omega))⟩, fun _ => ?_⟩
    refine ⟨fun _ => ⟨I.1.1.1, jn_water (L := fun u => l_L_law_23 n0 sc 601024 7293034 K (d + 1) 64 245 260 (nI p + 6) i0 j0 u) (F := fun u => K 0 u) I h99 (nx i0 j0 (by omega) (by omega))⟩, fun _ => ?_⟩
    refine ⟨fun _ => ⟨V1, V2, I.1.1.1, jn_draw (L := fun u => l_L_law_23 n0 sc 601024 7293034 K (d + 1) 64 245 260 (nI p + 6) i0 j0 u) (F := fun u => K 0 u) I h99 (nx i0 j0 (by omega) (by omega)) (fun r w1 k h => ⟨V1, V2, k, h⟩)⟩, fun _ => ?_⟩
    refine ⟨fun _ => ⟨V1, I.1.1.1, jn_lull (L := fun u => l_L_law_23 n0 sc 601024 7293034 K (d + 1) 64 245 260 (nI p + 6) i0 j0 u) (F := fun u => K 0 u) I h99 (nx i0 j0 (by omega) (by omega)) (fun r w1 k h => ⟨V1, k, h⟩)⟩, fun _ => ?_⟩
    refine ⟨fun _ => ⟨V1, I.1.1.1, jn_coin (L := fun u => l_L_law_23 n0 sc 601024 7293034 K (d + 1) 64 245 260 (nI p + 6) i0 j0 u) (F := fun u => K 0 u) I h99 (nx i0 j0 (by omega) (by omega)) (fun r w1 k h => ⟨V1, k, h⟩)⟩, fun _ => ?_⟩
    refine ⟨fun _ => ⟨I.1.1.1, jn_thunder (L := fun u => l_L_law_23 n0 sc 601024 7293034 K (d + 1) 64 245 260 (nI p + 6) i0 j0 u) (F := fun u => K 0 u) I h99 (nx i0 j0 (by omega) (by omega)) (fun r w1 k h => ⟨k, h⟩)⟩, fun _ => ?_⟩
    refine ⟨fun _ => ⟨V1, ⟨by omega, by omega⟩, jn_hours (L := fun u => l_L_law_23 n0 sc 601024 7293034 K (d + 1) 64 245 260 (nI p + 6) (i0 + 1) (j0 + 6) u) (F := fun u => K 0 u) I h99 (nx (i0 + 1) (j0 + 6) (by omega) (by omega)) (fun r w1 k h => ⟨V1, k, h⟩)⟩, fun _ => ?_⟩
    refine ⟨fun _ => ⟨V1, ⟨by omega, by omega⟩, jn_undo (L := fun u => l_L_law_23 n0 sc 601024 7293034 K (d + 1) 64 245 260 (nI p + 6) (i0 + 2) (j0 + 12) u) (F := fun u => K 0 u) I h99 (nx (i0 + 2) (j0 + 12) (by omega) (by omega)) (fun r w1 k h => ⟨V1, k, h⟩)⟩, fun _ => ?_⟩
    refine ⟨fun _ => ⟨V1, V2, ⟨by omega, by omega⟩, jn_judge (L := fun u => l_L_law_23 n0 sc 601024 7293034 K (d + 1) 64 245 260 (nI p + 6) (i0 + 3) (j0 + 18) u) (F := fun u => K 0 u) I h99 (nx (i0 + 3) (j0 + 18) (by omega) (by omega)) (fun r w1 k h => ⟨V1, V2, k, h⟩)⟩, fun _ => ?_⟩
    refine ⟨fun _ => ⟨V1, ⟨by omega, by omega⟩, jn_perform (L := fun u => l_L_law_23 n0 sc 601024 7293034 K (d + 1) 64 245 260 (nI p + 6) (i0 + 2) (j0 + 12) u) (F := fun u => K 0 u) I h99 (nx (i0 + 2) (j0 + 12) (by omega) (by omega)) (fun r w1 k h => ⟨V1, k, h⟩)⟩, fun _ => ?_⟩
    refine ⟨fun _ => ⟨V1, V2, ⟨by omega, by omega⟩, jn_year (L := fun u => l_L_law_23 n0 sc 601024 7293034 K (d + 1) 64 245 260 (nI p + 6) (i0 + 2) (j0 + 7) u) (F := fun u => K 0 u) I h99 (nx (i0 + 2) (j0 + 7) (by omega) (by omega)) (fun r w1 k h => ⟨V1, V2, k, h⟩)⟩, fun _ => ?_⟩
    refine ⟨fun _ => ⟨I.1.1.1, jn_joint (L := fun u => l_L_law_23 n0 sc 601024 7293034 K (d + 1) 64 245 260 (nI p + 6) i0 j0 u) (F := fun u => K 0 u) I h99 (nx i0 j0 (by omega) (by omega)) (fun r w1 k h => ⟨k, h⟩)⟩, fun _ => ?_⟩
    refine ⟨fun _ => ⟨V1, V2, fun e => ⟨⟨by omega, by omega⟩, jn_together (L := fun u => l_L_law_23 n0 sc 601024 7293034 K (d + 1) 64 245 260 (nI p + 6) (i0 + 1) (j0 + 6) u) (F := fun u => K 0 u) I h99 (nx (i0 + 1) (j0 + 6) (by omega) (by omega)) (fun r w1 k h => ⟨V1, V2, fun _ => ⟨k, h⟩, fun ne => absurd e ne⟩)⟩, fun e => ⟨⟨by omega, by omega⟩, jn_together (L := fun u => l_L_law_23 n0 sc 601024 7293034 K (d + 1) 64 245 260 (nI p + 6) (i0 + 1) (j0 + 6) u) (F := fun u => K 0 u) I h99 (nx (i0 + 1) (j0 + 6) (by omega) (by omega)) (fun r w1 k h => ⟨V1, V2, fun e2 => absurd e2 e, fun _ => ⟨k, h⟩⟩)⟩⟩, fun _ => ?_⟩
    refine ⟨fun _ => ⟨V1, ⟨by omega, by omega⟩, jn_wakesIn (L := fun u => l_L_law_23 n0 sc 601024 7293034 K (d + 1) 64 245 260 (nI p + 6) (i0 + 1) (j0 + 6) u) (F := fun u => K 0 u) I h99 (nx (i0 + 1) (j0 + 6) (by omega) (by omega)) (fun r w1 k h => ⟨V1, k, h⟩)⟩, fun _ => ?_⟩
    refine ⟨fun _ => ⟨V1, ⟨by omega, by omega⟩, jn_stays (L := fun u => l_L_law_23 n0 sc 601024 7293034 K (d + 1) 64 245 260 (nI p + 6) (i0 + 1) (j0 + 6) u) (F := fun u => K 0 u) I h99 (nx (i0 + 1) (j0 + 6) (by omega) (by omega)) (fun r w1 k h => ⟨V1, k, h⟩)⟩, fun _ => ?_⟩
    refine ⟨fun _ => ⟨V1, ⟨by omega, by omega⟩, jn_withAwake (L := fun u => l_L_law_23 n0 sc 601024 7293034 K (d + 1) 64 245 260 (nI p + 6) (i0 + 1) (j0 + 6) u) (F := fun u => K 0 u) I h99 (nx (i0 + 1) (j0 + 6) (by omega) (by omega)) (fun r w1 k h => ⟨V1, k, h⟩)⟩, fun _ => ?_⟩
    refine ⟨fun _ => ⟨V1, ⟨by omega, by omega⟩, jn_stillest (L := fun u => l_L_law_23 n0 sc 601024 7293034 K (d + 1) 64 245 260 (nI p + 6) (i0 + 1) (j0 + 6) u) (F := fun u => K 0 u) I h99 (nx (i0 + 1) (j0 + 6) (by omega) (by omega)) (fun r w1 k h => ⟨V1, k, h⟩)⟩, fun _ => ?_⟩
    refine ⟨fun _ => ⟨V1, V2, ⟨by omega, by omega⟩, jn_chain (L := fun u => l_L_law_23 n0 sc 601024 7293034 K (d + 1) 64 245 260 (nI p + 6) (i0 + 2) (j0 + 12) u) (F := fun u => K 0 u) I h99 (nx (i0 + 2) (j0 + 12) (by omega) (by omega)) (fun r w1 k h => ⟨V1, V2, k, h⟩)⟩, fun _ => ?_⟩
    refine ⟨fun _ => ⟨V1, V2, V3, ⟨by omega, by omega⟩, jn_wakes2 (L := fun u => l_L_law_23 n0 sc 601024 7293034 K (d + 1) 64 245 260 (nI p + 6) (i0 + 4) (j0 + 24) u) (F := fun u => K 0 u) I h99 (nx (i0 + 4) (j0 + 24) (by omega) (by omega)) (fun r w1 k h => ⟨V1, V2, V3, k, h⟩)⟩, fun _ => ?_⟩
    refine ⟨fun _ => ⟨V1, ⟨by omega, by omega⟩, jn_quietest (L := fun u => l_L_law_23 n0 sc 601024 7293034 K (d + 1) 64 245 260 (nI p + 6) (i0 + 1) (j0 + 6) u) (F := fun u => K 0 u) I h99 (nx (i0 + 1) (j0 + 6) (by omega) (by omega)) (fun r w1 k h => ⟨V1, k, h⟩)⟩, fun _ => ?_⟩
    refine ⟨fun _ => ⟨V1, V2, ⟨by omega, by omega⟩, jn_wakers (L := fun u => l_L_law_23 n0 sc 601024 7293034 K (d + 1) 64 245 260 (nI p + 6) (i0 + 2) (j0 + 12) u) (F := fun u => K 0 u) I h99 (nx (i0 + 2) (j0 + 12) (by omega) (by omega)) (fun r w1 k h => ⟨V1, V2, k, h⟩)⟩, fun _ => ?_⟩
    refine ⟨fun _ => ⟨V1, V2, ⟨by omega, by omega⟩, jn_leastNoise (L := fun u => l_L_law_23 n0 sc 601024 7293034 K (d + 1) 64 245 260 (nI p + 6) (i0 + 2) (j0 + 12) u) (F := fun u => K 0 u) I h99 (nx (i0 + 2) (j0 + 12) (by omega) (by omega)) (fun r w1 k h => ⟨V1, V2, k, h⟩)⟩, fun _ => ?_⟩
    refine ⟨fun _ => ⟨V1, V2, V3, V4, ⟨by omega, by omega⟩, jn_shield (L := fun u => l_L_law_23 n0 sc 601024 7293034 K (d + 1) 64 245 260 (nI p + 6) (i0 + 4) (j0 + 24) u) (F := fun u => K 0 u) I h99 (nx (i0 + 4) (j0 + 24) (by omega) (by omega)) (fun r w1 k h => ⟨V1, V2, V3, V4, k, h⟩)⟩, fun _ => ?_⟩
    refine ⟨fun _ => ⟨V1, ⟨by omega, by omega⟩, jn_loudest (L := fun u => l_L_law_23 n0 sc 601024 7293034 K (d + 1) 64 245 260 (nI p + 6) (i0 + 1) (j0 + 6) u) (F := fun u => K 0 u) I h99 (nx (i0 + 1) (j0 + 6) (by omega) (by omega)) (fun r w1 k h => ⟨V1, k, h⟩)⟩, fun _ => ?_⟩
    refine ⟨fun _ => ⟨V1, V2, ⟨by omega, by omega⟩, jn_chorus (L := fun u => l_L_law_23 n0 sc 601024 7293034 K (d + 1) 64 245 260 (nI p + 6) (i0 + 2) (j0 + 12) u) (F := fun u => K 0 u) I h99 (nx (i0 + 2) (j0 + 12) (by omega) (by omega)) (fun r w1 k h => ⟨V1, V2, k, h⟩)⟩, fun _ => ?_⟩
    refine ⟨fun _ => ⟨V1, V2, V3, ⟨by omega, by omega⟩, jn_yawns (L := fun u => l_L_law_23 n0 sc 601024 7293034 K (d + 1) 64 245 260 (nI p + 6) (i0 + 3) (j0 + 18) u) (F := fun u => K 0 u) I h99 (nx (i0 + 3) (j0 + 18) (by omega) (by omega)) (fun r w1 k h => ⟨V1, V2, V3, k, h⟩)⟩, fun _ => ?_⟩
    refine ⟨fun _ => ⟨V1, V2, ⟨by omega, by omega⟩, jn_loudHour (L := fun u => l_L_law_23 n0 sc 601024 7293034 K (d + 1) 64 245 260 (nI p + 6) (i0 + 2) (j0 + 12) u) (F := fun u => K 0 u) I h300 (nx (i0 + 2) (j0 + 12) (by omega) (by omega)) (fun r w1 k h => ⟨V1, V2, k, h⟩)⟩, fun _ => ?_⟩
    refine ⟨fun _ => ⟨V1, ⟨by omega, by omega⟩, jn_quietHours (L := fun u => l_L_law_23 n0 sc 601024 7293034 K (d + 1) 64 245 260 (nI p + 6) (i0 + 1) (j0 + 6) u) (F := fun u => K 0 u) I h99 (nx (i0 + 1) (j0 + 6) (by omega) (by omega)) (fun r w1 k h => ⟨V1, k, h⟩)⟩, fun _ => ?_⟩
    refine ⟨fun _ => ⟨V1, V2, ⟨by omega, by omega⟩, jn_quietWell (L := fun u => l_L_law_23 n0 sc 601024 7293034 K (d + 1) 64 245 260 (nI p + 6) (i0 + 2) (j0 + 12) u) (F := fun u => K 0 u) I h99 (nx (i0 + 2) (j0 + 12) (by omega) (by omega)) (fun r w1 k h => ⟨V1, V2, k, h⟩)⟩, fun _ => ?_⟩
    refine ⟨fun _ => ⟨V1, ⟨by omega, by omega⟩, jn_plan (L := fun u => l_L_law_23 n0 sc 601024 7293034 K (d + 1) 64 245 260 (nI p + 6) (i0 + 1) (j0 + 6) u) (F := fun u => K 0 u) I h99 (nx (i0 + 1) (j0 + 6) (by omega) (by omega)) (fun r w1 k h => ⟨V1, k, h⟩)⟩, fun _ => ?_⟩
    refine ⟨fun _ => ⟨V1, ⟨by omega, by omega⟩, jn_served (L := fun u => l_L_law_23 n0 sc 601024 7293034 K (d + 1) 64 245 260 (nI p + 6) (i0 + 1) (j0 + 6) u) (F := fun u => K 0 u) I h99 (nx (i0 + 1) (j0 + 6) (by omega) (by omega)) (fun r w1 k h => ⟨V1, k, h⟩)⟩, fun _ => ?_⟩
    refine ⟨fun _ => ⟨I.1.1.1, jn_dry (L := fun u => l_L_law_23 n0 sc 601024 7293034 K (d + 1) 64 245 260 (nI p + 6) i0 j0 u) (F := fun u => K 0 u) I h99 (nx i0 j0 (by omega) (by omega)) (fun r w1 k h => ⟨k, h⟩)⟩, fun _ => ?_⟩
    refine ⟨fun _ => ⟨V1, V2, ⟨by omega, by omega⟩, jn_waterIn (L := fun u => l_L_law_23 n0 sc 601024 7293034 K (d + 1) 64 245 260 (nI p + 6) (i0 + 2) (j0 + 12) u) (F := fun u => K 0 u) I h300 (nx (i0 + 2) (j0 + 12) (by omega) (by omega)) (fun r w1 k h => ⟨V1, V2, k, h⟩)⟩, fun _ => ?_⟩
    refine ⟨fun _ => ⟨V1, V2, ⟨by omega, by omega⟩, jn_hasIn (L := fun u => l_L_law_23 n0 sc 601024 7293034 K (d + 1) 64 245 260 (nI p + 6) (i0 + 2) (j0 + 12) u) (F := fun u => K 0 u) I h300 (nx (i0 + 2) (j0 + 12) (by omega) (by omega)) (fun r w1 k h => ⟨V1, V2, k, h⟩)⟩, fun _ => ?_⟩
    refine ⟨fun _ => ⟨I.1.1.1, jn_fullest (L := fun u => l_L_law_23 n0 sc 601024 7293034 K (d + 1) 64 245 260 (nI p + 6) i0 j0 u) (F := fun u => K 0 u) I h300 (nx i0 j0 (by omega) (by omega)) (fun r w1 k h => ⟨k, h⟩)⟩, fun _ => ?_⟩
    refine ⟨fun _ => ⟨V1, V2, ⟨by omega, by omega⟩, jn_level (L := fun u => l_L_law_23 n0 sc 601024 7293034 K (d + 1) 64 245 260 (nI p + 6) (i0 + 4) (j0 + 24) u) (F := fun u => K 0 u) I h300 (nx (i0 + 4) (j0 + 24) (by omega) (by omega)) (fun r w1 k h => ⟨V1, V2, k, h⟩)⟩, fun _ => ?_⟩
    refine ⟨fun _ => ⟨V1, ⟨by omega, by omega⟩, jn_seen (L := fun u => l_L_law_23 n0 sc 601024 7293034 K (d + 1) 64 245 260 (nI p + 6) (i0 + 3) (j0 + 18) u) (F := fun u => K 0 u) I h99 (nx (i0 + 3) (j0 + 18) (by omega) (by omega)) (fun r w1 k h => ⟨V1, k, h⟩)⟩, fun _ => ?_⟩
    refine ⟨fun _ => ⟨V1, V2, ⟨by omega, by omega⟩, jn_roundAt (L := fun u => l_L_law_23 n0 sc 601024 7293034 K (d + 1) 64 245 260 (nI p + 6) (i0 + 4) (j0 + 24) u) (F := fun u => K 0 u) I h99 (nx (i0 + 4) (j0 + 24) (by omega) (by omega)) (fun r w1 k h => ⟨V1, V2, k, h⟩)⟩, fun _ => ?_⟩
    refine ⟨fun _ => ⟨V1, ⟨by omega, by omega⟩, jn_listen (L := fun u => l_L_law_23 n0 sc 601024 7293034 K (d + 1) 64 245 260 (nI p + 6) (i0 + 3) (j0 + 18) u) (F := fun u => K 0 u) I h99 (nx (i0 + 3) (j0 + 18) (by omega) (by omega)) (fun r w1 k h => ⟨V1, k, h⟩)⟩, fun _ => ?_⟩
    refine ⟨fun _ => ⟨V1, ⟨by omega, by omega⟩, jn_whose (L := fun u => l_L_law_23 n0 sc 601024 7293034 K (d + 1) 64 245 260 (nI p + 6) (i0 + 3) (j0 + 18) u) (F := fun u => K 0 u) I h99 (nx (i0 + 3) (j0 + 18) (by omega) (by omega)) (fun r w1 k h => ⟨V1, k, h⟩)⟩, fun _ => ?_⟩
    refine ⟨fun _ => ⟨V1, V2, V3, ⟨by omega, by omega⟩, jn_tray (L := fun u => l_L_law_23 n0 sc 601024 7293034 K (d + 1) 64 245 260 (nI p + 6) (i0 + 3) (j0 + 18) u) (F := fun u => K 0 u) I h99 (nx (i0 + 3) (j0 + 18) (by omega) (by omega)) (fun r w1 k h => ⟨V1, V2, V3, k, h⟩)⟩, fun _ => ?_⟩
    refine ⟨fun _ => ⟨V1, V2, V3, V4, ⟨by omega, by omega⟩, jn_write (L := fun u => l_L_law_23 n0 sc 601024 7293034 K (d + 1) 64 245 260 (nI p + 6) (i0 + 3) (j0 + 18) u) (F := fun u => K 0 u) I h99 (nx (i0 + 3) (j0 + 18) (by omega) (by omega)) (fun r w1 k h => ⟨V1, V2, V3, V4, k, h⟩)⟩, fun _ => ?_⟩
    refine ⟨fun _ => ⟨V1, V2, ⟨by omega, by omega⟩, jn_copy (L := fun u => l_L_law_23 n0 sc 601024 7293034 K (d + 1) 64 245 260 (nI p + 6) (i0 + 4) (j0 + 24) u) (F := fun u => K 0 u) I h99 (nx (i0 + 4) (j0 + 24) (by omega) (by omega)) (fun r w1 k h => ⟨V1, V2, k, h⟩)⟩, fun _ => ?_⟩
    refine ⟨fun _ => ⟨V1, ⟨by omega, by omega⟩, jn_image (L := fun u => l_L_law_23 n0 sc 601024 7293034 K (d + 1) 64 245 260 (nI p + 6) (i0 + 1) (j0 + 6) u) (F := fun u => K 0 u) I h99 (nx (i0 + 1) (j0 + 6) (by omega) (by omega)) (fun r w1 k h => ⟨V1, k, h⟩)⟩, fun _ => ?_⟩
    refine ⟨fun _ => ⟨V1, ⟨by omega, by omega⟩, jn_restore (L := fun u => l_L_law_23 n0 sc 601024 7293034 K (d + 1) 64 245 260 (nI p + 6) (i0 + 2) (j0 + 12) u) (F := fun u => K 0 u) I h99 (nx (i0 + 2) (j0 + 12) (by omega) (by omega)) (fun r w1 k h => ⟨V1, k, h⟩)⟩, fun _ => ?_⟩
    refine ⟨fun _ => ⟨V1, I.1.1.1, jn_count (L := fun u => l_L_law_23 n0 sc 601024 7293034 K (d + 1) 64 245 260 (nI p + 6) i0 j0 u) (F := fun u => K 0 u) I h99 (nx i0 j0 (by omega) (by omega)) (fun r w1 k h => ⟨V1, k, h⟩)⟩, fun _ => ?_⟩
    exact nx i0 j0 (by omega) (by omega) w (INV_up I h99)
