/-! 98: calls: copy, image, restore -/
section CY
variable {w : Wd} {B : Nat} {L F : Wd → Prop} {g : Nat → Nat}
theorem jn_copy {x y : Int32} (I : INV w B) (hB : B + 99 < 2 ^ 24) (hk : ∀ u, INV u (B + 99) → L u) {K : Int32 → Wd → Prop} (hc : ∀ r w1, isK w1 245 12 → w_X12_copy 245 x y (fun b w2 => tlT L F r b.toInt64 w2) w1 → K r w1) : w_L_copy 4 24 64 x y 260 K w := by
  obtain ⟨g, I⟩ := INV_x I
  have s := I.1
  have hW := I.2.1
  have isT : ∀ {w1 : Wd} {K' : Int32 → Wd → Prop}, (isB 4 x.toInt = true → K' 1 w1) → (isB 4 x.toInt = false → K' 0 w1) → w_X12_isTray x K' w1 := fun {w1 K'} h1 h2 => by
    unfold w_X12_isTray
    refine p_withinI 0 3 (by decide) (by decide) ⟨b2i_or _, ?_⟩
    cases e : isB 4 x.toInt
    · have e' := of_decide_eq_false e
      rw [decide_eq_false (by omega)]
      exact h2 e
    · have e' := of_decide_eq_true e
      rw [decide_eq_true (by omega)]
      exact h1 e
  have noT : isB 4 x.toInt = false → ∀ N, wN w ≤ N → K 1 (wJ w N) := fun q N hN => by
    have J := INVx_J I hN
    have J1 := INVx_t (k := 4) (v := 1) J (by decide) (by decide) (by decide)
    refine hc _ _ (INVx_M J) (isT (fun q' => by rw [q] at q'; cases q') (fun _ => br_t rfl ⟨INVx_M J, ?_⟩))
    rw [fw]
    exact br_f (by decide) (finK J1 (by decide) (fw _ _) hB hk)
  refine ⟨s.1.1, ⟨by decide, by decide⟩, s.1.1, ⟨by decide, by decide⟩, q_anyTray s (fun i hi hx => ⟨s.1.1, ⟨by decide, by decide⟩, q_needWell s hW I.2.2.1 (fun c => ⟨s.1.1, ⟨by decide, by decide⟩, q_presentTray s I.2.2.2.2.2.1 (fun i' hi' hx' sv m vv t => ?_) (fun q N hN => Or.inl ⟨rfl, noT q N hN⟩) (fun i' hi' hx' sv m vv t N hN => Or.inr ⟨rfl, ?_⟩)⟩) (fun c N hN => Or.inl ⟨rfl, ?_⟩)⟩) (fun q N hN => Or.inl ⟨rfl, noT q N hN⟩)⟩
  · subst hx
    have ei : i' = i := ((nI_eq (by omega) (by omega)).mp hx').symm
    subst ei
    have tx : isB 4 (nI i').toInt = true := isB_t (by rw [nI_toInt (by omega)]; omega)
    obtain ⟨v, rfl, hv, -⟩ := isB_v c
    have hm := t.2.1
    have tm := t.2.2.1.2.1
    have cu := cut_01 sv t.1
    obtain ⟨bv, hbv⟩ : ∃ bv : Nat → Int64, bv = fun k => if upb g k v then 1 else 0 := ⟨_, rfl⟩
    refine ⟨m + 1, ?_⟩
    have go : ∀ E : Int32 → Wd → Prop, ∀ X, (∀ u, eqW (fun r => r = 231 + 2 * i') w u → wR u = wR w → wI u = wI w → (∀ k, k < 30 → wL u (231 + 2 * i') k = if k < m then bv k else vv k) → E (nI m) u) → ∀ d j u, j + d = m → eqW (fun r => r = 231 + 2 * i') w u → wR u = wR w → wI u = wI w → (∀ k, k < 30 → wL u (231 + 2 * i') k = if k < j then bv k else vv k) → l_X11_copy_20 4 24 X E (d + 1) 64 (nI v) (230 + 2 * i') (nI j) 4 24 u := by
      intro E X hE d
      induction d with
      | zero =>
        intro j u hj e hR hI hz
        have : j = m := by omega
        subst this
        unfold l_X11_copy_20
        rw [hI, tm]
        exact ⟨(eqW_isK e).mpr (s.2.2.2.2.2.2.1 i' hi').1, br_t (nI_le (Nat.le_refl _) (by omega)) (hE u e hR hI hz)⟩
      | succ d ih =>
        intro j u hj e hR hI hz
        have cu1 : cx trT w u := cx_mono (fun t q => by subst q; unfold trT; omega) (cx_eqW e)
        have su := SH_e cu1 hR s
        obtain ⟨h, ee, P⟩ := CP_cx cu1 trT_noH (fun t z => by unfold trT at z; omega) I.2.2.1
        unfold l_X11_copy_20
        rw [hI, tm, su.1.2.1, P.1.2.1]
        have S := su.2.2.2.2.2.2.1 i' hi'
        have nxt : ∀ q : Int64, q = bv j → l_X11_copy_20 4 24 X E (d + 1) 64 (nI v) (230 + 2 * i') (nI j + 1) 4 24 (uL u (231 + 2 * i') j q) := fun q hq => by
          rw [nI_1]
          refine ih (j + 1) _ (by omega) (eqW_trans e (eqW_uL rfl)) hR hI (fun k hk' => ?_)
          rw [wL_uL]
          by_cases ek : k = j
          · subst ek; rw [if_pos rfl, if_pos (by omega), hq]
          · rw [if_neg ek, hz k hk']
            by_cases ek2 : k < j
            · rw [if_pos ek2, if_pos (by omega)]
            · rw [if_neg ek2, if_neg (by omega)]
        refine ⟨S.1, br_f (nI_ge (by omega) (by omega)) ⟨su.1.1, P.1.1, P.2.1.1.1.1.1, q_isAwakeIn P.2.1.1.1 hW.1 hW.2.2.1 hW.2.2.2.2 hv (by omega) ?_⟩⟩
        cases eb : upb g j v
        · refine br_t rfl ⟨S.1, q_put su hi' (by rw [hI]; exact tm) (by rw [hI]; exact t.2.2.1.2.2.1) t.1 hm (by omega) ?_⟩
          rw [cu.1]
          exact nxt 0 (by rw [hbv]; show (0 : Int64) = if upb g j v then 1 else 0; rw [eb]; rfl)
        · refine br_f (by decide) ⟨S.1, q_put su hi' (by rw [hI]; exact tm) (by rw [hI]; exact t.2.2.1.2.2.1) t.1 hm (by omega) ?_⟩
          rw [cu.2]
          exact nxt 1 (by rw [hbv]; show (1 : Int64) = if upb g j v then 1 else 0; rw [eb]; rfl)
    refine go _ _ (fun u1 e1 R1 I1 Z1 => ?_) m 0 w (by omega) (eqW_refl _ _) rfl rfl (fun k hk' => by rw [if_neg (Nat.not_lt_zero k)]; exact t.2.2.1.2.2.2 k hk')
    have c1 : cx trT w u1 := cx_mono (fun t q => by subst q; unfold trT; omega) (cx_eqW e1)
    have s1 := SH_e c1 R1 s
    have k260 := s1.2.2.2.2.2.2.2.2.2.2.2
    refine ⟨k260.1, by rw [k260.2]; exact vp_in_nI (n := 0) (by decide) (by decide), ?_⟩
    obtain ⟨u2, hu2⟩ : ∃ u2, u2 = uL u1 260 0 (nI m).toInt64 := ⟨_, rfl⟩
    have c2 : cx trT w u2 := by rw [hu2]; exact cx_trans c1 (cx_uL (by unfold trT; omega))
    have R2 : wR u2 = wR w := by rw [hu2]; exact R1
    have I2 : wI u2 = wI w := by rw [hu2]; exact I1
    have s2 : SH u2 := SH_e c2 R2 s
    have Rs2 : RS u2 245 g := RS_cx c2 s2 (by unfold trT; omega) I.2.2.2.1
    have M2 := Rs2.1.1
    have t7 : wI u2 257 i' = nI sv := by rw [I2]; have := t.2.2.2.1; rw [if_pos rfl] at this; exact this
    have l3 : wL u2 260 0 = (nI m).toInt64 := by rw [hu2, wL_uL, if_pos rfl]
    have l1 : ∀ r, r ≠ 260 → r ≠ 231 + 2 * i' → wL u2 r = wL w r := fun r a b => by rw [hu2, wL_uLn a, (e1.2.2.2 r b).2.1]
    have l2 : ∀ k, k < 30 → wL u2 (231 + 2 * i') k = if k < m then bv k else vv k := fun k hk' => by rw [hu2, wL_uLn (by omega)]; exact Z1 k hk'
    refine (show K 0 u2 from hc _ u2 M2 (isT (fun _ => br_f (by decide) ⟨M2, p_isWell Rs2 hW.1 ?_⟩) (fun q => by rw [tx] at q; cases q))) |> fun z => by rw [hu2] at z; exact z
    rw [i64_32, c]
    refine br_f (by decide) ⟨M2, ?_⟩
    rw [(m26 s2).1, (m26 s2).2.2, nI_clamp (by omega), t7, fw u2 0]
    have hs := t.1
    refine ⟨(m26 s2).2.1, vp_in_nI hi' (by decide), br_f (fun z => ?_) (br_t (by decide) ⟨m + 1, ?_⟩)⟩
    · have e := congrArg Int32.toInt z
      rw [nI_toInt (by omega)] at e
      exact absurd e (by rw [show (-1 : Int32).toInt = -1 from by decide]; omega)
    obtain ⟨v0, hv0⟩ : ∃ v0, v0 = uI u2 245 4 0 := ⟨_, rfl⟩
    have cv0 : cx trT w v0 := by rw [hv0]; exact cx_trans c2 (cx_uI (by unfold trT; omega))
    have Rv0 : wR v0 = wR w := by rw [hv0]; exact R2
    have Iv0 : ∀ r, r ≠ 245 → wI v0 r = wI w r := fun r hr => by rw [hv0, sI_uI, wI_sIn hr, I2]
    have Lv0 : wL v0 = wL u2 := by rw [hv0]; rfl
    have I5 : ∀ k, k ≠ 4 → wI v0 245 k = wI w 245 k := fun k hk' => by rw [hv0, wI_uI, if_neg hk', I2]
    have I54 : wI v0 245 4 = 0 := by rw [hv0]; exact fw _ _
    rw [← hv0]
    have gr : ∀ E : Int32 → Wd → Prop, (∀ z, eqW (fun r => r = 259) v0 z → wR z = wR v0 → wI z = wI v0 → (∀ k, k < 30 → wL z 259 (30 * i' + k) = if k < m then bv k else vv k) → (∀ k, (k < 30 * i' ∨ 30 * i' + 30 ≤ k) → wL z 259 k = wL v0 259 k) → E (nI m) z) → ∀ d j z, j + d = m → eqW (fun r => r = 259) v0 z → wR z = wR v0 → wI z = wI v0 → (∀ k, k < 30 → wL z 259 (30 * i' + k) = if k < j then bv k else vv k) → (∀ k, (k < 30 * i' ∨ 30 * i' + 30 ≤ k) → wL z 259 k = wL v0 259 k) → l_X12_copy_50 E (d + 1) 245 (nI i') (nI v) (nI j) z := by
      intro E hE d
      induction d with
      | zero =>
        intro j z hj e hR hI hz ho
        have : j = m := by omega
        subst this
        have sz : SH z := SH_e (cx_trans cv0 (cx_mono (fun t q => by subst q; unfold trT; omega) (cx_eqW e))) (hR.trans Rv0) s
        unfold l_X12_copy_50
        rw [(m27 sz).1, (m27 sz).2.2, nI_clamp (n := i') (by omega), hI, Iv0 258 (by decide), t.2.2.2.2.1]
        exact ⟨sz.2.2.2.2.2.2.2.2.2.2.1.1, (m27 sz).2.1, vp_in_nI hi' (by decide), br_t (nI_le (Nat.le_refl _) (by omega)) ⟨vp_in_nI hi' (by decide), hE z e hR hI hz ho⟩⟩
      | succ d ih =>
        intro j z hj e hR hI hz ho
        have cz : cx trT w z := cx_trans cv0 (cx_mono (fun t q => by subst q; unfold trT; omega) (cx_eqW e))
        have sz : SH z := SH_e cz (hR.trans Rv0) s
        have Rz : RS z 245 g := RS_cx cz sz (by unfold trT; omega) I.2.2.2.1
        unfold l_X12_copy_50
        rw [(m27 sz).1, (m27 sz).2.2, nI_clamp (n := i') (by omega), hI, Iv0 258 (by decide), t.2.2.2.2.1]
        have nxt : ∀ q : Int64, q = bv j → l_X12_copy_50 E (d + 1) 245 (nI i') (nI v) (nI j + 1) (uL z 259 (30 * i' + j) q) := fun q hq => by
          rw [nI_1]
          refine ih (j + 1) _ (by omega) (eqW_trans e (eqW_uL rfl)) hR hI (fun k hk' => ?_) (fun k hk' => ?_)
          · rw [wL_uL]
            by_cases ek : k = j
            · subst ek; rw [if_pos rfl, if_pos (by omega), hq]
            · rw [if_neg (by omega), hz k hk']
              by_cases ek2 : k < j
              · rw [if_pos ek2, if_pos (by omega)]
              · rw [if_neg ek2, if_neg (by omega)]
          · rw [wL_uL, if_neg (by omega)]; exact ho k hk'
        have z7 : wI z 257 i' = nI sv := by rw [hI, Iv0 257 (by decide)]; have := t.2.2.2.1; rw [if_pos rfl] at this; exact this
        refine ⟨sz.2.2.2.2.2.2.2.2.2.2.1.1, (m27 sz).2.1, vp_in_nI hi' (by decide), br_f (nI_ge (by omega) (by omega)) (p_isUpIn Rz hW.1 hW.2.2.1 hW.2.2.2.2 hv (by omega) ?_)⟩
        cases eb : upb g j v
        · refine br_t rfl ⟨Rz.1.1, p_cut sz hi' (by omega) z7 t.1 ?_⟩
          rw [cu.1]
          exact nxt 0 (by rw [hbv]; show (0 : Int64) = if upb g j v then 1 else 0; rw [eb]; rfl)
        · refine br_f (by decide) ⟨Rz.1.1, p_cut sz hi' (by omega) z7 t.1 ?_⟩
          rw [cu.2]
          exact nxt 1 (by rw [hbv]; show (1 : Int64) = if upb g j v then 1 else 0; rw [eb]; rfl)
    refine gr _ (fun z e hR hI hz ho => ?_) m 0 v0 (by omega) (eqW_refl _ _) rfl rfl (fun k hk' => ?_) (fun _ _ => rfl)
    · have cz : cx trT w z := cx_trans cv0 (cx_mono (fun t q => by subst q; unfold trT; omega) (cx_eqW e))
      have Rz : wR z = wR w := hR.trans Rv0
      refine tlT_0 (SH_e cz Rz s) (by rw [hI]; exact I54) (by rw [(e.2.2.2 260 (by omega)).2.1, Lv0]; exact l3) (hk z (INV_wr (v' := fun k => if k < m then bv k else vv k) I hi' t cz Rz (fun r hr => by rw [hI]; exact Iv0 r hr) ⟨by rw [hI]; exact I5 6 (by decide), by rw [hI]; exact I5 14 (by decide), by rw [hI]; exact I5 15 (by decide)⟩ (fun r a b c => by rw [(e.2.2.2 r b).2.1, Lv0]; exact l1 r c a) (fun k hk' => by rw [(e.2.2.2 _ (by omega)).2.1, Lv0]; exact l2 k hk') hz (fun k hk' => by rw [ho k hk', Lv0, l1 259 (by decide) (by omega)]) hB))
    · rw [if_neg (Nat.not_lt_zero k), Lv0, l1 259 (by decide) (by omega)]
      exact t.2.2.2.2.2 k hk'
  · subst hx
    have ei : i' = i := ((nI_eq (by omega) (by omega)).mp hx').symm
    subst ei
    have tx : isB 4 (nI i').toInt = true := isB_t (by rw [nI_toInt (by omega)]; omega)
    have J := INVx_J I hN
    have tJ := TRv_fr (T := fun _ => False) (cx_wJ hN) s hi (fun _ z => z.elim) t
    have J1 := INVx_t (k := 4) (v := 2) J (by decide) (by decide) (by decide)
    refine hc _ _ (INVx_M J) (isT (fun _ => br_f (by decide) ⟨INVx_M J, p_isWell J.2.2.2.1 hW.1 ?_⟩) (fun q => by rw [tx] at q; cases q))
    rw [i64_32, c]
    refine br_f (by decide) ⟨INVx_M J, ?_⟩
    rw [(m26 J.1).1, (m26 J.1).2.2, nI_clamp (by omega), tJ.2.2.2.1, if_neg (by decide), fw]
    exact ⟨(m26 J.1).2.1, vp_in_nI hi (by decide), br_t rfl (br_f (by decide) (finK J1 (by decide) (fw _ _) hB hk))⟩
  · subst hx
    have tx : isB 4 (nI i).toInt = true := isB_t (by rw [nI_toInt (by omega)]; omega)
    have J := INVx_J I hN
    have J1 := INVx_t (k := 4) (v := 1) J (by decide) (by decide) (by decide)
    refine hc _ _ (INVx_M J) (isT (fun _ => br_f (by decide) ⟨INVx_M J, p_isWell J.2.2.2.1 hW.1 ?_⟩) (fun q => by rw [tx] at q; cases q))
    rw [i64_32, c]
    refine br_t rfl ⟨INVx_M J, ?_⟩
    rw [fw]
    exact br_f (by decide) (finK J1 (by decide) (fw _ _) hB hk)
end CY
