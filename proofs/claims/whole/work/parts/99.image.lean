/-! 99: calls: image, restore -/
section IG
variable {w : Wd} {B : Nat} {L F : Wd → Prop} {g : Nat → Nat}
theorem m2 (s : SH w) : wR w 245 2 = 248 ∧ isK w 248 20 ∧ wn w 248 = 3645 := s.2.2.2.2.2.2.2.2.2.2.1.2.2.2.2.2.2.2.2.2.2.2.2.1
theorem m3 (s : SH w) : wR w 245 3 = 249 ∧ isK w 249 23 ∧ wn w 249 = 3 := s.2.2.2.2.2.2.2.2.2.2.1.2.2.2.2.2.2.2.2.2.2.2.2.2.1
theorem m0' (s : SH w) : wR w 245 0 = 246 ∧ isK w 246 20 ∧ wn w 246 = 1215 := s.2.2.2.2.2.2.2.2.2.2.1.2.1
theorem q_anyImage {x : Int32} {K : Nat → Wd → Prop} {X : String → Wd → Prop} (I : INVx w B g) (h1 : ∀ i, i < 3 → x = nI i → K (125 + 35 * i) w) (h2 : isB 3 x.toInt = false → ∀ N, wN w ≤ N → X "java/util/NoSuchElementException" (wJ w N)) : w_X11_anyImage 1 6 64 x K X w := by
  have s := I.1
  have p0 : (0 : Int32).toInt = 0 := by decide
  have p4 : (Int32.ofNat 3).toInt = 3 := by decide
  have a := s.2.1.1
  unfold w_X11_anyImage
  rw [s.1.2.2.1, a.2.1]
  refine ⟨fun c => ⟨⟨by decide, by decide⟩, h2 (isB_f (by rw [fa_lt, p0] at c; omega))⟩, fun c => ⟨s.1.1, a.1, fun d => ?_, fun d => ⟨⟨by decide, by decide⟩, h2 (isB_f (by rw [fa_lt, p4] at d; omega))⟩⟩⟩
  rw [fa_lt, p0] at c
  rw [fa_lt, p4] at d
  obtain ⟨i, rfl, hi, -⟩ := isB_v (n := 3) (x := x) (isB_t (by omega))
  rw [nI_clamp (by omega), a.2.2 i hi]
  obtain ⟨g', h, e, b, q1, q2, q3⟩ := I.2.2.2.2.1 i hi
  exact ⟨vp_in_nI hi (by decide), q2.1.1, h1 i hi rfl⟩
theorem jn_image {x : Int32} (I : INV w B) (hB : B + 99 < 2 ^ 24) (hk : ∀ u, INV u (B + 99) → L u) {K : Int32 → Wd → Prop} (hc : ∀ r w1, isK w1 245 12 → w_X12_image 245 x (fun w2 => tlV L F r w2) w1 → K r w1) : w_L_image 1 6 64 x K w := by
  obtain ⟨g, I⟩ := INV_x I
  have s := I.1
  have hW := I.2.1
  refine ⟨s.1.1, ⟨by decide, by decide⟩, s.1.1, ⟨by decide, by decide⟩, q_anyImage I (fun i hi hx => ?_) (fun c N hN => ⟨rfl, ?_⟩)⟩
  · subst hx
    obtain ⟨h, e, P⟩ := I.2.2.1
    obtain ⟨g', h', e', b, q1, q2, q3, q4, q5⟩ := I.2.2.2.2.1 i hi
    rw [s.1.2.1]
    refine ⟨s.1.1, P.1.1, q2.1.1, q_pbecome (by omega) (by omega) (by omega) hW.1 q2 P (fun u hu Pu => ⟨Pu.1.1, ?_⟩)⟩
    obtain ⟨u1, hu1⟩ : ∃ u1, u1 = uI u (125 + 35 * i) 1 1 := ⟨_, rfl⟩
    have e1 : eqW (pgT (125 + 35 * i)) w u1 := by rw [hu1]; exact eqW_trans hu (eqW_uI ⟨by omega, by omega⟩)
    have P1 : PG u1 (125 + 35 * i) h e g := by
      rw [hu1]
      obtain ⟨a1, a2, a3, ⟨a4, a5⟩, a6⟩ := Pu
      refine ⟨PS_uI a1, LX_uI a2 (by omega) (by omega), by rw [wI_uI, if_neg (by decide)]; exact a3, ⟨by rw [wI_uI, if_neg (by decide)]; exact a4, a5⟩, fun s' hs' => ?_⟩
      obtain ⟨h2, g2, b1, b2⟩ := a6 s' hs'
      exact ⟨h2, g2, LX_uI b1 (by omega) (by omega), b2⟩
    have f1 : wI u1 (125 + 35 * i) 1 = 1 := by rw [hu1, wI_uI, if_pos rfl]
    have c1 := cx_eqW e1
    have np : ∀ t, pgT (125 + 35 * i) t → 125 ≤ t ∧ t ≤ 229 := fun t z => by unfold pgT at z; omega
    have nh1 : noH (pgT (125 + 35 * i)) := fun t z => by have := np t z; omega
    have s1 : SH u1 := SH_t c1 (fun t z => by have := np t z; omega) (LdS_cx c1 (fun z => by have := np _ z; omega) s.2.2.2.2.1) (NS_cx c1 (fun z => by have := np _ z; omega) s.2.2.2.2.2.1) s
    have R1 : RS u1 245 g := RS_cx c1 s1 (fun z => by have := np _ z; omega) I.2.2.2.1
    have M1 := R1.1.1
    refine (show K 0 u1 from hc _ u1 M1 (p_withinI 0 2 (by decide) (by decide) ?_)) |> fun z => by rw [hu1] at z; exact z
    rw [decide_eq_true (by rw [nI_toInt (by omega)]; omega)]
    refine br_f (by decide) ⟨M1, ?_⟩
    rw [fw, (m3 s1).1, (m3 s1).2.2, nI_clamp (n := i) (by omega)]
    refine br_t (by decide) ⟨(m3 s1).2.1, vp_in_nI hi (by decide), 1215 + 1, ?_⟩
    rw [show vp_nar .boolean 1 = 1 from rfl]
    obtain ⟨v0, hv0⟩ : ∃ v0, v0 = uI (uI u1 245 4 0) 249 i 1 := ⟨_, rfl⟩
    have ev0 : eqW (fun t => t = 245 ∨ t = 249) u1 v0 := by rw [hv0]; exact eqW_trans (eqW_uI (Or.inl rfl)) (eqW_uI (Or.inr rfl))
    have Rv0 : wR v0 = wR u1 := by rw [hv0]; rfl
    have i5 : ∀ k, k ≠ 4 → wI v0 245 k = wI u1 245 k := fun k hk' => by rw [hv0, sI_uI, wI_sIn (t := 249) (by decide), wI_uI, if_neg hk']
    have i54 : wI v0 245 4 = 0 := by rw [hv0, sI_uI, wI_sIn (t := 249) (by decide), wI_uI, if_pos rfl]
    have i9 : ∀ k, wI v0 249 k = if k = i then 1 else wI u1 249 k := fun k => by
      rw [hv0, wI_uI]
      by_cases q : k = i
      · rw [if_pos q, if_pos q]
      · rw [if_neg q, if_neg q, sI_uI, wI_sIn (by decide)]
    rw [← hv0]
    have go : ∀ E : Wd → Prop, (∀ z, eqW (fun t => t = 248) v0 z → wR z = wR v0 → (∀ k, k < 1215 → wI z 248 (1215 * i + k) = nI (g k)) → (∀ k, (k < 1215 * i ∨ 1215 * i + 1215 ≤ k) → wI z 248 k = wI v0 248 k) → E z) → ∀ d j z, j + d = 1215 → eqW (fun t => t = 248) v0 z → wR z = wR v0 → (∀ k, k < j → wI z 248 (1215 * i + k) = nI (g k)) → (∀ k, (k < 1215 * i ∨ 1215 * i + 1215 ≤ k) → wI z 248 k = wI v0 248 k) → l_X12_image_38 E (d + 1) 245 (nI i) (nI j) z := by
      intro E hE d
      induction d with
      | zero =>
        intro j z hj ez hR hz ho
        have : j = 1215 := by omega
        subst this
        exact br_t (by decide) (hE z ez hR hz ho)
      | succ d ih =>
        intro j z hj ez hR hz ho
        have sz : SH z := SH_e (cx_trans (cx_mono (fun _ => Or.inl) (cx_eqW ev0)) (cx_mono (U := fun t => (t = 245 ∨ t = 249) ∨ t = 248) (fun _ => Or.inr) (cx_eqW ez))) (hR.trans Rv0) s1
        have ei : ((1215 * nI i) + nI j : Int32) = nI (1215 * i + j) := by rw [show (1215 * nI i : Int32) = nI (1215 * i) from pk_mul 1215 i, nI_add]
        have kj : wI z 246 j = nI (g j) := by rw [(ez.2.2.2 246 (by omega)).1, (ev0.2.2.2 246 (by omega)).1]; exact R1.2 j (by omega)
        refine br_f (nI_ge (b := 1215) (by omega) (by decide)) ⟨sz.2.2.2.2.2.2.2.2.2.2.1.1, ?_⟩
        rw [(m2 sz).1, (m2 sz).2.2, (m0' sz).1, (m0' sz).2.2, ei, nI_clamp (n := 1215 * i + j) (by omega), nI_clamp (n := j) (by omega), kj, nI_1]
        refine ⟨(m2 sz).2.1, (m0' sz).2.1, vp_in_nI (by omega) (by decide), vp_in_nI (by omega) (by decide), ih (j + 1) _ (by omega) (eqW_trans ez (eqW_uI rfl)) hR (fun k hk' => ?_) (fun k hk' => ?_)⟩
        · rw [wI_uI]
          by_cases ek : k = j
          · subst ek; rw [if_pos rfl]
          · rw [if_neg (by omega)]; exact hz k (by omega)
        · rw [wI_uI, if_neg (by omega)]; exact ho k hk'
    refine go _ (fun z ez hR hz ho => ?_) 1215 0 v0 (by omega) (eqW_refl _ _) rfl (fun k hk' => absurd hk' (Nat.not_lt_zero k)) (fun _ _ => rfl)
    have cT : cx (fun t => t = 245 ∨ t = 248 ∨ t = 249) u1 z := cx_trans (cx_mono (fun t q => by omega) (cx_eqW ev0)) (cx_mono (fun t q => by omega) (cx_eqW ez))
    have sz : SH z := SH_e cT (hR.trans Rv0) s1
    have nh2 : noH (fun t => t = 245 ∨ t = 248 ∨ t = 249) := fun t z => by omega
    have W := SH_N s1
    have no : ∀ t, t ≠ 245 → t ≠ 248 → t ≠ 249 → wI z t = wI u1 t ∧ wL z t = wL u1 t := fun t a b c => by
      have y := ez.2.2.2 t b
      have y2 := ev0.2.2.2 t (by omega)
      exact ⟨y.1.trans y2.1, y.2.1.trans y2.2.1⟩
    have no1 : ∀ t, ¬ pgT (125 + 35 * i) t → wI u1 t = wI w t ∧ wL u1 t = wL w t := fun t a => ⟨(e1.2.2.2 t a).1, (e1.2.2.2 t a).2.1⟩
    have P90 : PG u1 90 h e g := PG_cx c1 nh1 (fun t z k => by have := np t k; unfold pgT at z; omega) P
    have z5 : ∀ k, k ≠ 4 → wI z 245 k = wI w 245 k := fun k hk' => by rw [(ez.2.2.2 245 (by omega)).1, i5 k hk', (no1 245 (fun q => by have := np _ q; omega)).1]
    refine tlV_i sz (by rw [(ez.2.2.2 245 (by omega)).1]; exact i54) (hk z ⟨sz, ⟨g, WF_mono hW (by omega) hB, ⟨h, e, PG_cx cT nh2 (fun t q k => by unfold pgT at q; omega) P90⟩, RS_cx cT sz (by omega) R1⟩, fun j hj => ?_, fun j hj => ?_, ?_, ?_⟩)
    · by_cases ej : j = i
      · subst ej
        refine ⟨g, h, e, true, WF_mono hW (by omega) hB, PG_cx cT nh2 (fun t q k => by unfold pgT at q; omega) P1, hz, ?_, ?_⟩
        · rw [(no _ (by omega) (by omega) (by omega)).1, f1]; rfl
        · rw [(ez.2.2.2 249 (by omega)).1, i9, if_pos rfl]; rfl
      · obtain ⟨g2, h2, e2, b2, r1, r2, r3, r4, r5⟩ := I.2.2.2.2.1 j hj
        have dj : ∀ t, pgT (125 + 35 * j) t → ¬ pgT (125 + 35 * i) t := fun t q k => by unfold pgT at q k; omega
        refine ⟨g2, h2, e2, b2, WF_mono r1 (by omega) hB, PG_cx cT nh2 (fun t q k => by unfold pgT at q; omega) (PG_cx c1 nh1 dj r2), fun k hk' => ?_, ?_, ?_⟩
        · rw [ho _ (by omega), (ev0.2.2.2 248 (by omega)).1, (no1 248 (fun q => by have := np _ q; omega)).1]; exact r3 k hk'
        · rw [(no _ (by omega) (by omega) (by omega)).1, (no1 _ (dj _ ⟨by omega, by omega⟩)).1]; exact r4
        · rw [(ez.2.2.2 249 (by omega)).1, i9, if_neg ej, (no1 249 (fun q => by have := np _ q; omega)).1]; exact r5
    · obtain ⟨b2, s', m, v, t⟩ := I.2.2.2.2.2.1 j hj
      exact ⟨b2, s', m, v, TRv_fr cT s1 hj (fun t z => by omega) (TRv_fr c1 s hj (fun t z => by have := np t z; omega) t)⟩
    · obtain ⟨n, tt, o1, o2, o3, o4⟩ := I.2.2.2.2.2.2.1
      have at' : ∀ t, t = 238 ∨ t = 239 ∨ t = 250 → wI z t = wI w t := fun t ht => by rw [(no t (by omega) (by omega) (by omega)).1, (no1 t (fun q => by have := np _ q; omega)).1]
      refine ⟨n, tt, o1, by rw [at' 238 (by omega)]; exact o2, by rw [z5 6 (by decide)]; exact o3, fun k hk' => ?_⟩
      have y := o4 k hk'
      exact ⟨y.1, by rw [at' 250 (by omega)]; exact y.2.1, by rw [at' 239 (by omega)]; exact y.2.2⟩
    · have o := I.2.2.2.2.2.2.2
      unfold FT
      rw [z5 14 (by decide), z5 15 (by decide), (no 238 (by omega) (by omega) (by omega)).1, (no1 238 (fun q => by have := np _ q; omega)).1]
      exact o
  · have J := INVx_J I hN
    have J1 := INVx_t (k := 4) (v := 1) J (by decide) (by decide) (by decide)
    refine hc _ _ (INVx_M J) (p_withinI 0 2 (by decide) (by decide) ?_)
    have c' := of_decide_eq_false c
    rw [decide_eq_false (by omega)]
    refine br_t rfl ⟨INVx_M J, ?_⟩
    rw [fw]
    exact br_f (by decide) (tlV_i J1.1 (fw _ _) (hk _ (x_INV J1 (by omega) hB)))
theorem jn_restore {x : Int32} (I : INV w B) (hB : B + 99 < 2 ^ 24) (hk : ∀ u, INV u (B + 99) → L u) {K : Int32 → Wd → Prop} (hc : ∀ r w1, isK w1 245 12 → w_X12_restore 245 x (fun w2 => tlV L F r w2) w1 → K r w1) : w_L_restore 2 12 64 x K w := by
  obtain ⟨g, I⟩ := INV_x I
  have s := I.1
  have hW := I.2.1
  refine ⟨s.1.1, ⟨by decide, by decide⟩, s.1.1, ⟨by decide, by decide⟩, q_anyImage I (fun i hi hx => ?_) (fun c N hN => Or.inl ⟨rfl, ?_⟩)⟩
  · subst hx
    obtain ⟨h, e, P⟩ := I.2.2.1
    obtain ⟨g', h', e', b, q1, q2, q3, q4, q5⟩ := I.2.2.2.2.1 i hi
    rw [q4]
    refine ⟨q2.1.1, ?_⟩
    cases b
    · refine br_t rfl ⟨⟨by decide, by decide⟩, fun N hN => Or.inr ⟨rfl, ?_⟩⟩
      have J := INVx_J I hN
      have J1 := INVx_t (k := 4) (v := 2) J (by decide) (by decide) (by decide)
      refine hc _ _ (INVx_M J) (p_withinI 0 2 (by decide) (by decide) ?_)
      rw [decide_eq_true (by rw [nI_toInt (by omega)]; omega)]
      refine br_f (by decide) ⟨INVx_M J, ?_⟩
      rw [(m3 J.1).1, (m3 J.1).2.2, nI_clamp (n := i) (by omega), show wI (wJ w N) 249 i = b2i false from q5, fw]
      exact ⟨(m3 J.1).2.1, vp_in_nI hi (by decide), br_t rfl (br_f (by decide) (tlV_i J1.1 (fw _ _) (hk _ (x_INV J1 (by omega) hB))))⟩
    · refine br_f (by decide) ⟨s.1.1, ?_⟩
      rw [s.1.2.1]
      refine ⟨P.1.1, q_pbecome (by omega) (by omega) (by omega) q1.1 P q2 (fun u hu Pu => ?_)⟩
      have st : stC w u := stC_e s (cx_eqW hu) (fun t z => by unfold pgT at z; unfold cD cS; omega) (fun z => by unfold pgT at z; omega) (fun z => by unfold pgT at z; omega)
      have R1 := stC_RS st I.2.2.2.1
      have O1 := stC_OT s st (Nat.le_refl _) hW.2.2.2.2 I.2.2.2.2
      have M1 := R1.1.1
      have s1 := st.2
      have i8 : ∀ k, k < 1215 → wI u 248 (1215 * i + k) = nI (g' k) := fun k hk' => by rw [(hu.2.2.2 248 (fun z => by unfold pgT at z; omega)).1]; exact q3 k hk'
      refine hc _ u M1 (p_withinI 0 2 (by decide) (by decide) ?_)
      rw [decide_eq_true (by rw [nI_toInt (by omega)]; omega)]
      refine br_f (by decide) ⟨M1, ?_⟩
      rw [(m3 s1).1, (m3 s1).2.2, nI_clamp (n := i) (by omega), (hu.2.2.2 249 (fun z => by unfold pgT at z; omega)).1, q5, fw u 0]
      refine ⟨(m3 s1).2.1, vp_in_nI hi (by decide), br_f (by decide) (br_t (by decide) ⟨1215 + 1, ?_⟩)⟩
      have st0 := stR_uI (k := 4) (v := 0) s1 (by decide) (by decide) (by decide)
      have go : ∀ E : Wd → Prop, (∀ z, eqW (fun t => t = 246) (uI u 245 4 0) z → wR z = wR u → (∀ k, k < 1215 → wI z 246 k = nI (g' k)) → E z) → ∀ d j z, j + d = 1215 → eqW (fun t => t = 246) (uI u 245 4 0) z → wR z = wR u → (∀ k, k < j → wI z 246 k = nI (g' k)) → l_X12_restore_44 E (d + 1) 245 (nI i) (nI j) z := by
        intro E hE d
        induction d with
        | zero =>
          intro j z hj ez hR hz
          have : j = 1215 := by omega
          subst this
          exact br_t (by decide) (hE z ez hR hz)
        | succ d ih =>
          intro j z hj ez hR hz
          have sz : SH z := SH_e (cx_eqW ez) hR st0.2.1
          have ei : ((1215 * nI i) + nI j : Int32) = nI (1215 * i + j) := by rw [show (1215 * nI i : Int32) = nI (1215 * i) from pk_mul 1215 i, nI_add]
          have kj : wI z 248 (1215 * i + j) = nI (g' j) := by
            rw [(ez.2.2.2 248 (by omega)).1, sI_uI, wI_sIn (by decide)]
            exact i8 j (by omega)
          refine br_f (nI_ge (b := 1215) (by omega) (by decide)) ⟨sz.2.2.2.2.2.2.2.2.2.2.1.1, ?_⟩
          rw [(m2 sz).1, (m2 sz).2.2, (m0' sz).1, (m0' sz).2.2, ei, nI_clamp (n := 1215 * i + j) (by omega), nI_clamp (n := j) (by omega), kj, nI_1]
          refine ⟨(m0' sz).2.1, (m2 sz).2.1, vp_in_nI (by omega) (by decide), vp_in_nI (by omega) (by decide), ih (j + 1) _ (by omega) (eqW_trans ez (eqW_uI rfl)) hR (fun k hk' => ?_)⟩
          rw [wI_uI]
          by_cases ek : k = j
          · subst ek; rw [if_pos rfl]
          · rw [if_neg ek]; exact hz k (by omega)
      refine go _ (fun z ez hR hz => ?_) 1215 0 _ (by omega) (eqW_refl _ _) rfl (fun k hk' => absurd hk' (Nat.not_lt_zero k))
      have stz : stR u z := stR_trans st0 (stR_e st0.2.1 ez (fun t q => by subst q; unfold rS; omega))
      have Rz : RS z 245 g' := ⟨stz.2.1.2.2.2.2.2.2.2.2.2.2.1, hz⟩
      refine tlV_i stz.2.1 (by rw [(ez.2.2.2 245 (by omega)).1]; exact fw _ _) (hk z (INV_end stz.2.1 (WF_mono q1 (by omega) hB) (stR_CP stz ⟨h', e', Pu⟩) Rz (stR_OT s1 stz (by omega) hB O1)))
  · have J := INVx_J I hN
    have J1 := INVx_t (k := 4) (v := 1) J (by decide) (by decide) (by decide)
    refine hc _ _ (INVx_M J) (p_withinI 0 2 (by decide) (by decide) ?_)
    have c' := of_decide_eq_false c
    rw [decide_eq_false (by omega)]
    refine br_t rfl ⟨INVx_M J, ?_⟩
    rw [fw]
    exact br_f (by decide) (tlV_i J1.1 (fw _ _) (hk _ (x_INV J1 (by omega) hB)))
end IG
