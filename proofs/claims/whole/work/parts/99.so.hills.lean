/-! 99.so: the call hills -/
def hlT (t : Nat) : Prop := t = 238 ∨ t = 240 ∨ t = 260 ∨ t = 90 ∨ landT 92 t ∨ t = 245 ∨ t = 246 ∨ t = 247
section HL
variable {w z : Wd} {B : Nat} {L F : Wd → Prop} {g : Nat → Nat}
theorem hlT_noH : noH hlT := fun t y => by unfold hlT landT at y; omega
theorem hl_INV {g' : Nat → Nat} (S : SH w) (O : OT w B) (c : cx hlT w z) (rf : wR z 245 = wR w 245) (Rz : RrS z) (t0 : wI z 238 0 = 0) (t6 : wI z 245 6 = 0) (ft : FT z) (hB : B + 99 < 2 ^ 24) (W : WF g' (B + 99)) (P : CP z g') (R : ∀ k, k < 1215 → wI z 246 k = nI (g' k)) : INV z (B + 99) := by
  have N := SH_N S
  have nt : ∀ t, (t = 64 ∨ t = 65 ∨ t = 66 ∨ t = 67 ∨ t = 71 ∨ t = 82 ∨ t = 85 ∨ (230 ≤ t ∧ t ≤ 237) ∨ t = 241 ∨ t = 242) → ¬ hlT t := fun t ht y => by unfold hlT landT at y; omega
  have Sz : SH z := SH_cx c (fun t ht => by
    by_cases e : t = 245
    · rw [e]; exact rf
    · exact ((c.2 t (by omega)).2.2 (nt t (by omega))).2.2) (LdS_cx c (nt 82 (by omega)) S.2.2.2.2.1) (NS_cx c (nt 85 (by omega)) S.2.2.2.2.2.1) Rz S
  refine ⟨Sz, ⟨g', W, P, Sz.2.2.2.2.2.2.2.2.2.2.1, R⟩, OT_f c (fun t y => ?_) S ⟨0, fun _ => 0, by decide, t0, t6, fun k hk => absurd hk (Nat.not_lt_zero k)⟩ ft (by omega) hB O⟩
  unfold hlT landT at y
  unfold cD cS rS
  omega
theorem jn_hills {x : Int32} (I : INV w B) (hB0 : 999 ≤ B) (hB : B + 99 < 2 ^ 24) (hk : ∀ u, INV u (B + 99) → L u) {K : Int32 → Wd → Prop} (hc : ∀ r w1, isK w1 245 12 → w_X12_hills 245 x (fun b w2 => tlT L F r b.toInt64 w2) w1 → K r w1) : w_L_hills 1001 2006 64 x 260 K w := by
  obtain ⟨g, I⟩ := INV_x I
  have S := I.1
  have R := S.2.2.2.2.2.2.2.1
  have N261 := SH_N S
  obtain ⟨N, t, n9, c0, r0, tv⟩ := I.2.2.2.2.2.2.1
  refine ⟨S.1.1, 1001, 2006, ⟨by decide, by decide⟩, ?_⟩
  unfold w_X11_hills
  rw [S.1.2.2.2.2.2.1, c0]
  refine ⟨S.1.1, R.1, ⟨by decide, by decide⟩, q_within 0 N (by decide) (nI_toInt (by omega)) (fun cy => ?_) (fun cy Nn hN => ⟨rfl, ?_⟩)⟩
  · obtain ⟨n, hn⟩ : ∃ n : Nat, x.toInt = n := ⟨x.toInt.toNat, by omega⟩
    have ex := nI_v hn
    subst ex
    have hnN : n ≤ N := by omega
    have T0 : ∀ {u : Wd}, wI u 250 = wI w 250 → TPt u t n := fun e => ⟨by omega, fun k hk => ⟨(tv k (by omega)).1, by rw [e]; exact (tv k (by omega)).2.1⟩⟩
    refine ⟨S.1.1, by rw [S.1.2.2.2.2.2.1]; exact R.1, 1000, 2000, ⟨by decide, by decide⟩, ?_⟩
    rw [S.1.2.2.2.2.2.1]
    refine q_text (t := t) S (by omega) (fun k hk => ⟨(tv k (by omega)).1, (tv k (by omega)).2.2⟩) (fun z Lz V => br_f (by decide) ?_) (fun k pl D nb z Fz => br_t rfl ?_)
    · have cz := Lz.1.1
      have nr : ∀ r, r < 261 → r ≠ 238 → r ≠ 240 → wI z r = wI w r ∧ wL z r = wL w r ∧ wR z r = wR w r := fun r h1 h2 h3 => (cz.2 r (by omega)).2.2 (by unfold rzT; omega)
      obtain ⟨h0, e, P⟩ := I.2.2.1
      have Ld : LdS z 92 := LdS_cx cz (by unfold rzT; omega) (LA_LdS P.2.1.1)
      have GI' := V.2.2.1
      have c2 := Lz.2.2.1.2.1
      rw [(nr 64 (by decide) (by decide) (by decide)).2.2, S.1.2.1, S.1.2.2.2.2.2.1, Lz.1.2.2.2.1]
      refine ⟨cx_isK cz S.1.1, cx_isK cz P.1.1, Lz.1.2.1.1, Lz.2.2.2.1.1, cx_isK cz P.1.1, ?_⟩
      rw [(nr 90 (by decide) (by decide) (by decide)).2.2, P.1.2.1]
      refine ⟨Ld.1, q_begin Ld Lz.2.2.2.1 Lz.2.2.2.2 N261 GI'.1.2.2.2.1 (fun z2 cz2 LX2 => ⟨cx_isK cz2 (cx_isK cz P.1.1), ?_⟩)⟩
      have n2 : ∀ r, r < wN z → (r < 92 ∨ 94 < r) → wI (uI z2 90 2 0) r = (if r = 90 then wI (uI z2 90 2 0) 90 else wI z r) ∧ wR (uI z2 90 2 0) r = wR z r := fun r hr h1 => by
        have q := (cz2.2 r hr).2.2 (by unfold landT; omega)
        by_cases e9 : r = 90
        · rw [if_pos e9, e9]; rw [e9] at q; exact ⟨rfl, q.2.2⟩
        · rw [if_neg e9, wI_uI_ne e9]; exact ⟨q.1, q.2.2⟩
      have Nz : wN w ≤ wN z := cz.1
      have q64 := n2 64 (by omega) (by omega)
      have q238 := n2 238 (by omega) (by omega)
      have hh : wN w < wN z := Lz.2.2.2.1.1.2.1
      have qh : wI (uI z2 90 2 0) (wN w) 0 = nI (psG (resT t n) 0) := by
        rw [wI_uI_ne (by omega)]
        exact LX2.1.1.1.2.2.2.1.1
      show isK (uI z2 90 2 0) 64 11 ∧ isK (uI z2 90 2 0) (wR (uI z2 90 2 0) 64 4) 7 ∧ isK (uI z2 90 2 0) (wR (uI z2 90 2 0) (wR (uI z2 90 2 0) 64 4) 3) 1 ∧ isK (uI z2 90 2 0) 260 21 ∧ vp_in 0 (wn (uI z2 90 2 0) 260) ∧ K 0 (uL (uI z2 90 2 0) 260 (Int32.toNatClampNeg 0) (wI (uI z2 90 2 0) (wR (uI z2 90 2 0) (wR (uI z2 90 2 0) 64 4) 3) 0).toInt64)
      rw [q64.2, (nr 64 (by decide) (by decide) (by decide)).2.2, S.1.2.2.2.2.2.1, q238.2, Lz.1.2.2.2.1, qh]
      have c3 : cx (fun r => r = 90 ∨ landT 92 r) z (uI z2 90 2 0) := cx_trans (cx_mono (fun _ y => Or.inr y) cz2) (cx_uI (Or.inl rfl))
      have c4 : cx hlT w (uI z2 90 2 0) := cx_trans (cx_mono (fun r y => by unfold rzT at y; unfold hlT; omega) cz) (cx_mono (fun r y => y.elim (fun e => Or.inr (Or.inr (Or.inr (Or.inl e)))) (fun e => Or.inr (Or.inr (Or.inr (Or.inr (Or.inl e)))))) c3)
      have R3 : RrS (uI z2 90 2 0) := RrS_cx c3 q238.2 Lz.1.2.1
      have M3 : okM (uI z2 90 2 0) 245 := okM_cx c4 (by rw [(n2 245 (by omega) (by omega)).2, (nr 245 (by decide) (by decide) (by decide)).2.2]) S.2.2.2.2.2.2.2.2.2.2.1
      have LX3 : LX (uI z2 90 2 0) 92 (wN w) (psG (resT t n)) := LX_cx (T := fun r => r = 90) (cx_uI rfl) (fun r y => by omega) (fun r y1 y2 => by unfold landT at y1; omega) LX2
      have p90 : wI (uI z2 90 2 0) 90 2 = 0 ∧ wI (uI z2 90 2 0) 90 3 = wI w 90 3 := by
        refine ⟨by rw [wI_uI, if_pos rfl], ?_⟩
        rw [wI_uI, if_neg (by decide), ((cz2.2 90 (by omega)).2.2 (by unfold landT; omega)).1, (nr 90 (by decide) (by decide) (by decide)).1]
      have k1 : wI (uI z2 90 2 0) 238 = wI z 238 := q238.1
      have k245 : wI (uI z2 90 2 0) 245 = wI w 245 := (n2 245 (by omega) (by omega)).1.trans (nr 245 (by decide) (by decide) (by decide)).1
      have k250 : wI (uI z2 90 2 0) 250 = wI w 250 := (n2 250 (by omega) (by omega)).1.trans (nr 250 (by decide) (by decide) (by decide)).1
      have rw245 : wR (uI z2 90 2 0) 245 = wR w 245 := (n2 245 (by omega) (by omega)).2.trans (nr 245 (by decide) (by decide) (by decide)).2.2
      have rw90 : ∀ r, (r = 90 ∨ r = 91) → wR (uI z2 90 2 0) r = wR w r := fun r hr => (n2 r (by omega) (by omega)).2.trans (nr r (by omega) (by omega) (by omega)).2.2
      have k260 : isK (uI z2 90 2 0) 260 21 := cx_isK c4 S.2.2.2.2.2.2.2.2.2.2.2.1
      have n260 : wn (uI z2 90 2 0) 260 = 1 := (cx_wn c4 S.2.2.2.2.2.2.2.2.2.2.2.1).trans S.2.2.2.2.2.2.2.2.2.2.2.2
      have hDR : isK (uI z2 90 2 0) (wN w) 1 := LX3.1.1.1.2.2.1
      have k64 : isK (uI z2 90 2 0) 64 11 := cx_isK c4 S.1.1
      obtain ⟨z3, hz3⟩ : ∃ z3, z3 = uI z2 90 2 0 := ⟨_, rfl⟩
      rw [← hz3] at c4 R3 M3 LX3 p90 k1 k245 k250 rw245 rw90 k260 n260 hDR k64 ⊢
      refine ⟨k64, R3.1, hDR, k260, by rw [n260]; exact vp_in_nI (n := 0) (by decide) (by decide), ?_⟩
      obtain ⟨v, hv⟩ : ∃ v, v = (nI (psG (resT t n) 0)).toInt64 := ⟨_, rfl⟩
      rw [← hv]
      have cu : cx (fun r => r = 260) z3 (uL z3 260 0 v) := cx_uL rfl
      refine hc 0 (uL z3 260 0 v) M3.1 (r_hills (N := N) (u := uL z3 260 0 v) M3 (T0 k250) hnN n9 (by show wI z3 245 6 = nI N; rw [k245]; exact r0) (fun b V' z4 e4 R4 a4 a6 a14 a15 kn => ?_) (fun b => absurd Lz.2.1 b))
      rw [← hv]
      have c5 : cx hlT w z4 := cx_trans (cx_trans c4 (cx_mono (fun r y => by unfold hlT; omega) cu)) (cx_mono (fun r y => by unfold hlT; omega) (cx_eqW e4))
      have i4 : ∀ r, r ≠ 245 → r ≠ 246 → r ≠ 247 → wI z4 r = wI z3 r ∧ wL z4 r = wL (uL z3 260 0 v) r ∧ wR z4 r = wR z3 r := fun r h1 h2 h3 => by
        have q := e4.2.2.2 r (by omega)
        exact ⟨q.1, q.2.1, q.2.2⟩
      have W' : WF (psG (resT t n)) (B + 99) := GI_WF GI' (by have := V.2.2.2; have := V.1; omega) (by omega) hB
      have CP' : CP z4 (psG (resT t n)) := by
        have cT : cx (fun r => r = 260 ∨ r = 245 ∨ r = 246 ∨ r = 247) z3 z4 := cx_trans (cx_mono (fun r y => Or.inl y) cu) (cx_mono (fun r y => Or.inr y) (cx_eqW e4))
        have nT : noH (fun r => r = 260 ∨ r = 245 ∨ r = 246 ∨ r = 247) := fun r y => by omega
        have PS4 : PS z4 90 := by
          obtain ⟨p1, p2, p3, p4, p5, p6⟩ := P.1
          refine ⟨cx_isK c5 p1, ?_, ?_, cx_isK c5 p4, (cx_wn c5 p4).trans p5, fun i hi => ?_⟩
          · rw [(i4 90 (by decide) (by decide) (by decide)).2.2, rw90 90 (Or.inl rfl)]; exact p2
          · rw [(i4 90 (by decide) (by decide) (by decide)).2.2, rw90 90 (Or.inl rfl)]; exact p3
          · rw [(i4 (90 + 1) (by decide) (by decide) (by decide)).2.2, rw90 91 (Or.inr rfl)]; exact p6 i hi
        refine ⟨wN w, e, PS4, LX_cx cT nT (fun r y1 y2 => by unfold landT at y1; omega) LX3, ?_, ⟨?_, P.2.2.2.1.2⟩, fun s hs => ?_⟩
        · rw [(i4 90 (by decide) (by decide) (by decide)).1, p90.1, GI'.1.2.2.1]; rfl
        · rw [(i4 90 (by decide) (by decide) (by decide)).1, p90.2]; exact P.2.2.2.1.1
        · obtain ⟨h', g', a1, a2⟩ := P.2.2.2.2 s hs
          refine ⟨h', g', LX_cx c5 hlT_noH (fun r y1 y2 => by unfold landT at y1; unfold hlT landT at y2; omega) a1, fun i hi => ?_⟩
          rw [GI'.1.2.2.1] at hi
          exact absurd hi (Nat.not_lt_zero i)
      have Iz : INV z4 (B + 99) := hl_INV S I.2.2.2.2 c5 (by rw [R4]; exact rw245) (RrS_cx (cx_trans (cx_mono (U := fun r => r = 260 ∨ r = 245 ∨ r = 246 ∨ r = 247) (fun r y => Or.inl y) cu) (cx_mono (fun r y => Or.inr y) (cx_eqW e4))) (by rw [R4]; rfl) R3) (by rw [(i4 238 (by decide) (by decide) (by decide)).1, k1]; exact c2.1) a6 (by unfold FT; rw [(i4 238 (by decide) (by decide) (by decide)).1, k1, c2.2.1, c2.2.2, a14, a15]; exact ⟨rfl, rfl⟩) hB W' CP' kn
      exact tlT_0 Iz.1 a4 (by rw [(i4 260 (by decide) (by decide) (by decide)).2.1, wL_uL, if_pos rfl]) (hk z4 Iz)
    · have cz := Fz.1
      have nr : ∀ r, r < 261 → r ≠ 238 → r ≠ 240 → wI z r = wI w r ∧ wL z r = wL w r ∧ wR z r = wR w r := fun r h1 h2 h3 => (cz.2 r (by omega)).2.2 (by unfold rzT; omega)
      obtain ⟨dk, dpl⟩ : psB (resT t n) = k ∧ psL (resT t n) = pl := by
        rcases D with ⟨d1, d2, d3⟩ | ⟨d1, -⟩
        · exact ⟨d1, d3⟩
        · exact absurd d1 nb
      rw [(nr 64 (by decide) (by decide) (by decide)).2.2, S.1.2.2.2.2.2.1, Fz.2.2.2.1]
      have k260 : isK z 260 21 := cx_isK cz S.2.2.2.2.2.2.2.2.2.2.2.1
      have n260 : wn z 260 = 1 := (cx_wn cz S.2.2.2.2.2.2.2.2.2.2.2.1).trans S.2.2.2.2.2.2.2.2.2.2.2.2
      have Mz : okM z 245 := okM_cx cz (nr 245 (by decide) (by decide) (by decide)).2.2 S.2.2.2.2.2.2.2.2.2.2.1
      refine ⟨cx_isK cz S.1.1, Fz.2.1.1, k260, by rw [n260]; exact vp_in_nI (n := 0) (by decide) (by decide), ?_⟩
      obtain ⟨v, hv⟩ : ∃ v, v = (-10 - nI k : Int32).toInt64 := ⟨_, rfl⟩
      have cu : cx (fun r => r = 260) z (uL z 260 0 v) := cx_uL rfl
      refine hc 0 (uL z 260 0 (-10 - nI k : Int32).toInt64) Mz.1 ?_
      rw [← hv]
      refine r_hills (N := N) (u := uL z 260 0 v) Mz (T0 (nr 250 (by decide) (by decide) (by decide)).1) hnN n9 (by show wI z 245 6 = nI N; rw [(nr 245 (by decide) (by decide) (by decide)).1]; exact r0) (fun b => absurd b nb) (fun b b4 z4 F4 a4 a6 a14 a15 => ?_)
      rw [dk, ← hv]
      rw [dk] at a14
      rw [dpl] at a15
      have c5 : cx hlT w z4 := cx_trans (cx_trans (cx_mono (fun r y => by unfold rzT at y; unfold hlT; omega) cz) (cx_mono (fun r y => by unfold hlT; omega) cu)) (cx_mono (fun r y => by unfold hlT; omega) (cx_eqW F4.1))
      have i4 : ∀ r, r ≠ 245 → r ≠ 247 → wI z4 r = wI z r ∧ wL z4 r = wL (uL z 260 0 v) r ∧ wR z4 r = wR z r := fun r h1 h2 => by
        have q := F4.1.2.2.2 r (by omega)
        exact ⟨q.1, q.2.1, q.2.2⟩
      have cT : cx (fun r => r = 238 ∨ r = 240 ∨ r = 260 ∨ r = 245 ∨ r = 247) w z4 := cx_trans (cx_trans (cx_mono (fun r y => by unfold rzT at y; omega) cz) (cx_mono (fun r y => by omega) cu)) (cx_mono (fun r y => by omega) (cx_eqW F4.1))
      have Iz : INV z4 (B + 99) := hl_INV S I.2.2.2.2 c5 (by rw [F4.2]; exact (nr 245 (by decide) (by decide) (by decide)).2.2) (RrS_cx (cx_trans (cx_mono (U := fun r => r = 260 ∨ r = 245 ∨ r = 247) (fun r y => Or.inl y) cu) (cx_mono (fun r y => Or.inr y) (cx_eqW F4.1))) (by rw [F4.2]; rfl) Fz.2.1) (by rw [(i4 238 (by decide) (by decide)).1]; exact Fz.2.2.1) a6 (by unfold FT; rw [(i4 238 (by decide) (by decide)).1, Fz.2.2.2.1, Fz.2.2.2.2, a14, a15]; exact ⟨rfl, rfl⟩) hB (WF_mono I.2.1 (by omega) hB) (CP_cx cT (fun r y => by omega) (fun r y => by omega) I.2.2.1) (fun j hj => by rw [(i4 246 (by decide) (by decide)).1, (nr 246 (by decide) (by decide) (by decide)).1]; exact I.2.2.2.1.2 j hj)
      exact tlT_0 Iz.1 a4 (by rw [(i4 260 (by decide) (by decide)).2.1, wL_uL, if_pos rfl]) (hk z4 Iz)
  · have J := INVx_J I hN
    have J1 := INVx_t (k := 4) (v := 0) J (by decide) (by decide) (by decide)
    have J2 := INVx_t (k := 4) (v := 1) J1 (by decide) (by decide) (by decide)
    have e6 : wI (uI (wJ w Nn) 245 4 0) 245 6 = nI N := by
      rw [wI_uI, if_neg (by decide), (((cx_wJ (T := fun _ => False) hN).2 245 (by omega)).2.2 id).1]
      exact r0
    refine hc _ _ (INVx_M J) ?_
    unfold w_X12_hills
    rw [e6]
    refine ⟨INVx_M J, p_withinI 0 N (by decide) (by rw [Int32.toInt_toInt64]; exact nI_toInt (by omega)) ?_⟩
    rw [decide_eq_false cy]
    exact br_t rfl ⟨INVx_M J1, INVx_M J1, finK J2 (by decide) (fw _ _) hB hk⟩
end HL
