/-! 99.sm: new hills are made, and begun with -/
section BG
variable {w z : Wd} {h n : Nat} {t : Nat → Nat} {g : Nat → Nat} {K : Wd → Prop}
theorem DR_HR (D : DR z h g) (W : LWs z h g) : HR z h g := by
  obtain ⟨d0, d1, d2, d3, d4, d5, d6, d7, d8, d9⟩ := D
  exact ⟨d0, ⟨d1.1, d1.2.1, d1.2.2.1⟩, d2, d3, d5, d7, d8, d9, W.2⟩
theorem q_tShift {i : Nat} {K : Int32 → Wd → Prop} (D : DR z h g) (hi : i < 10) (hk : K (nI (g (5 + i))) z) : w_X1_toldShiftOf h (nI i) K z := by
  obtain ⟨d0, d1, d2, d3, d4, d5, d6, d7, d8, d9⟩ := D
  unfold w_X1_toldShiftOf
  rw [d4.1, d4.2.2.1, nI_clamp (by omega), d4.2.2.2 i hi]
  exact br_f (nI_pos (by omega)) ⟨d0, d4.2.1, br_f (nI_ge (b := 10) hi (by decide)) ⟨vp_in_nI hi (by decide), hk⟩⟩
theorem q_tWater {i : Nat} {K : Int32 → Wd → Prop} (D : DR z h g) (hi : i < 10) (hk : K (nI (g (15 + i))) z) : w_X1_toldWaterOf h (nI i) K z := by
  obtain ⟨d0, d1, d2, d3, d4, d5, d6, d7, d8, d9⟩ := D
  unfold w_X1_toldWaterOf
  rw [d6.1, d6.2.2.1, nI_clamp (by omega), d6.2.2.2 i hi]
  exact br_f (nI_pos (by omega)) ⟨d0, d6.2.1, br_f (nI_ge (b := 10) hi (by decide)) ⟨vp_in_nI hi (by decide), hk⟩⟩
def bgS (z zi : Wd) (h : Nat) (g : Nat → Nat) (i : Nat) : Prop := cx (landT 92) z zi ∧ (wR zi 92 0 = h ∧ wR zi 92 3 = 93 ∧ wR zi 92 4 = 94) ∧ wI zi 92 1 = nI (g 26) ∧ wI zi 92 2 = 0 ∧ ∀ k, k < i → wI zi 93 k = nI (g (5 + k)) ∧ wI zi 94 k = nI (g (15 + k))
theorem q_begin (Ld : LdS z 92) (D : DR z h g) (W : LWs z h g) (h261 : 261 ≤ h) (g25 : g 25 = 0) (hk : ∀ z', cx (landT 92) z z' → LX z' 92 h g → K z') : w_X2_beginWith 92 h K z := by
  have nT : ∀ i, i ≤ 8 → ¬ landT 92 (h + i) := fun i _ y => by unfold landT at y; omega
  have step : ∀ zi i, bgS z zi h g i → LdS zi 92 ∧ DR zi h g := fun zi i S => by
    refine ⟨⟨cx_isK S.1 Ld.1, ⟨S.2.1.2.1, cx_isK S.1 Ld.2.1.2.1, (cx_wn S.1 Ld.2.1.2.1).trans Ld.2.1.2.2⟩, S.2.1.2.2, cx_isK S.1 Ld.2.2.2.1, (cx_wn S.1 Ld.2.2.2.1).trans Ld.2.2.2.2⟩, DR_cx S.1 nT D⟩
  have go : ∀ d i zi, i + d = 10 → bgS z zi h g i → l_X2_beginWith_20 K (d + 1) 92 h (nI i) zi := by
    intro d
    induction d with
    | zero =>
      intro i zi hi S
      have : i = 10 := by omega
      subst this
      obtain ⟨Ls, Ds⟩ := step zi 10 S
      have e1 : wn zi 1 = wn z 1 := (S.1.2 1 (by have := D.1.2.1; omega)).2.1
      have Ws := LWs_cx (g := g) S.1 D.1 ⟨nT 0 (by decide), fun y => by have := W.1; unfold landT at y; omega⟩ e1 W
      refine br_t (by decide) (hk zi S.1 ⟨⟨⟨⟨Ls.1, S.2.1.1, DR_HR Ds Ws⟩, ⟨S.2.2.1, by rw [g25]; exact S.2.2.2.1⟩, ⟨Ls.2.1.1, Ls.2.1.2.1, Ls.2.1.2.2, fun k hk => (S.2.2.2.2 k hk).1⟩, ⟨Ls.2.2.1, Ls.2.2.2.1, Ls.2.2.2.2, fun k hk => (S.2.2.2.2 k hk).2⟩⟩, fun q y y2 => ?_⟩, Or.inr h261, ?_, Ds.2.2.2.2.1.2.1, Ds.2.2.2.2.2.2.1.2.1⟩)
      · have := Ws.1
        unfold hT at y
        unfold landT at y2
        omega
      · have := Ws.1
        omega
    | succ d ih =>
      intro i zi hi S
      obtain ⟨Ls, Ds⟩ := step zi i S
      unfold l_X2_beginWith_20
      rw [Ls.2.1.1, show (nI i + 1 : Int32) = nI (i + 1) from nI_add i 1]
      refine br_f (nI_ge (b := 10) (by omega) (by decide)) ⟨Ls.1, Ls.2.1.2.1, Ds.1, q_tShift Ds (by omega) ⟨Ls.2.1.2.1, ?_⟩⟩
      rw [show wn zi (92 + 1) = 10 from Ls.2.1.2.2, nI_clamp (by omega)]
      have c2 : cx (landT 92) zi (uI zi 93 i (nI (g (5 + i)))) := cx_uI (by unfold landT; omega)
      have D2 := DR_cx c2 nT Ds
      have r4 : wR zi 92 4 = 94 := Ls.2.2.1
      refine ⟨vp_in_nI (by omega) (by decide), Ls.1, ?_⟩
      rw [r4]
      refine ⟨Ls.2.2.2.1, Ds.1, q_tWater D2 (by omega) ⟨Ls.2.2.2.1, ?_⟩⟩
      rw [show wn (uI zi (92 + 1) i (nI (g (5 + i)))) 94 = 10 from Ls.2.2.2.2]
      refine ⟨vp_in_nI (by omega) (by decide), ih (i + 1) _ (by omega) ⟨cx_trans (cx_trans S.1 c2) (cx_uI (by unfold landT; omega)), S.2.1, ?_, ?_, fun k hk => ⟨?_, ?_⟩⟩⟩
      · rw [wI_uI_ne (by decide), wI_uI_ne (by decide)]; exact S.2.2.1
      · rw [wI_uI_ne (by decide), wI_uI_ne (by decide)]; exact S.2.2.2.1
      · rw [wI_uI_ne (by decide), wI_uI]
        by_cases e : k = i
        · rw [if_pos e, e]
        · rw [if_neg e]; exact (S.2.2.2.2 k (by omega)).1
      · rw [wI_uI]
        by_cases e : k = i
        · rw [if_pos e, e]
        · rw [if_neg e, wI_uI_ne (by decide)]; exact (S.2.2.2.2 k (by omega)).2
  have e3 : wI (uR z 92 0 h) h 3 = nI (g 26) := D.2.1.2.2.2
  unfold w_X2_beginWith
  rw [e3]
  refine ⟨Ld.1, by omega, D.1, 11, go 10 0 _ rfl ⟨cx_trans (cx_trans (cx_mono (fun r y => by unfold landT; omega) cx_uRh) (cx_uI (by unfold landT; omega))) (cx_uI (by unfold landT; omega)), ⟨?_, ?_, ?_⟩, ?_, ?_, fun k hk => absurd hk (Nat.not_lt_zero k)⟩⟩
  · show wR (uR z 92 0 h) 92 0 = h
    rw [vaR, if_pos rfl]
  · show wR (uR z 92 0 h) 92 3 = 93
    rw [vaR, if_neg (by decide)]; exact Ld.2.1.1
  · show wR (uR z 92 0 h) 92 4 = 94
    rw [vaR, if_neg (by decide)]; exact Ld.2.2.1
  · rw [wI_uI, if_neg (by decide), wI_uI, if_pos rfl]
  · rw [wI_uI, if_pos rfl]
/-! a new draft -/
def hiS (w0 X : Wd) (h i : Nat) : Prop := cx (fun _ => False) w0 X ∧ wN X = h + 1 + i ∧ isK X h 1 ∧ (∀ k, k < 4 → wI X h k = 0) ∧ wR X h 4 = 1 ∧ ∀ j, j < i → wR X h (5 + j) = h + 1 + j ∧ arr X (h + 1 + j) (if j < 6 then 10 else 6) (fun _ => 0)
theorem hi_step {w0 X : Wd} {i m : Nat} (H : hiS w0 X h i) (hN : wN w0 = h) (h64 : 64 ≤ h) (hm : m = if i < 6 then 10 else 6) : hiS w0 (uR (wA X 20 m) h (5 + i) (wN X)) h (i + 1) ∧ isK (wA X 20 m) h 1 := by
  obtain ⟨a1, a2, a3, a4, a5, a6⟩ := H
  have hx : h ≠ wN X := by omega
  have kA : isK (wA X 20 m) h 1 := wA_is a3
  have cA : cx (fun _ => False) X (wA X 20 m) := cx_wA X 20 m
  have cB : cx (fun r => r = h) X (uR (wA X 20 m) h (5 + i) (wN X)) := cx_trans (cx_mono (fun _ y => y.elim) cA) cx_uRh
  refine ⟨⟨cx_nw a1 cB (fun r hr e => by omega), ?_, kA, fun k hk => ?_, ?_, fun j hj => ?_⟩, kA⟩
  · show wN X + 1 = h + 1 + (i + 1)
    omega
  · show wI (wA X 20 m) h k = 0
    rw [wA_I hx]; exact a4 k hk
  · rw [vaR, if_neg (by omega), wA_R hx]; exact a5
  · by_cases e : j = i
    · subst e
      refine ⟨by rw [vaR, if_pos rfl, a2], ?_⟩
      have eN : h + 1 + j = wN X := by omega
      rw [eN, ← hm]
      refine ⟨wA_is0 (w := X) (kd := 20) (ln := m) (by omega), wA_n0 (w := X) (kd := 20) (ln := m), fun k hk => ?_⟩
      show wI (wA X 20 m) (wN X) k = nI 0
      rw [wA_I0]
      rfl
    · obtain ⟨b1, b2⟩ := a6 j (by omega)
      exact ⟨by rw [vaR, if_neg (by omega), wA_R hx]; exact b1, arr_cx cB b2 (by omega)⟩
theorem hi_ne {w0 X : Wd} {i : Nat} (H : hiS w0 X h i) : wN X ≠ 0 := by
  have := H.2.1
  omega
theorem q_hinit {w0 : Wd} (hN : wN w0 = h) (h64 : 64 ≤ h) (hk : ∀ X, hiS w0 X h 8 → K X) : w_X1_init 8 72 h K (wA w0 1 0) := by
  have k0 : isK (wA w0 1 0) h 1 := by rw [← hN]; exact wA_is0 (by omega)
  have I0 : hiS w0 (uR (uI (uI (uI (uI (wA w0 1 0) h 0 0) h 1 0) h 2 0) h 3 0) h 4 1) h 0 := by
    refine ⟨?_, ?_, k0, fun k hk => ?_, by rw [vaR, if_pos rfl], fun j hj => absurd hj (Nat.not_lt_zero j)⟩
    · have cA : cx (fun _ => False) w0 (wA w0 1 0) := cx_wA w0 1 0
      exact cx_nw (cx_upN (cx_upN (cx_upN (cx_upN cA (by omega)) (by omega)) (by omega)) (by omega)) cx_uRh (fun r hr e => by omega)
    · show wN w0 + 1 = h + 1 + 0
      omega
    · show wI (uI (uI (uI (uI (wA w0 1 0) h 0 0) h 1 0) h 2 0) h 3 0) h k = 0
      rw [wI_uI]
      by_cases e3 : k = 3
      · rw [if_pos e3]
      · rw [if_neg e3, wI_uI]
        by_cases e2 : k = 2
        · rw [if_pos e2]
        · rw [if_neg e2, wI_uI]
          by_cases e1 : k = 1
          · rw [if_pos e1]
          · rw [if_neg e1, wI_uI, if_pos (by omega)]
  refine ⟨k0, ⟨by decide, by decide⟩, fun r3 w4 e1 e2 => ?_⟩
  subst e1; subst e2
  obtain ⟨I1, k1⟩ := hi_step (m := 10) I0 hN h64 rfl
  refine ⟨k1, hi_ne I0, ⟨by decide, by decide⟩, fun r w' e1 e2 => ?_⟩
  subst e1; subst e2
  obtain ⟨I2, k2⟩ := hi_step (m := 10) I1 hN h64 rfl
  refine ⟨k2, hi_ne I1, ⟨by decide, by decide⟩, fun r w' e1 e2 => ?_⟩
  subst e1; subst e2
  obtain ⟨I3, k3⟩ := hi_step (m := 10) I2 hN h64 rfl
  refine ⟨k3, hi_ne I2, ⟨by decide, by decide⟩, fun r w' e1 e2 => ?_⟩
  subst e1; subst e2
  obtain ⟨I4, k4⟩ := hi_step (m := 10) I3 hN h64 rfl
  refine ⟨k4, hi_ne I3, ⟨by decide, by decide⟩, fun r w' e1 e2 => ?_⟩
  subst e1; subst e2
  obtain ⟨I5, k5⟩ := hi_step (m := 10) I4 hN h64 rfl
  refine ⟨k5, hi_ne I4, ⟨by decide, by decide⟩, fun r w' e1 e2 => ?_⟩
  subst e1; subst e2
  obtain ⟨I6, k6⟩ := hi_step (m := 10) I5 hN h64 rfl
  refine ⟨k6, hi_ne I5, ⟨by decide, by decide⟩, fun r w' e1 e2 => ?_⟩
  subst e1; subst e2
  obtain ⟨I7, k7⟩ := hi_step (m := 6) I6 hN h64 rfl
  refine ⟨k7, hi_ne I6, ⟨by decide, by decide⟩, fun r w' e1 e2 => ?_⟩
  subst e1; subst e2
  obtain ⟨I8, k8⟩ := hi_step (m := 6) I7 hN h64 rfl
  exact ⟨k8, hi_ne I7, hk _ I8⟩
theorem hi_DR {w0 X : Wd} (H : hiS w0 X h 8) (e0 : wn X 1 = 0) : DR X h (fun _ => 0) ∧ LWs X h (fun _ => 0) := by
  obtain ⟨a1, a2, a3, a4, a5, a6⟩ := H
  refine ⟨⟨a3, ⟨a4 0 (by decide), a4 1 (by decide), a4 2 (by decide), a4 3 (by decide)⟩, a6 0 (by decide), a6 1 (by decide), a6 2 (by decide), a6 3 (by decide), a6 4 (by decide), a6 5 (by decide), a6 6 (by decide), a6 7 (by decide)⟩, Or.inl a5, ?_⟩
  rw [a5]
  exact Or.inl ⟨rfl, e0, rfl⟩
end BG
