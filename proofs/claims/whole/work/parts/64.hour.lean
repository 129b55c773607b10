/-! 64: an hour of the class's -/
section CH
variable {w : Wd} {r h : Nat} {g : Nat → Nat} {B : Nat} {K : Wd → Prop}
theorem slp_ups {g : Nat → Nat} {v : Nat} (hv : v < g 1) : (slp g).testBit v = !(ups g 0).testBit v := by
  rw [slp_bit]
  unfold ups
  rw [mk_bit]
  simp [hv]
theorem q_ph7 (hW : WF g B) {E : Nat → Int32 → Wd → Prop} (hE : ∀ u, eqW (landT r) w u → LA u r h (h1R g (ups g 0) (g 1)) → E r (nI (slp g)) u) : ∀ d i u, i + d = g 1 → eqW (landT r) w u → LA u r h (h1R g (ups g 0) i) → l_X2_passHour_7 E K (d + 1) r (nI (slp g)) (nI i) u := by
  have h10 := hW.1.1.2.1
  have hz := set_lt hW.1 (slp_lt g)
  intro d
  induction d with
  | zero =>
    intro i u hi hw L
    have : i = g 1 := by omega
    subst this
    have H := L.1.1.2.2
    unfold l_X2_passHour_7
    rw [L.1.1.2.1, H.2.1.2.1, h1R_o (j := 1) (by omega)]
    exact ⟨L.1.1.1, H.1, br_t (nI_le (Nat.le_refl _) (by omega)) (hE u hw L)⟩
  | succ d ih =>
    intro i u hi hw L
    have H := L.1.1.2.2
    have q := hW.1.2.1 i (by omega)
    have q2 : g (15 + i) ≤ g (47 + i) := (hW.2.2.1.1 i (by omega)).2
    unfold l_X2_passHour_7
    rw [L.1.1.2.1, H.2.1.2.1, h1R_o (j := 1) (by omega)]
    refine ⟨L.1.1.1, H.1, br_f (nI_ge (by omega) (by omega)) (q_has (by omega) (by omega) ?_)⟩
    rw [slp_ups (by omega), nI_1]
    cases eb : (ups g 0).testBit i
    case true => exact br_t rfl (ih (i + 1) u (by omega) hw (by rw [h1R_t eb]; exact L))
    refine br_f (by decide) ⟨L.1.1.1, q_waterOf L.1 (by omega) ⟨L.1.1.1, ?_⟩⟩
    rw [L.1.1.2.1]
    refine ⟨H.1, q_deepOf H (by omega) ?_⟩
    rw [h1R_o (j := 15 + i) (by omega), h1R_o (j := 47 + i) (by omega)]
    by_cases c : g (47 + i) ≤ g (15 + i)
    · refine br_t (nI_le c (by omega)) (ih (i + 1) u (by omega) hw ?_)
      rw [← h1R_f eb, show min (g (47 + i)) (g (15 + i) + 1) = g (15 + i) by omega]
      have e : upN (h1R g (ups g 0) i) (15 + i) (g (15 + i)) = h1R g (ups g 0) i := funext fun j => by
        by_cases e : j = 15 + i
        · subst e; rw [upN_s, h1R_o (by omega)]
        · exact upN_n _ e
      rw [e]
      exact L
    · refine br_f (nI_ge (by omega) (by omega)) ⟨L.1.1.1, q_pour L (v := i) (by omega) (z := g (15 + i) + 1) (x := -1) ?_ ?_⟩
      · rw [h1R_o (j := 15 + i) (by omega), ← nI_1]
        apply Int32.toInt_inj.mp
        rw [Int32.toInt_sub, Int32.toInt_add]
        congr 1
      · refine ih (i + 1) _ (by omega) (eqW_trans hw (eqW_uI (Or.inr (Or.inr rfl)))) ?_
        rw [← h1R_f eb, show min (g (47 + i)) (g (15 + i) + 1) = g (15 + i) + 1 by omega]
        exact LA_W L _ (by omega)
theorem q_ph95 {g0 : Nat → Nat} (hW : WF g0 B) {a pt : Nat} (hz : pt < 1024) (ha : a < g0 1) (hpt : ∀ b, b < g0 1 → pt.testBit b = ((g0 (57 + a)).testBit b && !(ups g0 0).testBit a && !(ups g0 0).testBit b)) {E : Nat → Int32 → Int32 → Wd → Prop} {s : Int32} : ∀ d b u g, a < b → b + d = g0 1 → eqW (landT r) w u → okWt g0 g → LA u r h g → (∀ u, eqW (landT r) w u → okWt g0 (hin (ups g0 0) a d b g) → LA u r h (hin (ups g0 0) a d b g) → E r s (nI a) u) → l_X2_passHour_95 E K (d + 1) r s (nI a) (nI pt) (nI b) u := by
  have h10 := hW.1.1.2.1
  intro d
  induction d with
  | zero =>
    intro b u g hab hi hw ho L hE
    have : b = g0 1 := by omega
    subst this
    have H := L.1.1.2.2
    unfold l_X2_passHour_95
    rw [L.1.1.2.1, H.2.1.2.1, ho.1 1 (by omega)]
    exact ⟨L.1.1.1, H.1, br_t (nI_le (Nat.le_refl _) (by omega)) (hE u hw ho L)⟩
  | succ d ih =>
    intro b u g hab hi hw ho L hE
    have H := L.1.1.2.2
    unfold l_X2_passHour_95
    rw [L.1.1.2.1, H.2.1.2.1, ho.1 1 (by omega)]
    refine ⟨L.1.1.1, H.1, br_f (nI_ge (by omega) (by omega)) (q_has (by omega) (by omega) ?_)⟩
    have ec : ((g (57 + a)).testBit b && !(ups g0 0).testBit a && !(ups g0 0).testBit b) = pt.testBit b := by rw [hpt b (by omega), ho.1 (57 + a) (by omega)]
    cases e : pt.testBit b
    · rw [e] at ec
      refine br_t rfl ?_
      rw [nI_1]
      refine ih (b + 1) u g (by omega) (by omega) hw ho L (fun u' q1 q2 q3 => hE u' q1 ?_ ?_)
      · show okWt g0 (hin (ups g0 0) a d (b + 1) (if _ then _ else g))
        rw [ec, if_neg (by decide)]; exact q2
      · show LA u' r h (hin (ups g0 0) a d (b + 1) (if _ then _ else g))
        rw [ec, if_neg (by decide)]; exact q3
    · rw [e] at ec
      have qa := hW.1.2.1 a ha
      have qb := hW.1.2.1 b (by omega)
      have wa := ho.2 a ha
      have wb := ho.2 b (by omega)
      have da := ho.1 (47 + a) (by omega)
      have db := ho.1 (47 + b) (by omega)
      refine br_f (by decide) ⟨L.1.1.1, q_dream L (by omega) (by omega) (by omega) (by omega) (by omega) (by omega) (by omega) (fun u' hu' L' => ?_)⟩
      rw [nI_1]
      refine ih (b + 1) u' (dreamR g a b) (by omega) (by omega) (eqW_trans hw hu') (dreamR_ok hW.1 ho ha (by omega) (by omega)) L' (fun u'' q1 q2 q3 => hE u'' q1 ?_ ?_)
      · show okWt g0 (hin (ups g0 0) a d (b + 1) (if _ then _ else g))
        rw [ec, if_pos rfl]; exact q2
      · show LA u'' r h (hin (ups g0 0) a d (b + 1) (if _ then _ else g))
        rw [ec, if_pos rfl]; exact q3
theorem q_ph56 {g0 : Nat → Nat} (hW : WF g0 B) {E : Nat → Wd → Prop} : ∀ d a u g, a + d = g0 1 → eqW (landT r) w u → okWt g0 g → LA u r h g → (∀ u, eqW (landT r) w u → okWt g0 (hou (ups g0 0) d a g) → LA u r h (hou (ups g0 0) d a g) → E r u) → l_X2_passHour_56 E K (d + 1) r (nI (slp g0)) (nI a) u := by
  have h10 := hW.1.1.2.1
  have hz := set_lt hW.1 (slp_lt g0)
  intro d
  induction d with
  | zero =>
    intro a u g hi hw ho L hE
    have : a = g0 1 := by omega
    subst this
    have H := L.1.1.2.2
    unfold l_X2_passHour_56
    rw [L.1.1.2.1, H.2.1.2.1, ho.1 1 (by omega)]
    exact ⟨L.1.1.1, H.1, br_t (nI_le (Nat.le_refl _) (by omega)) (hE u hw ho L)⟩
  | succ d ih =>
    intro a u g hi hw ho L hE
    have H := L.1.1.2.2
    unfold l_X2_passHour_56
    rw [L.1.1.2.1, H.2.1.2.1, ho.1 1 (by omega)]
    refine ⟨L.1.1.1, H.1, br_f (nI_ge (by omega) (by omega)) (q_has (by omega) (by omega) ?_)⟩
    rw [slp_ups (by omega)]
    cases e : (ups g0 0).testBit a
    case true =>
      refine br_t rfl ⟨d + 1, ?_⟩
      rw [nI_1]
      refine q_ph95 hW (pt := 0) (by decide) (by omega) (fun b hb => by rw [e]; simp) d (a + 1) u g (by omega) (by omega) hw ho L (fun u' q1 q2 q3 => ?_)
      rw [nI_1]
      exact ih (a + 1) u' _ (by omega) q1 q2 q3 hE
    refine br_f (by decide) ⟨L.1.1.1, ?_⟩
    rw [L.1.1.2.1]
    refine ⟨H.1, q_besideOf H (by omega) ⟨d + 1, ?_⟩⟩
    rw [fa_and, nI_1, ho.1 (57 + a) (by omega)]
    have hset := set_lt hW.1 (hW.1.2.1 a (by omega)).2.2.2
    refine q_ph95 hW (Nat.lt_of_le_of_lt Nat.and_le_left hset) (by omega) (fun b hb => by rw [Nat.testBit_and, slp_ups hb, e]; simp) d (a + 1) u g (by omega) (by omega) hw ho L (fun u' q1 q2 q3 => ?_)
    rw [nI_1]
    exact ih (a + 1) u' _ (by omega) q1 q2 q3 hE
theorem q_passHour (L : LA w r h g) (hW : WF g B) (hB : B + 1 < 2 ^ 24) (hk : ∀ u, eqW (landT r) w u → LA u r h (hourR g) → K u) : w_X2_passHour r K w := by
  have h10 := hW.1.1.2.1
  have h6 : g 26 ≤ B := hW.2.2.1.2.2
  refine ⟨L.1.1.1, q_asleepBits L.1 hW ⟨g 1 + 1, ?_⟩⟩
  refine q_ph7 (w := w) hW (fun u1 q1 q2 => ⟨g 1 + 1, ?_⟩) (g 1) 0 w (by omega) (eqW_refl _ _) (by rw [h1R_0]; exact L)
  refine q_ph56 (w := w) hW (g 1) 0 u1 _ (by omega) q1 (h1R_ok h10 hW.2.2.1) q2 (fun u2 r1 r2 r3 => ?_)
  have o : okWt g (midR g) := r2
  have L2 : LA u2 r h (midR g) := r3
  have m26 := o.1 26 (by omega)
  have m25 := o.1 25 (by omega)
  rw [L2.1.2.1.1, m26, nI_1]
  have L3 := LA_H L2 (g 26 + 1)
  have h2 := wfH_of (okWt_same o) hW.1
  have s1 := upH_wfS (okWt_wfS o hW.1 hW.2.2.1) h2 (z := g 26 + 1) (C := B + 1) (by omega)
  have e1 : sameH g (upN (midR g) 26 (g 26 + 1)) := sameH_trans (okWt_same o) (upN_same (by omega))
  have W3 : WF (upN (midR g) 26 (g 26 + 1)) (B + 1) := WF_st hW e1 s1 (by omega) hB
  refine ⟨L2.1.1.1, q_asleepBits L3.1 W3 ⟨L3.1.1.1, ?_⟩⟩
  rw [L3.1.2.1.2, upN_n (j := 25) _ (by decide), m25, p_dif]
  refine hk _ (eqW_trans (eqW_trans r1 (eqW_uI (Or.inl rfl))) (eqW_uI (Or.inl rfl))) ?_
  have e25 : dif (g 25) (slp (upN (midR g) 26 (g 26 + 1))) = g 25 &&& ups (upN (midR g) 26 (g 26 + 1)) 0 := by
    have e11 := e1 1 (by omega)
    refine mk_ext (n := g 1) (dif_lt hW.2.2.1.2.1) (Nat.lt_of_le_of_lt Nat.and_le_left hW.2.2.1.2.1) (fun k hk' => ?_)
    rw [dif_bit, Nat.testBit_and, slp_ups (by rw [e11]; exact hk')]
    simp
  rw [hourR_eq, ← e25]
  exact LA_S L3 _
end CH
