/-! 60: an hour of the reference's, its loops -/
section HL
variable {w : Wd} {M : Nat} {g : Nat → Nat} {B : Nat} {K : Wd → Prop}
theorem p_h8 (h : RS w M g) (hW : WF g B) {s : Nat} (hz : s < 1024) {E : Nat → Int32 → Wd → Prop} (hE : ∀ u, eqW (refT M) w u → RS u M (h1R g s (g 1)) → E M (nI s) u) : ∀ d i u, i + d = g 1 → eqW (refT M) w u → RS u M (h1R g s i) → l_X12_hour_8 E K (d + 1) M (nI s) (nI i) u := by
  have h10 := hW.1.1.2.1
  intro d
  induction d with
  | zero =>
    intro i u hi hw hR
    have : i = g 1 := by omega
    subst this
    refine ⟨hR.1.1, p_wells hR (br_t ?_ (hE u hw hR))⟩
    rw [h1R_o (j := 1) (by omega)]
    exact nI_le (Nat.le_refl _) (by omega)
  | succ d ih =>
    intro i u hi hw hR
    refine ⟨hR.1.1, p_wells hR (br_f ?_ (p_xhas (by omega) (by omega) ?_))⟩
    · rw [h1R_o (j := 1) (by omega)]; exact nI_ge (by omega) (by omega)
    cases eb : s.testBit i
    · obtain ⟨a1, a2, a3⟩ := p_rd (k := 47 + i) hR (by omega) (P := fun z => z = nI (h1R g s i (47 + i))) rfl
      obtain ⟨-, b2, b3⟩ := p_rd (k := 15 + i) hR (by omega) (P := fun z => z = nI (h1R g s i (15 + i))) rfl
      rw [h1R_o (by omega)] at a3 b3
      have q := hW.1.2.1 i (by omega)
      have q2 : g (15 + i) ≤ g (47 + i) := (hW.2.2.1.1 i (by omega)).2
      rw [show (47 + nI i : Int32) = nI (47 + i) from nI_add 47 i, show (15 + nI i : Int32) = nI (15 + i) from nI_add 15 i]
      refine br_t rfl ⟨hR.1.1, a1, a2, b2, ?_⟩
      rw [a3, b3, nI_1]
      refine p_minI (by omega) (by omega) ⟨a1, b2, ?_⟩
      rw [nI_1, nI_clamp (by omega), hR.1.2.1.1]
      refine ih (i + 1) _ (by omega) (eqW_trans hw (eqW_uI (rT1 M))) ?_
      rw [← h1R_f eb]
      exact RS_wr hR _ _
    · refine br_f (by decide) ?_
      rw [nI_1]
      exact ih (i + 1) u (by omega) hw (by rw [h1R_t eb]; exact hR)
theorem p_h76 {g0 : Nat → Nat} (hW : WF g0 B) {s a : Nat} (hz : s < 1024) (ha : a < g0 1) {E : Nat → Int32 → Int32 → Wd → Prop} : ∀ d b u g, a < b → b + d = g0 1 → eqW (refT M) w u → okWt g0 g → RS u M g → (∀ u, eqW (refT M) w u → okWt g0 (hin s a d b g) → RS u M (hin s a d b g) → E M (nI s) (nI a) u) → l_X12_hour_76 E K (d + 1) M (nI s) (nI a) (nI b) u := by
  have h10 := hW.1.1.2.1
  intro d
  induction d with
  | zero =>
    intro b u g hab hi hw ho hR hE
    have : b = g0 1 := by omega
    subst this
    refine ⟨hR.1.1, p_wells hR (br_t ?_ (hE u hw ho hR))⟩
    rw [ho.1 1 (by omega)]
    exact nI_le (Nat.le_refl _) (by omega)
  | succ d ih =>
    intro b u g hab hi hw ho hR hE
    refine ⟨hR.1.1, p_wells hR (br_f ?_ ⟨hR.1.1, ?_⟩)⟩
    · rw [ho.1 1 (by omega)]; exact nI_ge (by omega) (by omega)
    obtain ⟨a1, a2, a3⟩ := p_rd (k := 57 + a) hR (by omega) (P := fun z => z = nI (g (57 + a))) rfl
    rw [show (57 + nI a : Int32) = nI (57 + a) from nI_add 57 a]
    refine ⟨a1, a2, ?_⟩
    rw [a3]
    have e57 := ho.1 (57 + a) (by omega)
    have hset := set_lt hW.1 (hW.1.2.1 a ha).2.2.2
    have off : ((g (57 + a)).testBit b && !s.testBit a && !s.testBit b) = false → l_X12_hour_76 E K (d + 1) M (nI s) (nI a) (nI b + 1) u := fun q => by
      rw [nI_1]
      refine ih (b + 1) u g (by omega) (by omega) hw ho hR (fun u' q1 q2 q3 => hE u' q1 ?_ ?_)
      · show okWt g0 (hin s a d (b + 1) (if _ then _ else g))
        rw [q, if_neg (by decide)]; exact q2
      · show RS u' M (hin s a d (b + 1) (if _ then _ else g))
        rw [q, if_neg (by decide)]; exact q3
    refine p_xhas (by omega) (by omega) ?_
    cases e1 : (g (57 + a)).testBit b
    · exact br_t rfl (off (by rw [e1]; rfl))
    refine br_f (by decide) (p_xhas (by omega) (by omega) ?_)
    cases e2 : s.testBit a
    case true => exact br_f (by decide) (off (by rw [e1, e2]; rfl))
    refine br_t rfl (p_xhas (by omega) (by omega) ?_)
    cases e3 : s.testBit b
    case true => exact br_f (by decide) (off (by rw [e1, e2, e3]; rfl))
    have qa := hW.1.2.1 a ha
    have qb := hW.1.2.1 b (by omega)
    have wa := ho.2 a ha
    have wb := ho.2 b (by omega)
    have da := ho.1 (47 + a) (by omega)
    have db := ho.1 (47 + b) (by omega)
    refine br_t rfl ⟨hR.1.1, p_dreams hR (by omega) (by omega) (by omega) (by omega) (by omega) (by omega) (by omega) (fun u' hu' hR' => ?_)⟩
    rw [nI_1]
    refine ih (b + 1) u' (dreamR g a b) (by omega) (by omega) (eqW_trans hw hu') (dreamR_ok hW.1 ho ha (by omega) (by omega)) hR' (fun u'' q1 q2 q3 => hE u'' q1 ?_ ?_)
    · show okWt g0 (hin s a d (b + 1) (if _ then _ else g))
      rw [show ((g (57 + a)).testBit b && !s.testBit a && !s.testBit b) = true by rw [e1, e2, e3]; rfl, if_pos rfl]; exact q2
    · show RS u'' M (hin s a d (b + 1) (if _ then _ else g))
      rw [show ((g (57 + a)).testBit b && !s.testBit a && !s.testBit b) = true by rw [e1, e2, e3]; rfl, if_pos rfl]; exact q3
theorem p_h64 {g0 : Nat → Nat} (hW : WF g0 B) {s : Nat} (hz : s < 1024) {E : Nat → Wd → Prop} : ∀ d a u g, a + d = g0 1 → eqW (refT M) w u → okWt g0 g → RS u M g → (∀ u, eqW (refT M) w u → okWt g0 (hou s d a g) → RS u M (hou s d a g) → E M u) → l_X12_hour_64 E K (d + 1) M (nI s) (nI a) u := by
  have h10 := hW.1.1.2.1
  intro d
  induction d with
  | zero =>
    intro a u g hi hw ho hR hE
    have : a = g0 1 := by omega
    subst this
    refine ⟨hR.1.1, p_wells hR (br_t ?_ (hE u hw ho hR))⟩
    rw [ho.1 1 (by omega)]
    exact nI_le (Nat.le_refl _) (by omega)
  | succ d ih =>
    intro a u g hi hw ho hR hE
    refine ⟨hR.1.1, p_wells hR (br_f ?_ ⟨d + 1, ?_⟩)⟩
    · rw [ho.1 1 (by omega)]; exact nI_ge (by omega) (by omega)
    rw [nI_1]
    refine p_h76 hW hz (by omega) d (a + 1) u g (by omega) (by omega) hw ho hR (fun u' q1 q2 q3 => ?_)
    rw [nI_1]
    exact ih (a + 1) u' _ (by omega) q1 q2 q3 hE
theorem hou_ok {g0 : Nat → Nat} (hh : wfH g0) (s : Nat) : ∀ d a g, a + d = g0 1 → okWt g0 g → okWt g0 (hou s d a g) := by
  have hi : ∀ a, a < g0 1 → ∀ d b g, a < b → b + d = g0 1 → okWt g0 g → okWt g0 (hin s a d b g) := by
    intro a ha d
    induction d with
    | zero => exact fun b g _ _ h => h
    | succ d ih =>
      intro b g h1 h2 h3
      show okWt g0 (hin s a d (b + 1) (if _ then _ else g))
      refine ih _ _ (by omega) (by omega) ?_
      split
      · exact dreamR_ok hh h3 ha (by omega) (by omega)
      · exact h3
  intro d
  induction d with
  | zero => exact fun a g _ h => h
  | succ d ih => exact fun a g h1 h2 => ih _ _ (by omega) (hi a (by omega) d (a + 1) g (by omega) (by omega) h2)
/-- the row at the end of the dreams -/
def midR (g : Nat → Nat) : Nat → Nat := hou (ups g 0) (g 1) 0 (h1R g (ups g 0) (g 1))
theorem midR_ok (hW : WF g B) : okWt g (midR g) := hou_ok hW.1 _ _ _ _ (by omega) (h1R_ok hW.1.1.2.1 hW.2.2.1)
theorem upH_wfS {g : Nat → Nat} {B z : Nat} (hs : wfS g 5 B) (hh : wfH g) {C : Nat} (hz : z ≤ C) : wfS (upN g 26 z) 5 C := by
  have h10 := hh.1.2.1
  refine ⟨fun v hv => ?_, ?_, ?_⟩
  · rw [upN_n _ (by omega)] at hv
    rw [upN_n _ (by omega), upN_n _ (by omega), upN_n _ (by omega), upN_n _ (by omega)]
    exact hs.1 v hv
  · rw [upN_n _ (by omega), upN_n _ (by omega)]; exact hs.2.1
  · rw [show 5 + 21 = 26 from rfl, upN_s]; exact hz
theorem hourR_eq (g : Nat → Nat) : hourR g = upN (upN (midR g) 26 (g 26 + 1)) 25 (g 25 &&& ups (upN (midR g) 26 (g 26 + 1)) 0) := rfl
theorem hourR_WF (hW : WF g B) (hB : B + 1 < 2 ^ 24) : WF (hourR g) (B + 1) ∧ sameH g (hourR g) := by
  have o := midR_ok hW
  have h2 := wfH_of (okWt_same o) hW.1
  have s1 := upH_wfS (okWt_wfS o hW.1 hW.2.2.1) h2 (z := g 26 + 1) (C := B + 1) (by have : g 26 ≤ B := hW.2.2.1.2.2; omega)
  have e1 : sameH g (upN (midR g) 26 (g 26 + 1)) := sameH_trans (okWt_same o) (upN_same (by omega))
  have h3 := wfH_of e1 hW.1
  have e2 : sameH g (hourR g) := by rw [hourR_eq]; exact sameH_trans e1 (upN_same (by omega))
  refine ⟨WF_st hW e2 ?_ (by omega) hB, e2⟩
  rw [hourR_eq]
  refine upN_wfS s1 h3 (Nat.lt_of_le_of_lt Nat.and_le_left ?_)
  rw [e1 1 (by omega)]
  exact hW.2.2.1.2.1
theorem p_hour (h : RS w M g) (hW : WF g B) (hB : B + 1 < 2 ^ 24) (hk : ∀ u, eqW (refT M) w u → RS u M (hourR g) → K u) : w_X12_hour M K w := by
  have h10 := hW.1.1.2.1
  have hu := set_lt hW.1 (show ups g 0 < 2 ^ g 1 from mk_lt _ _)
  have h6 : g 26 ≤ B := hW.2.2.1.2.2
  refine ⟨h.1.1, p_upIn h hW.1 hW.2.2.1 hW.2.2.2.2 (n := 0) (by decide) ⟨g 1 + 1, ?_⟩⟩
  refine p_h8 h hW hu (fun u1 q1 q2 => ⟨g 1 + 1, ?_⟩) (g 1) 0 w (by omega) (eqW_refl _ _) (by rw [h1R_0]; exact h)
  refine p_h64 (w := w) hW hu (g 1) 0 u1 _ (by omega) q1 (h1R_ok h10 hW.2.2.1) q2 (fun u2 r1 r2 r3 => ?_)
  have o : okWt g (midR g) := r2
  have hR : RS u2 M (midR g) := r3
  have m26 := o.1 26 (by omega)
  have m25 := o.1 25 (by omega)
  obtain ⟨a1, a2, a3⟩ := p_rd (k := 26) hR (by decide) (P := fun z => z = nI (midR g 26)) rfl
  obtain ⟨-, b2, b3⟩ := p_rd (k := 25) hR (by decide) (P := fun z => z = nI (midR g 25)) rfl
  refine ⟨hR.1.1, a1, a2, a2, b2, ?_⟩
  rw [show wI u2 (wR u2 M 0) (26 : Int32).toNatClampNeg = nI (midR g 26) from a3, m26, nI_1, hR.1.2.1.1, show (26 : Int32).toNatClampNeg = 26 from rfl, show (25 : Int32).toNatClampNeg = 25 from rfl]
  have hR2 := RS_wr hR 26 (g 26 + 1)
  have h2 := wfH_of (okWt_same o) hW.1
  have s1 := upH_wfS (okWt_wfS o hW.1 hW.2.2.1) h2 (z := g 26 + 1) (C := B + 1) (by omega)
  have e1 : sameH g (upN (midR g) 26 (g 26 + 1)) := sameH_trans (okWt_same o) (upN_same (by omega))
  refine p_upIn hR2 (wfH_of e1 hW.1) s1 hB (n := 0) (by decide) ⟨hR2.1.2.1.2.1, by rw [hR2.1.2.1.2.2]; exact vp_in_nI (n := 25) (by decide) (by decide), ?_⟩
  rw [hR2.2 25 (by decide), upN_n (j := 25) _ (by decide), m25, fa_and]
  refine hk _ (eqW_trans (eqW_trans r1 (eqW_uI (rT1 M))) (eqW_uI (rT1 M))) ?_
  rw [hourR_eq]
  exact RS_wr hR2 25 _
end HL
