/-! 70: the class turns a well and rouses a set -/
theorem q_floorMod {p h r : Nat} (hp : p < 2 ^ 24) (hh : h < 2 ^ 24) (h0 : 0 < r) (hr : r < 2 ^ 24) {K : Int32 → Wd → Prop} {w : Wd} (hk : K (nI (fmN p h r)) w) : w_J9_floorMod_7cf53 (nI p - nI h) (nI r) K w := by
  have er : (nI r).toInt = r := nI_toInt (by omega)
  have e1 : (nI p - nI h).toInt = (p : Int) - h := pk_sub_toInt (by omega) (by omega)
  have e2 : (x_irem (nI p - nI h) (nI r)).toInt = ((p : Int) - h).tmod r := by rw [irem_toInt _ _ (by omega), er, e1]
  have l1 := fmN_lt (p := p) (h := h) h0
  have n2 := Int.emod_nonneg ((p : Int) - h) (show (r : Int) ≠ 0 by omega)
  have ef : ((p : Int) - h) % (r : Int) = (fmN p h r : Int) := by unfold fmN; omega
  have p0 : (0 : Int32).toInt = 0 := by decide
  have sx : (0 ≤ (nI p - nI h) ^^^ nI r) ↔ 0 ≤ (nI p - nI h).toInt := by
    have b31 : ∀ z : Int32, (0 ≤ z) ↔ bt z 31 = false := fun z => by
      rw [fa_le, p0]
      show 0 ≤ z.toBitVec.toInt ↔ z.toBitVec.getLsbD 31 = false
      rw [BitVec.toInt_eq_msb_cond, BitVec.msb_eq_getLsbD_last]
      have := z.toBitVec.isLt
      cases e : z.toBitVec.getLsbD (32 - 1)
      · simp
      · simp; omega
    have hr31 : bt (nI r) 31 = false := (b31 _).mp (nI_pos' (by omega))
    rw [b31, b_xor, hr31, Bool.xor_false, ← b31, fa_le, p0]
  refine ⟨nI_ne0 h0 (by omega), ?_⟩
  rcases tmod_e ((p : Int) - h) (r := r) (by omega) with ⟨q1, q2⟩ | ⟨q1, q2, q3⟩ | ⟨q1, q2, q3⟩
  · refine br_t (sx.mpr (by rw [e1]; exact q1)) ?_
    rw [show x_irem (nI p - nI h) (nI r) = nI (fmN p h r) from Int32.toInt_inj.mp (by rw [e2, q2, ef, nI_toInt (by omega)])]
    exact hk
  · refine br_f (fun z => by have := sx.mp z; omega) (br_t ?_ ?_)
    · rw [fa_eq, e2, q2, p0]
    · rw [show x_irem (nI p - nI h) (nI r) = nI (fmN p h r) from Int32.toInt_inj.mp (by rw [e2, q2, nI_toInt (by omega)]; omega)]
      exact hk
  · refine br_f (fun z => by have := sx.mp z; omega) (br_f ?_ ?_)
    · rw [fa_eq, e2, p0]; omega
    · have g1 := tmod_ge ((p : Int) - h) (r := r) (by omega)
      rw [show x_irem (nI p - nI h) (nI r) + nI r = nI (fmN p h r) from Int32.toInt_inj.mp (by rw [Int32.toInt_add, e2, er, nI_toInt (by omega), bm (by omega) (by omega), q3, ef])]
      exact hk
section RR
variable {w : Wd} {r h : Nat} {g : Nat → Nat} {B : Nat} {K : Wd → Prop} {v : Nat}
theorem q_turnTo (L : LA w r h g) (hh : wfH g) (hs : wfS g 5 B) (hB : B < 2 ^ 24) (hv : v < g 1) {p : Nat} (hp : p < 2 ^ 24) (hk : K (uI w (r + 1) v (nI (fmN p (g 26) (g (27 + v)))))) : w_X2_turnTo r (nI v) (nI p) K w := by
  have h10 := hh.1.2.1
  obtain ⟨⟨h1, h2, h3, h4⟩, -⟩ := hh.2.1 v hv
  have h6 : g 26 ≤ B := hs.2.2
  have H := L.1.1.2.2
  unfold w_X2_turnTo
  rw [L.1.1.2.1]
  refine ⟨L.1.1.1, H.1, q_roundOf H (by omega) (br_f (nI_nlt (b := 1) (by omega) (by omega)) (br_f (nI_pos (by omega)) ⟨L.1.1.1, ?_⟩))⟩
  rw [L.1.2.2.1.1, L.1.2.2.1.2.2.1, L.1.2.1.1]
  refine ⟨L.1.2.2.1.2.1, br_f (nI_ge (b := 10) (by omega) (by decide)) (q_floorMod hp (by omega) (by omega) (by omega) ⟨L.1.2.2.1.2.1, by rw [L.1.2.2.1.2.2.1]; exact vp_in_nI (by omega) (by decide), ?_⟩)⟩
  rw [nI_clamp (by omega)]
  exact hk
theorem q_rouse (L : LA w r h g) (hh : wfH g) (hs : wfS g 5 B) (hB : B < 2 ^ 24) {s : Nat} (hz : s < 2 ^ g 1) (hk : ∀ u, eqW (landT r) w u → LA u r h (wakeR g s) → K u) : w_X0_rouse r (nI s) K w := by
  have h10 := hh.1.2.1
  have s10 := set_lt hh hz
  have nob : ∀ i, g 1 ≤ i → s.testBit i = false := fun i hi => Nat.testBit_lt_two_pow (Nat.lt_of_lt_of_le hz (Nat.pow_le_pow_right (by decide) hi))
  have shx : ∀ k, shR g s (g 1 + k) = shR g s (g 1) := by
    intro k
    induction k with
    | zero => rfl
    | succ k ih => rw [← Nat.add_assoc, shR_f (nob _ (by omega)), ih]
  have go : ∀ E : Nat → Int32 → Wd → Prop, (∀ u, eqW (landT r) w u → LA u r h (shR g s 10) → E r (nI s) u) → ∀ d i u, i + d = 10 → eqW (landT r) w u → LA u r h (shR g s i) → l_X0_rouse_2 E K (d + 1) r (nI s) (nI i) u := by
    intro E hE d
    induction d with
    | zero =>
      intro i u hi hw Lu
      have : i = 10 := by omega
      subst this
      exact br_t (by decide) (hE u hw Lu)
    | succ d ih =>
      intro i u hi hw Lu
      refine br_f (nI_ge (b := 10) (by omega) (by decide)) (q_has (by omega) (by omega) ?_)
      rw [nI_1]
      cases eb : s.testBit i
      · exact br_t rfl (ih (i + 1) u (by omega) hw (by rw [shR_f eb]; exact Lu))
      · have hi1 : i < g 1 := Classical.byContradiction fun z => by rw [nob i (by omega)] at eb; cases eb
        have hh' := wfH_of (shR_same (g := g) (s := s) (m := i) (by omega)) hh
        have hs' := shR_wfS (s := s) (show i ≤ g 1 by omega) hh hs
        refine br_f (by decide) ⟨Lu.1.1.1, Lu.1.1.1, q_turnTo Lu hh' hs' hB (by rw [shR_o (j := 1) (by omega)]; exact hi1) (p := 0) (by decide) ?_⟩
        refine ih (i + 1) _ (by omega) (eqW_trans hw (eqW_uI (Or.inr (Or.inl rfl)))) ?_
        have z := LA_P Lu (v := i) (fmN 0 (shR g s i 26) (shR g s i (27 + i))) (by omega)
        rw [shR_o (j := 26) (by omega), shR_o (j := 27 + i) (by omega), shR_t eb] at z
        rw [shR_o (j := 26) (by omega), shR_o (j := 27 + i) (by omega)]
        exact z
  refine ⟨10 + 1, go _ (fun u hw Lu => p_bitCount s10 ?_) 10 0 w (by omega) (eqW_refl _ _) (by rw [shR_0]; exact L)⟩
  have e10 : shR g s 10 = shR g s (g 1) := by have := shx (10 - g 1); rw [show g 1 + (10 - g 1) = 10 by omega] at this; exact this
  rw [e10] at Lu
  have hcb := cb_le s
  by_cases e : 1 < cb s
  · refine br_f (nI_nlt (b := 2) e (by omega)) ⟨Lu.1.1.1, ?_⟩
    rw [Lu.1.2.1.2, shR_o (j := 25) (by omega), fa_or]
    refine hk _ (eqW_trans hw (eqW_uI (Or.inl rfl))) ?_
    unfold wakeR
    rw [if_pos e]
    exact LA_S Lu _
  · refine br_t (nI_lt (b := 2) (by omega) (by decide)) (hk u hw ?_)
    unfold wakeR
    rw [if_neg e]
    exact Lu
end RR
