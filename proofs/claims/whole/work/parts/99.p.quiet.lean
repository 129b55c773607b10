/-! 99.p: a quiet well for a house: in one hour, and in which hours -/
noncomputable def qfF (g : Nat → Nat) (h : Nat) : Nat → Nat → Int32
  | 0, _ => -1
  | d + 1, v => if ((g (73 + h)).testBit v && qz g v (g (67 + h))) = true then nI v else qfF g h d (v + 1)
noncomputable def qf (g : Nat → Nat) (h : Nat) : Int32 := qfF g h (g 1) 0
noncomputable def qm (g : Nat → Nat) (h : Nat) (t : Nat) : Nat := mk (fun i => !decide (qf (hrs g i) h = -1)) t
theorem lq_or (p : Nat → Bool) {t : Nat} (ht : t < 63) : lN (mk p t) ||| x_lshl 1 (nI t) = lN (mk p t + 2 ^ t) := by
  have e : x_lshl 1 (nI t) = lN (2 ^ t) := by
    have z := wb_shl 1 (k := t) (by omega)
    rw [Nat.one_mul] at z
    exact z
  have a := mk_lt p t
  have b : 2 ^ t < 2 ^ 64 := Nat.pow_lt_pow_right (by decide) (by omega)
  rw [e, wb_or (Nat.lt_trans a b) b, Nat.or_comm]
  have z := Nat.two_pow_add_eq_or_of_lt a 1
  rw [Nat.mul_one] at z
  rw [← z, Nat.add_comm]
section QF
variable {w u : Wd} {B : Nat} {G : Nat → Nat}
theorem nT_SH (S : SH w) (e : eqW (nT 85) w u) : SH u := SH_t (cx_eqW e) (fun t z => by have := nT_nA z; unfold nA at this; omega) (LdS_cx (cx_eqW e) (fun z => by have := nT_nA z; unfold nA at this; omega) S.2.2.2.2.1) (NS_fr e (q_nT 85).1 S.2.2.2.2.2.1) S
theorem q_qnow {h k : Nat} {K : Int32 → Wd → Prop} (S : SH w) (L : LX w 82 h G) (P : NP w 85 82 G 0) (hW : WF G B) (hk2 : k < G 2) (hk : ∀ u, eqW (nT 85) w u → K (qf G k) u) : w_X6_quietWellNow 242 (nI k) K w := by
  have h10 := hW.1.1.2.1
  have h26 := hW.1.1.2.2.1
  obtain ⟨n1, n2, n3⟩ := hW.1.2.2 k hk2
  have fs := set_lt hW.1 n3
  have H := L.1.1.1.2.2
  have Pl := S.2.2.2.2.2.2.2.2.2.1
  have go : ∀ d v u, v + d = 10 → eqW (nT 85) w u → qfF G k (G 1 - v) v = qf G k → l_X6_quietWellNow_27 K (d + 1) 242 (nI (G (73 + k))) (nI (G (67 + k))) (nI v) u := by
    intro d
    induction d with
    | zero =>
      intro v u hv e q
      have : v = 10 := by omega
      subst this
      rw [show G 1 - 10 = 0 by omega] at q
      have z := hk u e
      rw [← q] at z
      exact br_t (by decide) z
    | succ d ih =>
      intro v u hv e q
      have Su := nT_SH S e
      have Plu := Su.2.2.2.2.2.2.2.2.2.1
      have Lu : LX u 82 h G := LX_cx (cx_eqW e) (fun t z => by have := nT_nA z; unfold nA at this; omega) (fun t z y => by unfold landT at z; have := nT_nA y; unfold nA at this; omega) L
      have Pu := NP_fr e P
      refine br_f (nI_ge (b := 10) (by omega) (by decide)) (q_has (by omega) (by omega) ?_)
      rw [show (nI v + 1 : Int32) = nI (v + 1) from nI_add v 1]
      by_cases c : v < G 1
      · have st : qfF G k (G 1 - v) v = if ((G (73 + k)).testBit v && qz G v (G (67 + k))) = true then nI v else qfF G k (G 1 - (v + 1)) (v + 1) := by
          rw [show G 1 - v = (G 1 - (v + 1)) + 1 by omega]
          rfl
        cases tb : (G (73 + k)).testBit v
        · rw [st, tb, Bool.false_and, if_neg (by decide)] at q
          exact br_t rfl (ih (v + 1) u (by omega) e q)
        · rw [st, tb, Bool.true_and] at q
          have off : qz G v (G (67 + k)) = false → ∀ u', eqW (nT 85) w u' → l_X6_quietWellNow_27 K (d + 1) 242 (nI (G (73 + k))) (nI (G (67 + k))) (nI (v + 1)) u' := fun z u' e' => by
            rw [z, if_neg (by decide)] at q
            exact ih (v + 1) u' (by omega) e' q
          have wl := whyD_le G v ((G (67 + k) : Nat) : Int)
          rw [Plu.2.2.1]
          refine br_f (by decide) ⟨Plu.1, Lu.1.1.1.1, q_whyD Lu.1.1 hW ?_⟩
          rw [nI_toInt (by omega), nI_toInt (by omega)]
          by_cases c1 : whyD G v ((G (67 + k) : Nat) : Int) = 0
          · rw [Plu.2.1]
            refine br_t (by rw [c1]; rfl) ⟨Plu.1, Pu.1.1, q_once Pu.1 Pu.2.1 Pu.2.2.1 Lu.1 hW (LX_nT Lu (by omega)) c (by omega) (fun u' e' => ?_)⟩
            have e2 := eqW_trans e e'
            by_cases o : once G v (G (67 + k)) = 0
            · rw [show qz G v (G (67 + k)) = true from decide_eq_true ⟨c1, o⟩, if_pos rfl] at q
              have z := hk u' e2
              rw [← q] at z
              exact br_t (by rw [o]; rfl) z
            · exact br_f (nI_ne0 (by omega) (by have := set_lt hW.1 (show once G v (G (67 + k)) < 2 ^ G 1 from mk_lt _ _); omega)) (off (decide_eq_false (fun z => o z.2)) u' e2)
          · exact br_f (nI_ne0 (by omega) (by omega)) (off (decide_eq_false (fun z => c1 z.1)) u e)
      · have tb : (G (73 + k)).testBit v = false := Nat.testBit_lt_two_pow (Nat.lt_of_lt_of_le n3 (Nat.pow_le_pow_right (by decide) (by omega)))
        rw [tb]
        rw [show G 1 - v = 0 by omega] at q
        exact br_t rfl (ih (v + 1) u (by omega) e (by rw [show G 1 - (v + 1) = 0 by omega]; exact q))
  unfold w_X6_quietWellNow
  rw [Pl.2.2.1, L.1.1.1.2.1]
  refine ⟨Pl.1, L.1.1.1.1, H.1, q_fromOf H (by omega) ⟨Pl.1, ?_⟩⟩
  rw [Pl.2.2.1, L.1.1.1.2.1]
  exact ⟨L.1.1.1.1, H.1, q_needOf H (by omega) ⟨11, go 10 0 w rfl (eqW_refl _ _) rfl⟩⟩
theorem p_isQuiet {v n : Nat} {K : Int32 → Wd → Prop} (R : RS w 245 G) (hW : WF G B) (hv : v < G 1) (hn : n ≤ 99) (hk : K (b2i (qz G v n)) w) (hk2 : ∀ f, K (b2i (qz G v n)) (sI w (245 + 6) f)) : w_X12_isQuiet 245 (nI v) (nI n) K w := by
  have h10 := hW.1.1.2.1
  have wl := whyD_le G v n
  refine ⟨R.1.1, p_whyDraw R hW ?_⟩
  rw [i64_32, i64_32, nI_toInt (by omega), nI_toInt (by omega)]
  by_cases c : whyD G v n = 0
  · refine br_t (by rw [c]; rfl) ⟨R.1.1, p_chainOf R hW hv hn (fun f => ?_)⟩
    have y := hk2 f
    have oc := once_clo (n := n) (whyD_up c)
    by_cases d : clo G v n 0 = 0
    · rw [show qz G v n = true from decide_eq_true ⟨c, oc.mpr d⟩] at y
      exact br_t (by rw [d]; rfl) y
    · rw [show qz G v n = false from decide_eq_false (fun q => d (oc.mp q.2))] at y
      exact br_f (nI_ne0 (by omega) (by have := set_lt hW.1 (clo_lt G v n 0); omega)) y
  · have y := hk
    rw [show qz G v n = false from decide_eq_false (fun q => c q.1)] at y
    exact br_f (nI_ne0 (by omega) (by omega)) y
theorem p_quietFor {k : Nat} {K : Int32 → Wd → Prop} (R : RS w 245 G) (hW : WF G B) (hk2 : k < G 2) (hk : ∀ z, eqW (fun t => t = 251) w z → RS z 245 G → K (qf G k) z) : w_X12_quietFor 245 (nI k) K w := by
  have h10 := hW.1.1.2.1
  have h26 := hW.1.1.2.2.1
  obtain ⟨n1, n2, n3⟩ := hW.1.2.2 k hk2
  have fs := set_lt hW.1 n3
  have go : ∀ d v z, v + d = G 1 → eqW (fun t => t = 251) w z → RS z 245 G → qfF G k (G 1 - v) v = qf G k → l_X12_quietFor_2 K (d + 1) 245 (nI k) (nI v) z := by
    intro d
    induction d with
    | zero =>
      intro v z hv e R q
      have : v = G 1 := by omega
      subst this
      rw [Nat.sub_self] at q
      have y := hk z e R
      rw [← q] at y
      exact ⟨R.1.1, p_wells R (br_t (nI_le (Nat.le_refl _) (by omega)) y)⟩
    | succ d ih =>
      intro v z hv e R q
      have st : qfF G k (G 1 - v) v = if ((G (73 + k)).testBit v && qz G v (G (67 + k))) = true then nI v else qfF G k (G 1 - (v + 1)) (v + 1) := by
        rw [show G 1 - v = (G 1 - (v + 1)) + 1 by omega]
        rfl
      rw [st] at q
      obtain ⟨a1, a2, a3⟩ := p_rd (k := 73 + k) R (by omega) (P := fun z => z = nI (G (73 + k))) rfl
      obtain ⟨-, a5, a6⟩ := p_rd (k := 67 + k) R (by omega) (P := fun z => z = nI (G (67 + k))) rfl
      refine ⟨R.1.1, p_wells R (br_f (nI_ge (by omega) (by omega)) ⟨R.1.1, ?_⟩)⟩
      rw [show (73 + nI k : Int32) = nI (73 + k) from nI_add 73 k, show (67 + nI k : Int32) = nI (67 + k) from nI_add 67 k, a3]
      refine ⟨a1, a2, p_xhas (by omega) (by omega) ?_⟩
      rw [a6, show (nI v + 1 : Int32) = nI (v + 1) from nI_add v 1]
      cases tb : (G (73 + k)).testBit v
      · rw [tb, Bool.false_and, if_neg (by decide)] at q
        exact br_t rfl (ih (v + 1) z (by omega) e R q)
      · rw [tb, Bool.true_and] at q
        have fin : ∀ z', eqW (fun t => t = 251) w z' → RS z' 245 G → (b2i (qz G v (G (67 + k))) = 0 → l_X12_quietFor_2 K (d + 1) 245 (nI k) (nI (v + 1)) z') ∧ (¬ b2i (qz G v (G (67 + k))) = 0 → K (nI v) z') := fun z' e' R' => by
          cases qq : qz G v (G (67 + k))
          · rw [qq, if_neg (by decide)] at q
            exact br_t rfl (ih (v + 1) z' (by omega) e' R' q)
          · rw [qq, if_pos rfl] at q
            have y := hk z' e' R'
            rw [← q] at y
            exact br_f (by decide) y
        exact br_f (by decide) ⟨R.1.1, a1, a5, p_isQuiet R hW (by omega) (by omega) (fin z e R) (fun f => fin _ (eqW_trans e (eqW_sI rfl)) (RSs R (by omega) f))⟩
  exact ⟨G 1 + 1, go (G 1) 0 w (by omega) (eqW_refl _ _) R rfl⟩
end QF
