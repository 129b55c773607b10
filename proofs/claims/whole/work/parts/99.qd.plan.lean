/-! 99.qd: the call plan -/
section PN
variable {w u z : Wd} {B : Nat} {L F : Wd → Prop} {g : Nat → Nat}
def pE (g : Nat → Nat) (e : Nat) : Prop := gM (fun k => qm g k 41) (2 ^ (e + 1) - 1) 0 (g 2)
theorem sb_HC {q : Nat → Nat} {td : Nat → Int32} {e n c : Nat} (h : c ≤ n) (hn : n ≤ 6) (d : DF (eE q td e) 0 n (n - c)) : (nI n ≤ nI c) ↔ HC (eE q td e) 0 n := by
  rw [← DF_HC d]
  constructor
  · intro z
    have y := Int32.le_iff_toInt_le.mp z
    rw [nI_toInt (by omega), nI_toInt (by omega)] at y
    omega
  · intro z
    exact nI_le (by omega) (by omega)
theorem un_pE {e : Nat} : HC (eE (fun k => qm g k 41) (fun _ => -1) e) 0 (g 2) ↔ pE g e := by
  rw [HC_eE]
  exact HC_un (fun _ _ _ => rfl)
/-- the reference's search for the least end -/
theorem p_laysPlan34 {E : Nat → Int32 → Int32 → Wd → Prop} {K : Int32 → Wd → Prop} (h26 : g 2 ≤ 6) (m : Nat) (hm : m ≤ 41) (no : ∀ e, e < m → ¬ pE g e) (yes : m < 41 → pE g m) (hE : ∀ z, kX u z g (fun k => qm g k 41) (fun _ => -1) → E 245 (nI (g 2)) (nI m) z) : ∀ d e z, e + d = m → kX u z g (fun k => qm g k 41) (fun _ => -1) → l_X12_laysPlan_34 E K (d + 1) 245 (nI (g 2)) (nI e) z := by
  intro d
  induction d with
  | zero =>
    intro e z he X
    have : e = m := by omega
    subst this
    by_cases c : e < 41
    · refine br_f (nI_nlt (a := 40) (by omega) (by decide)) ⟨X.1.2.1.1.1, p_servedBy c h26 X (fun cc z' h1 h2 X' => br_t ((sb_HC h1 h26 h2).mpr (un_pE.mpr (yes c))) (hE z' X'))⟩
    · exact br_t (nI_lt (a := 40) (by omega) (by omega)) (hE z X)
  | succ d ih =>
    intro e z he X
    refine br_f (nI_nlt (a := 40) (by omega) (by decide)) ⟨X.1.2.1.1.1, p_servedBy (by omega) h26 X (fun cc z' h1 h2 X' => br_f (fun y => no e (by omega) (un_pE.mp ((sb_HC h1 h26 h2).mp y))) ?_)⟩
    rw [show (nI e + 1 : Int32) = nI (e + 1) from nI_add e 1]
    exact ih (e + 1) z' (by omega) X'
theorem p_laysPlan13 {E : Nat → Int32 → Wd → Prop} {K : Int32 → Wd → Prop} {n : Int32} {q : Nat → Nat} (hE : ∀ z, kX u z g q (fun _ => -1) → E 245 n z) : ∀ d k td z, k + d = 6 → kX u z g q td → (∀ j, j < k → td j = -1) → l_X12_laysPlan_13 E K (d + 1) 245 n (nI k) z := by
  intro d
  induction d with
  | zero =>
    intro k td z hkk X r
    have : k = 6 := by omega
    subst this
    exact br_t (by decide) (hE z (kX_c r X))
  | succ d ih =>
    intro k td z hkk X r
    have m := m23 X.1.2.1
    unfold l_X12_laysPlan_13
    rw [m.1, m.2.2, nI_clamp (by omega), show (nI k + 1 : Int32) = nI (k + 1) from nI_add k 1]
    refine br_f (nI_ge (b := 6) (by omega) (by decide)) ⟨X.1.2.1.1.1, m.2.1, vp_in_nI (by omega) (by decide), ih (k + 1) _ _ (by omega) (kX_6 X) (fun j hj => ?_)⟩
    show (if j = k then (-1 : Int32) else td j) = -1
    by_cases e1 : j = k
    · rw [if_pos e1]
    · rw [if_neg e1]; exact r j (by omega)
theorem p_laysPlan79 {E : Nat → Int32 → Int32 → Int32 → Wd → Prop} {K : Int32 → Wd → Prop} {t : Nat → Nat} {e k : Nat} (h26 : g 2 ≤ 6) (he : e < 41) (hk : k < g 2) (T : tS (fun k => qm g k 41) t (2 ^ (e + 1) - 1) (g 2) (g 2)) (hE : ∀ z, kX u z g (fun k => qm g k 41) (tdF t (k + 1)) → E 245 (nI (g 2)) (nI e) (nI k) z) : ∀ d s z, s + d = t k → kX u z g (fun k => qm g k 41) (fun j => if j = k then nI s else tdF t k j) → l_X12_laysPlan_79 E K (d + 1) 245 (nI (g 2)) (nI e) (nI k) (nI s) z := by
  have Tk := T k hk
  have Tl : tS (fun k => qm g k 41) t (2 ^ (e + 1) - 1) (g 2) k := fun j hj => T j (by omega)
  intro d
  induction d with
  | zero =>
    intro s z hs X
    have : s = t k := by omega
    subst this
    refine ⟨X.1.2.1.1.1, p_servedBy he h26 X (fun c z' h1 h2 X' => br_t ((sb_HC h1 h26 h2).mpr ((tell_cT hk Tk.1 Tl).mpr Tk.2.1)) (hE z' (kX_c (fun j hj => ?_) X')))⟩
    show (if j = k then nI (t k) else tdF t k j) = tdF t (k + 1) j
    unfold tdF
    by_cases e1 : j = k
    · rw [if_pos e1, if_pos (by omega), e1]
    · rw [if_neg e1]
      by_cases e2 : j < k
      · rw [if_pos e2, if_pos (by omega)]
      · rw [if_neg e2, if_neg (by omega)]
  | succ d ih =>
    intro s z hs X
    refine ⟨X.1.2.1.1.1, p_servedBy he h26 X (fun c z' h1 h2 X' => br_f (fun y => Tk.2.2 s (by omega) ((tell_cT hk (by omega) Tl).mp ((sb_HC h1 h26 h2).mp y))) ?_)⟩
    have m := m23 X'.1.2.1
    rw [m.1, m.2.2, nI_clamp (by omega), show (nI s + 1 : Int32) = nI (s + 1) from nI_add s 1]
    refine ⟨X'.1.2.1.1.1, m.2.1, vp_in_nI (by omega) (by decide), ih (s + 1) _ (by omega) (kX_c (fun j hj => ?_) (kX_6 X'))⟩
    show (if j = k then nI (s + 1) else if j = k then nI s else tdF t k j) = if j = k then nI (s + 1) else tdF t k j
    by_cases e1 : j = k
    · rw [if_pos e1, if_pos e1]
    · rw [if_neg e1, if_neg e1, if_neg e1]
theorem p_laysPlan57 {K : Int32 → Wd → Prop} {t : Nat → Nat} {e : Nat} (h26 : g 2 ≤ 6) (he : e < 41) (T : tS (fun k => qm g k 41) t (2 ^ (e + 1) - 1) (g 2) (g 2)) (hK : ∀ z, kX u z g (fun k => qm g k 41) (tdF t (g 2)) → K (nI e) z) : ∀ d k z, k + d = g 2 → kX u z g (fun k => qm g k 41) (tdF t k) → l_X12_laysPlan_57 K (d + 1) 245 (nI (g 2)) (nI e) (nI k) z := by
  intro d
  induction d with
  | zero =>
    intro k z hk X
    have : k = g 2 := by omega
    subst this
    exact br_t (nI_le (Nat.le_refl _) (by omega)) (br_t (nI_le (b := 40) (by omega) (by decide)) (hK z X))
  | succ d ih =>
    intro k z hk X
    have m := m23 X.1.2.1
    unfold l_X12_laysPlan_57
    rw [m.1, m.2.2, nI_clamp (by omega)]
    refine br_f (nI_ge (by omega) (by omega)) (br_f (nI_nlt (a := 40) (by omega) (by decide)) ⟨X.1.2.1.1.1, m.2.1, vp_in_nI (by omega) (by decide), t k + 1, p_laysPlan79 h26 he (by omega) T (fun z' X' => ?_) (t k) 0 _ (by omega) (kX_6 X)⟩)
    rw [show (nI k + 1 : Int32) = nI (k + 1) from nI_add k 1]
    exact ih (k + 1) z' (by omega) X'
theorem p_laysPlan {K : Int32 → Wd → Prop} {m : Nat} (N : rq u z g) (hW : WF g B) (hB : B + 99 < 2 ^ 24) (hm : m ≤ 41) (no : ∀ e, e < m → ¬ pE g e) (yes : m < 41 → pE g m) (hy : m < 41 → ∃ t, tS (fun k => qm g k 41) t (2 ^ (m + 1) - 1) (g 2) (g 2) ∧ ∀ z, kX u z g (fun k => qm g k 41) (tdF t (g 2)) → K (nI m) z) (hn : m = 41 → ∀ z, rq u z g → K (-2) z) : w_X12_laysPlan 245 K z := by
  have h26 := hW.1.1.2.2.1
  obtain ⟨a1, a2, a3⟩ := p_rd (k := 2) N.2.1 (by omega) (P := fun z => z = nI (g 2)) rfl
  refine ⟨N.2.1.1.1, a1, a2, p_laysQuiet N hW hB (fun z N r4 => ⟨7, ?_⟩)⟩
  rw [show wI _ _ (2 : Int32).toNatClampNeg = nI (g 2) from a3]
  refine p_laysPlan13 (q := fun k => qm g k 41) (fun z X => ⟨m + 1, p_laysPlan34 h26 m hm no yes (fun z X => ?_) m 0 z (by omega) X⟩) 6 0 _ z rfl (kX_0 N r4) (fun j hj => absurd hj (Nat.not_lt_zero j))
  by_cases c : m < 41
  · obtain ⟨t, T, hK⟩ := hy c
    exact ⟨g 2 + 1, p_laysPlan57 h26 c T hK (g 2) 0 z (by omega) (kX_c (fun j _ => (if_neg (Nat.not_lt_zero j)).symm) X)⟩
  · have m41 : m = 41 := by omega
    have k2 := hn m41 z X.1
    refine ⟨1, ?_⟩
    subst m41
    exact ⟨fun _ => br_f (by decide) k2, fun _ => br_t (by decide) (br_f (by decide) k2)⟩
/-- the class's search for the least end -/
theorem q_soonest {K : Int32 → Wd → Prop} {m : Nat} (I : INVx w B g) (hB : B + 99 < 2 ^ 24) (hm : m ≤ 41) (no : ∀ e, e < m → ¬ pE g e) (yes : m < 41 → pE g m) (A : aq w u g) (hk : ∀ u', aq w u' g → K (if m < 41 then nI m else -1) u') : w_X6_soonestEnd 242 K u := by
  have go : ∀ d e u, e + d = m → aq w u g → l_X6_soonestEnd_2 K (d + 1) 242 (nI e) u := by
    intro d
    induction d with
    | zero =>
      intro e u he A
      have : e = m := by omega
      subst this
      have Pl := (ap_x I A.1).1.2.2.2.2.2.2.2.2.2.1
      by_cases c : e < 41
      · refine br_f (nI_nlt (a := 40) (by omega) (by decide)) (hoursTill_M c ⟨Pl.1, q_lacking (a := 0) I hB (Nat.lt_trans (pM c) (by decide)) (by decide) A (fun D u' hD df A' => ?_)⟩)
        have z : D = 0 := (DF_HC df).mpr (yes c)
        subst z
        have y := hk u' A'
        rw [if_pos c] at y
        exact br_t rfl y
      · have y := hk u A
        rw [if_neg c] at y
        exact br_t (nI_lt (a := 40) (by omega) (by omega)) y
    | succ d ih =>
      intro e u he A
      have Pl := (ap_x I A.1).1.2.2.2.2.2.2.2.2.2.1
      refine br_f (nI_nlt (a := 40) (by omega) (by decide)) (hoursTill_M (by omega) ⟨Pl.1, q_lacking (a := 0) I hB (Nat.lt_trans (pM (by omega)) (by decide)) (by decide) A (fun D u' hD df A' => ?_)⟩)
      rw [show (nI e + 1 : Int32) = nI (e + 1) from nI_add e 1]
      refine br_f (fun y => no e (by omega) ((DF_HC df).mp ?_)) (ih (e + 1) u' (by omega) A')
      have y2 := congrArg Int32.toInt y
      rw [nI_toInt (by omega)] at y2
      have : (0 : Int32).toInt = 0 := by decide
      omega
  exact ⟨m + 1, go m 0 u (by omega) A⟩
theorem q_firstHour {K : Int32 → Wd → Prop} {t : Nat → Nat} {k M : Nat} (I : INVx w B g) (hB : B + 99 < 2 ^ 24) (hM : M < 2 ^ 41) (hk : k < g 2) (T : tS (fun k => qm g k 41) t M (g 2) (g 2)) (A : aq w u g) (hK : ∀ u', aq w u' g → K (nI (t k)) u') : w_X6_firstHourFor 242 (nI k) (lN (mT t M k)) K u := by
  have h26 := I.2.1.1.1.2.2.1
  have Tk := T k hk
  have l1 : qm g k 41 < 2 ^ 41 := mk_lt _ 41
  have l2 : mT t M k < 2 ^ 41 := mT_lt hM k
  have c64 : (2 : Nat) ^ 41 < 2 ^ 64 := by decide
  have go : ∀ d s u, s + d = t k → aq w u g → l_X6_firstHourFor_3 K (d + 1) 242 (nI k) (lN (mT t M k)) (nI s) u := by
    intro d
    induction d with
    | zero =>
      intro s u hs A
      have : s = t k := by omega
      subst this
      have Iu := ap_x I A.1
      have Pl := Iu.1.2.2.2.2.2.2.2.2.2.1
      refine br_f (nI_nlt (a := 40) (by omega) (by decide)) ⟨Pl.1, q_hoursOf Iu.1 (by omega) ?_⟩
      rw [A.2 k (by omega), if_pos hk]
      refine br_f (fun y => (bit_w l1 l2 Tk.1).mp y Tk.2.1.1) (br_f (by decide) ⟨Pl.1, ?_⟩)
      rw [dB_w l2 Tk.1, show (nI k + 1 : Int32) = nI (k + 1) from nI_add k 1]
      refine q_lacking I hB (Nat.lt_trans (dB_lt _ _) c64) (by omega) A (fun D u' hD df A' => ?_)
      have z : D = 0 := (DF_HC df).mpr Tk.2.1.2
      subst z
      exact br_t rfl (hK u' A')
    | succ d ih =>
      intro s u hs A
      have Iu := ap_x I A.1
      have Pl := Iu.1.2.2.2.2.2.2.2.2.2.1
      have n1 : (nI s + 1 : Int32) = nI (s + 1) := nI_add s 1
      have no := Tk.2.2 s (by omega)
      refine br_f (nI_nlt (a := 40) (by omega) (by decide)) ⟨Pl.1, q_hoursOf Iu.1 (by omega) ?_⟩
      rw [A.2 k (by omega), if_pos hk]
      by_cases c : (qm g k 41).testBit s = true ∧ (mT t M k).testBit s = true
      · refine br_f (fun y => (bit_w l1 l2 (by omega)).mp y c) (br_f (by decide) ⟨Pl.1, ?_⟩)
        rw [dB_w l2 (by omega), show (nI k + 1 : Int32) = nI (k + 1) from nI_add k 1, n1]
        refine q_lacking I hB (Nat.lt_trans (dB_lt _ _) c64) (by omega) A (fun D u' hD df A' => ?_)
        refine br_f (fun y => no ⟨c, (DF_HC df).mp ?_⟩) (ih (s + 1) u' (by omega) A')
        have y2 := congrArg Int32.toInt y
        rw [nI_toInt (by omega)] at y2
        have : (0 : Int32).toInt = 0 := by decide
        omega
      · refine br_t ((bit_w l1 l2 (by omega)).mpr c) (br_t rfl ?_)
        rw [n1]
        exact ih (s + 1) u (by omega) A
  exact ⟨t k + 1, go (t k) 0 u (by omega) A⟩
theorem q_hourInPlan {K : Int32 → Wd → Prop} {t : Nat → Nat} {k e : Nat} (I : INVx w B g) (hB : B + 99 < 2 ^ 24) (he : e < 41) (hk : k < g 2) (T : tS (fun k => qm g k 41) t (2 ^ (e + 1) - 1) (g 2) (g 2)) (A : aq w u g) (hK : ∀ u', aq w u' g → K (nI (t k)) u') : w_X6_hourInPlan 242 (nI k) (nI e) K u := by
  have h26 := I.2.1.1.1.2.2.1
  have go : ∀ d j x u, j + d = k + 1 → (d = 0 → x = nI (t k)) → aq w u g → l_X6_hourInPlan_11 K (d + 1) 242 (nI k) (lN (mT t (2 ^ (e + 1) - 1) j)) x (nI j) u := by
    intro d
    induction d with
    | zero =>
      intro j x u hj hx A
      have : j = k + 1 := by omega
      subst this
      rw [hx rfl]
      exact br_t (nI_lt (by omega) (by omega)) (hK u A)
    | succ d ih =>
      intro j x u hj hx A
      have Pl := (ap_x I A.1).1.2.2.2.2.2.2.2.2.2.1
      have Tj := T j (by omega)
      refine br_f (nI_nlt (by omega) (by omega)) (br_f (nI_ge (b := 6) (by omega) (by decide)) ⟨Pl.1, q_firstHour I hB (pM he) (by omega) T A (fun u' A' => ?_)⟩)
      rw [dB_w (mT_lt (pM he) j) Tj.1, show (nI j + 1 : Int32) = nI (j + 1) from nI_add j 1]
      refine br_t (nI_le (a := 0) (by omega) (by omega)) (ih (j + 1) _ u' (by omega) (fun d0 => ?_) A')
      have : j = k := by omega
      rw [this]
  exact hoursTill_M he ⟨k + 1 + 1, go (k + 1) 0 _ u (by omega) (fun z => by omega) A⟩
theorem least_41 (P : Nat → Prop) : ∃ m, m ≤ 41 ∧ (∀ e, e < m → ¬ P e) ∧ (m < 41 → P m) := by
  by_cases c : ∃ e, e < 41 ∧ P e
  · obtain ⟨e, he, pe⟩ := c
    obtain ⟨r, h1, h2, h3⟩ := least_ex e pe
    exact ⟨r, by omega, h3, fun _ => h2⟩
  · exact ⟨41, Nat.le_refl _, fun e he pe => c ⟨e, he, pe⟩, fun h => absurd h (Nat.lt_irrefl _)⟩
end PN
