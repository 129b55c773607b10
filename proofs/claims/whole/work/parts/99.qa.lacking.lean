/-! 99.qa: the class's lacking -/
section LK
variable {w u : Wd} {B t : Nat} {g : Nat → Nat}
theorem ap_4 {k : Nat} {v : Int64} (A : ap w u g t) : ap w (uL u 244 k v) g t := by
  obtain ⟨c, ⟨h, Lu⟩, Nu⟩ := A
  have e : cx (fun t => t = 244) u (uL u 244 k v) := cx_uL rfl
  exact ⟨cx_trans c (cx_mono (fun _ z => Or.inr (Or.inr z)) e), ⟨h, LX_cx e (fun t z => aP_noH t (Or.inr (Or.inr z))) (fun t z y => by unfold landT at z; omega) Lu⟩, NS_fr (eqW_uL (T := fun t => t = 244) rfl) (by omega) Nu⟩
def aq (w u : Wd) (g : Nat → Nat) : Prop := ap w u g 41 ∧ ∀ j, j < 6 → wL u 243 j = lN (if j < g 2 then qm g j 41 else 0)
theorem aq_4 {k : Nat} {v : Int64} (A : aq w u g) : aq w (uL u 244 k v) g := ⟨ap_4 A.1, fun j hj => by rw [wL_uLn (by decide)]; exact A.2 j hj⟩
def cM (Q : Nat → Nat) (M n s : Nat) : Nat := fb_ct (fun t => (unH Q s n &&& M).testBit t) 41
def lkD (Q : Nat → Nat) (M a n s D : Nat) : Prop := (∀ s', s' < s → s' &&& (2 ^ a - 1) = 0 → cb s' ≤ cM Q M n s' + D) ∧ ∃ s', s' < s ∧ s' &&& (2 ^ a - 1) = 0 ∧ cb s' = cM Q M n s' + D
theorem lkD_no {Q : Nat → Nat} {M a n s D : Nat} (h : lkD Q M a n s D) (z : s &&& (2 ^ a - 1) = 0 → cb s ≤ cM Q M n s + D) : lkD Q M a n (s + 1) D := by
  obtain ⟨h1, s', h2, h3⟩ := h
  refine ⟨fun r hr q => ?_, s', by omega, h3⟩
  by_cases e : r = s
  · subst e; exact z q
  · exact h1 r (by omega) q
theorem lkD_up {Q : Nat → Nat} {M a n s D D' : Nat} (h : lkD Q M a n s D) (q : s &&& (2 ^ a - 1) = 0) (e : cb s = cM Q M n s + D') (l : D < D') : lkD Q M a n (s + 1) D' := by
  obtain ⟨h1, -⟩ := h
  refine ⟨fun r hr q => ?_, s, by omega, q, e⟩
  by_cases y : r = s
  · subst y; omega
  · have := h1 r (by omega) q
    omega
theorem lk_max {c1 c2 D : Nat} (h1 : c1 < 100) (h2 : c2 < 100) (h3 : D < 100) {K : Int32 → Wd → Prop} (k1 : ∀ D', c1 = c2 + D' → D < D' → K (nI D') u) (k2 : c1 ≤ c2 + D → K (nI D) u) : w_J9_max_7cf53 (nI D) (nI c1 - nI c2) K u := by
  have e := pk_sub_toInt (a := c1) (b := c2) (by omega) (by omega)
  have e2 : (nI D).toInt = (D : Int) := nI_toInt (by omega)
  constructor
  · intro h
    have h' := Int32.lt_iff_toInt_lt.mp h
    rw [e, e2] at h'
    have z : c2 ≤ c1 := by omega
    rw [pk_sub z]
    exact k1 (c1 - c2) (by omega) (by omega)
  · intro h
    refine k2 ?_
    have h' : ¬ (nI D).toInt < (nI c1 - nI c2).toInt := fun y => h (Int32.lt_iff_toInt_lt.mpr y)
    rw [e, e2] at h'
    omega
theorem q_lacking {M a : Nat} {K : Int32 → Wd → Prop} (I : INVx w B g) (hB : B + 99 < 2 ^ 24) (hM : M < 2 ^ 64) (ha : a ≤ 6) (A : aq w u g) (hk : ∀ D u', D ≤ 10 → DF (fun k t => (qm g k 41).testBit t && M.testBit t) a (g 2) D → aq w u' g → K (nI D) u') : w_X6_lacking 242 (lN M) (nI a) K u := by
  have hW := I.2.1
  have h26 := hW.1.1.2.2.1
  have p64 : 2 ^ g 2 ≤ 64 := (show 2 ^ g 2 ≤ 2 ^ 6 from Nat.pow_le_pow_right (by decide) h26)
  have p0 : 0 < 2 ^ g 2 := Nat.two_pow_pos _
  have a0 : 0 < 2 ^ a := Nat.two_pow_pos _
  have a64 : 2 ^ a ≤ 64 := (show 2 ^ a ≤ 2 ^ 6 from Nat.pow_le_pow_right (by decide) ha)
  obtain ⟨Q, hQ⟩ : ∃ Q : Nat → Nat, Q = fun k => qm g k 41 := ⟨_, rfl⟩
  have Q41 : ∀ k, Q k < 2 ^ 41 := fun k => by rw [hQ]; exact mk_lt _ 41
  have c64 : (2 : Nat) ^ 41 < 2 ^ 64 := by decide
  have go : ∀ d s D u, s + d = 2 ^ g 2 → 0 < s → D ≤ 10 → aq w u g → (∀ s', s' < s → s' &&& (2 ^ a - 1) = 0 → wL u 244 s' = lN (unH Q s' (g 2))) → lkD Q M a (g 2) s D → l_X6_lacking_20 K (d + 1) 242 (lN M) (nI (2 ^ a - 1)) (nI D) (nI s) u := by
    intro d
    induction d with
    | zero =>
      intro s D u hs h0 hD A r l
      have : s = 2 ^ g 2 := by omega
      subst this
      have Iu := ap_x I A.1
      have Pl := Iu.1.2.2.2.2.2.2.2.2.2.1
      obtain ⟨c8, ⟨h8, L8⟩, N8⟩ := A.1
      have H := L8.1.1.1.2.2
      have e2 : hrs g 41 2 = g 2 := (hrs_WF hW (k := 41) (by omega)).2 2 (by omega)
      have fin : K (nI D) u := hk D u hD (by have z := DF_num (Q := Q) (M := M) h26 ha l.1 l.2; rw [hQ] at z; exact z) A
      unfold l_X6_lacking_20
      rw [Pl.2.2.2.2.1, Pl.2.2.1, L8.1.1.1.2.1, H.2.1.2.2, e2, p_one (by omega)]
      exact ⟨Pl.1, Pl.2.2.2.2.2.1, fun _ => fin, fun _ => ⟨L8.1.1.1.1, H.1, br_t (nI_le (Nat.le_refl _) (by omega)) fin⟩⟩
    | succ d ih =>
      intro s D u hs h0 hD A r l
      have Iu := ap_x I A.1
      have Pl := Iu.1.2.2.2.2.2.2.2.2.2.1
      obtain ⟨c8, ⟨h8, L8⟩, N8⟩ := A.1
      have H := L8.1.1.1.2.2
      have e2 : hrs g 41 2 = g 2 := (hrs_WF hW (k := 41) (by omega)).2 2 (by omega)
      have n1 : (nI s + 1 : Int32) = nI (s + 1) := nI_add s 1
      unfold l_X6_lacking_20
      rw [Pl.2.2.2.2.1, Pl.2.2.2.2.2.2, Pl.2.2.1, L8.1.1.1.2.1, H.2.1.2.2, e2, p_one (by omega), fa_and, show (nI s - 1 : Int32) = nI (s - 1) from pk_sub (a := s) (b := 1) (by omega), fa_and, n1]
      refine ⟨Pl.1, Pl.2.2.2.2.2.1, br_f (nI_ge (b := 64) (by omega) (by decide)) ⟨L8.1.1.1.1, H.1, br_f (nI_ge (by omega) (by omega)) ?_⟩⟩
      have al : s &&& (2 ^ a - 1) < 2 ^ 31 := Nat.lt_of_le_of_lt Nat.and_le_left (by omega)
      by_cases q : s &&& (2 ^ a - 1) = 0
      · obtain ⟨d1, d2, d3, d4⟩ := set_d s (by omega) h0
        have sa := (set_a a ha s (by omega) q).1
        have lbn := set_n (g 2) h26 s (by omega) h0
        refine br_t (by rw [q]; rfl) ⟨vp_in_nI (by omega) (by decide), q_ntz (by omega) h0 ⟨Pl.1, q_hoursOf Iu.1 (by omega) ⟨Pl.2.2.2.2.2.1, ?_⟩⟩⟩
        rw [A.2 (lb s) (by omega), if_pos lbn, nI_clamp (by omega), nI_clamp (by omega), r _ d1 sa, wb_or (a := unH Q (s &&& (s - 1)) (g 2)) (b := qm g (lb s) 41) (Nat.lt_trans (unH_lt Q41 _) c64) (Nat.lt_trans (mk_lt _ 41) c64), show unH Q (s &&& (s - 1)) (g 2) ||| qm g (lb s) 41 = unH Q s (g 2) from by have z := unH_s (Q := Q) h26 (show s < 2 ^ g 2 by omega) h0; rw [hQ] at z ⊢; exact z, Pl.2.2.2.2.2.2]
        refine ⟨vp_in_nI (by omega) (by decide), p_bitCount (by omega) ?_⟩
        have A2 : aq w (uL u 244 s (lN (unH Q s (g 2)))) g := aq_4 A
        have r2 : ∀ s', s' < s + 1 → s' &&& (2 ^ a - 1) = 0 → wL (uL u 244 s (lN (unH Q s (g 2)))) 244 s' = lN (unH Q s' (g 2)) := fun s' h1 h2 => by
          rw [wL_uL]
          by_cases y : s' = s
          · rw [if_pos y, y]
          · rw [if_neg y]; exact r s' (by omega) h2
        have x2 : wL (uL u 244 s (lN (unH Q s (g 2)))) 244 s = lN (unH Q s (g 2)) := r2 s (by omega) q
        obtain ⟨u2, hu2⟩ : ∃ u2, u2 = uL u 244 s (lN (unH Q s (g 2))) := ⟨_, rfl⟩
        rw [← hu2] at A2 r2 x2 ⊢
        have Pl2 := (ap_x I A2.1).1.2.2.2.2.2.2.2.2.2.1
        rw [Pl2.2.2.2.2.1, Pl2.2.2.2.2.2.2, x2, wb_and (Nat.lt_trans (unH_lt Q41 _) c64) hM]
        have cbl : cb s ≤ 10 := fb_ct_le _ _
        have cml : cM Q M (g 2) s ≤ 41 := fb_ct_le _ _
        refine ⟨Pl2.1, Pl2.2.2.2.2.2.1, vp_in_nI (by omega) (by decide), p_bitCountL (Nat.lt_of_le_of_lt Nat.and_le_left (unH_lt Q41 _)) ?_⟩
        refine lk_max (c2 := cM Q M (g 2) s) (by omega) (by omega) (by omega) (fun D' z1 z2 => ?_) (fun z => ?_)
        · exact ih (s + 1) D' u2 (by omega) (by omega) (by omega) A2 r2 (lkD_up l q z1 z2)
        · exact ih (s + 1) D u2 (by omega) (by omega) hD A2 r2 (lkD_no l (fun _ => z))
      · refine br_f (fun y => q ?_) (ih (s + 1) D u (by omega) (by omega) hD A (fun s' h1 h2 => r s' ?_ h2) (lkD_no l (fun y => absurd y q)))
        · have y2 := congrArg Int32.toInt y
          rw [nI_toInt al] at y2
          have : (0 : Int32).toInt = 0 := by decide
          omega
        · by_cases y : s' = s
          · subst y; exact absurd h2 q
          · omega
  have Iu := ap_x I A.1
  have Pl := Iu.1.2.2.2.2.2.2.2.2.2.1
  unfold w_X6_lacking
  rw [Pl.2.2.2.2.1, Pl.2.2.2.2.2.2, p_one (by omega), show (nI (2 ^ a) - 1 : Int32) = nI (2 ^ a - 1) from pk_sub (a := 2 ^ a) (b := 1) (by omega)]
  refine ⟨Pl.1, Pl.2.2.2.2.2.1, vp_in_nI (n := 0) (by decide) (by decide), 2 ^ g 2 - 1 + 1, ?_⟩
  have z0 : (0 : Nat) &&& (2 ^ a - 1) = 0 := Nat.zero_and _
  have un0 : ∀ n, unH Q 0 n = 0 := fun n => by
    induction n with
    | zero => rfl
    | succ n ih =>
      show unH Q 0 n ||| (if (0 : Nat).testBit n then Q n else 0) = 0
      rw [ih, if_neg (by rw [Nat.zero_testBit]; decide)]
      rfl
  have cz : cM Q M (g 2) 0 = 0 := by
    unfold cM
    rw [un0, Nat.zero_and]
    exact fb_ct_zero.mpr (fun k _ => Nat.zero_testBit k)
  refine go (2 ^ g 2 - 1) 1 0 _ (by omega) (by decide) (by decide) (aq_4 A) (fun s' h1 h2 => ?_) ⟨fun s' h1 h2 => ?_, 0, by decide, z0, ?_⟩
  · have : s' = 0 := by omega
    subst this
    rw [wL_uL, if_pos (show 0 = Int32.toNatClampNeg 0 from rfl), un0]
    rfl
  · have : s' = 0 := by omega
    subst this
    exact Nat.zero_le _
  · rw [cz]
    decide
theorem hoursTill_M {e : Nat} (he : e < 41) {K : Int64 → Wd → Prop} (h : K (lN (2 ^ (e + 1) - 1)) u) : w_X6_hoursTill (nI e) K u := by
  unfold w_X6_hoursTill
  rw [show (nI e + 1 : Int32) = nI (e + 1) from nI_add e 1]
  have s : x_lshl 1 (nI (e + 1)) = lN (2 ^ (e + 1)) := by
    have z := wb_shl 1 (k := e + 1) (by omega)
    rw [Nat.one_mul] at z
    exact z
  rw [s, show lN (2 ^ (e + 1)) - 1 = lN (2 ^ (e + 1) - 1) from lN_sub (a := 2 ^ (e + 1)) (b := 1) (Nat.two_pow_pos _)]
  exact h
end LK
