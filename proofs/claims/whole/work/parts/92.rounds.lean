/-! 92: the class's rounds over a set: who is awake in an hour -/
/-- whether a well's round has a row of its own, and which -/
def cls (g : Nat → Nat) (v : Nat) : Nat := if g (27 + v) = 7 then 1 else if g (27 + v) = 11 then 2 else 0
/-- of a set's first i wells of a sort, how many are awake in t hours -/
def rct (g : Nat → Nat) (s c t i : Nat) : Nat := fb_ct (fun v => s.testBit v && decide (cls g v = c) && upb g t v) i
theorem rct_le (g : Nat → Nat) (s c t i : Nat) : rct g s c t i ≤ i := fb_ct_le _ _
theorem rct_s (g : Nat → Nat) (s c t i : Nat) : rct g s c t (i + 1) = rct g s c t i + (if (s.testBit i && decide (cls g i = c) && upb g t i) then 1 else 0) := rfl
/-- what rounds.over() leaves -/
def RD (u : Wd) (g : Nat → Nat) (s : Nat) : Prop := (wI u 67 3 = nI (pS g s (g 1)).1 ∧ wI u 67 4 = nI (pS g s (g 1)).2.1 ∧ wI u 67 5 = nI (pS g s (g 1)).2.2) ∧ (∀ k, k < (pS g s (g 1)).1 → wI u 68 k = nI (rct g s 0 k (g 1))) ∧ (∀ k, k < (pS g s (g 1)).2.1 → wI u 69 k = nI (rct g s 1 k (g 1))) ∧ ∀ k, k < (pS g s (g 1)).2.2 → wI u 70 k = nI (rct g s 2 k (g 1))
def PR (u : Wd) (p : Nat × Nat × Nat) : Prop := wI u 67 3 = nI p.1 ∧ wI u 67 4 = nI p.2.1 ∧ wI u 67 5 = nI p.2.2
def RW (u : Wd) (g : Nat → Nat) (s : Nat) (p : Nat × Nat × Nat) (i : Nat) : Prop := (∀ k, k < p.1 → wI u 68 k = nI (rct g s 0 k i)) ∧ (∀ k, k < p.2.1 → wI u 69 k = nI (rct g s 1 k i)) ∧ ∀ k, k < p.2.2 → wI u 70 k = nI (rct g s 2 k i)
section RV
variable {w : Wd} {B : Nat} {g : Nat → Nat} {s : Nat}
theorem rRd (I : INVx w B g) {u : Wd} (h : rd w u) : RdS u := (rd_x I h).1.2.2.1
theorem q_addWell {u : Wd} {i : Nat} {p : Nat × Nat × Nat} {n : Nat} {K : Wd → Prop} (I : INVx w B g) (hu : rd w u) (hi : i < g 1) (hs : s.testBit i = true) (hp : pOK p n) (P : PR u p) (R : RW u g s p i) (hk : ∀ u', rd w u' → PR u' p → RW u' g s p (i + 1) → K u') : w_X8_addWell 67 92 (nI i) K u := by
  have hW := I.2.1
  have h10 := hW.1.1.2.1
  obtain ⟨h, Lx, -, -⟩ := x_P (rd_x I hu)
  have rS := rRd I hu
  obtain ⟨⟨r1, r2, -, -⟩, -⟩ := hW.1.2.1 i hi
  have H := Lx.1.1.1.2.2
  obtain ⟨⟨p1, p2, p3⟩, p4, p5, p6⟩ := hp
  have o7 : (Int32.ofNat 7 : Int32) = nI 7 := rfl
  have o11 : (Int32.ofNat 11 : Int32) = nI 11 := rfl
  have keep : ∀ t, t ≠ 67 → ∀ u', eqW (fun r => r = t) u u' → PR u' p := fun t ht u' e => by
    have f := (e.2.2.2 67 (fun z => ht z.symm)).1
    exact ⟨by rw [f]; exact P.1, by rw [f]; exact P.2.1, by rw [f]; exact P.2.2⟩
  have sk : ∀ c t, cls g i ≠ c → rct g s c t (i + 1) = rct g s c t i := fun c t hc => by
    rw [rct_s, decide_eq_false hc]
    simp
  have st : ∀ c t, cls g i = c → rct g s c t (i + 1) = rct g s c t i + (if upb g t i then 1 else 0) := fun c t hc => by
    rw [rct_s, decide_eq_true hc, hs]
    rfl
  unfold w_X8_addWell
  rw [Lx.1.1.1.2.1]
  refine ⟨Lx.1.1.1.1, H.1, q_roundOf H (by omega) ⟨rS.1, ?_⟩⟩
  rw [rS.2.2.1.1, rS.2.2.1.2.2, rS.2.2.2.1, rS.2.2.2.2.2, rS.2.1.1, P.1, P.2.1, P.2.2, o7, o11]
  refine ⟨rS.2.2.1.2.1, ?_⟩
  by_cases c7 : g (27 + i) = 7
  · have ci : cls g i = 1 := by unfold cls; rw [if_pos c7]
    refine br_t (by rw [c7]) (q_addTo I hu (by omega) (by decide) rS.2.2.1.2.1 rS.2.2.1.2.2 (by omega) hi R.2.1 (fun u' hu' e h1 => hk u' hu' (keep 69 (by decide) u' e) ⟨fun k hk' => ?_, fun k hk' => ?_, fun k hk' => ?_⟩))
    · rw [(e.2.2.2 68 (by omega)).1, sk 0 k (by omega)]; exact R.1 k hk'
    · rw [h1 k hk', st 1 k ci]
    · rw [(e.2.2.2 70 (by omega)).1, sk 2 k (by omega)]; exact R.2.2 k hk'
  refine br_f (fun z => c7 ((nI_eq (by omega) (by decide)).mp z)) ⟨rS.2.2.2.2.1, ?_⟩
  by_cases c11 : g (27 + i) = 11
  · have ci : cls g i = 2 := by unfold cls; rw [if_neg c7, if_pos c11]
    refine br_t (by rw [c11]) (q_addTo I hu (by omega) (by decide) rS.2.2.2.2.1 rS.2.2.2.2.2 (by omega) hi R.2.2 (fun u' hu' e h1 => hk u' hu' (keep 70 (by decide) u' e) ⟨fun k hk' => ?_, fun k hk' => ?_, fun k hk' => ?_⟩))
    · rw [(e.2.2.2 68 (by omega)).1, sk 0 k (by omega)]; exact R.1 k hk'
    · rw [(e.2.2.2 69 (by omega)).1, sk 1 k (by omega)]; exact R.2.1 k hk'
    · rw [h1 k hk', st 2 k ci]
  have ci : cls g i = 0 := by unfold cls; rw [if_neg c7, if_neg c11]
  refine br_f (fun z => c11 ((nI_eq (by omega) (by decide)).mp z)) ⟨rS.2.1.2.1, q_addTo I hu (by omega) (by decide) rS.2.1.2.1 rS.2.1.2.2 (by omega) hi R.1 (fun u' hu' e h1 => hk u' hu' (keep 68 (by decide) u' e) ⟨fun k hk' => ?_, fun k hk' => ?_, fun k hk' => ?_⟩)⟩
  · rw [h1 k hk', st 0 k ci]
  · rw [(e.2.2.2 69 (by omega)).1, sk 1 k (by omega)]; exact R.2.1 k hk'
  · rw [(e.2.2.2 70 (by omega)).1, sk 2 k (by omega)]; exact R.2.2 k hk'
theorem rnd_ok (hW : WF g B) : ∀ v, v < g 1 → s.testBit v = true → 2 ≤ g (27 + v) ∧ g (27 + v) ≤ 12 := fun v hv _ => ⟨(hW.1.2.1 v hv).1.1, (hW.1.2.1 v hv).1.2.1⟩
theorem q_widen {u : Wd} {i : Nat} {K : Wd → Prop} (I : INVx w B g) (hu : rd w u) (hi : i < g 1) (hs : s.testBit i = true) (P : PR u (pS g s i)) (hk : ∀ u', rd w u' → PR u' (pS g s (i + 1)) → K u') : w_X8_widen 67 (nI (g (27 + i))) K u := by
  have hW := I.2.1
  have rS := rRd I hu
  obtain ⟨⟨r1, r2, -, -⟩, -⟩ := hW.1.2.1 i hi
  obtain ⟨⟨p1, p2, p3⟩, p4, p5, p6⟩ := pS_ok (g := g) (s := s) i (fun v hv => rnd_ok hW v (by omega))
  have o7 : (Int32.ofNat 7 : Int32) = nI 7 := rfl
  have o11 : (Int32.ofNat 11 : Int32) = nI 11 := rfl
  have t67 : rdT 67 := by unfold rdT; omega
  have ep : pS g s (i + 1) = if g (27 + i) = 7 then ((pS g s i).1, 7, (pS g s i).2.2) else if g (27 + i) = 11 then ((pS g s i).1, (pS g s i).2.1, 11) else (Nat.lcm (pS g s i).1 (g (27 + i)), (pS g s i).2.1, (pS g s i).2.2) := by show (if s.testBit i = true then _ else _) = _; rw [if_pos hs]
  rw [ep] at hk
  unfold w_X8_widen
  rw [rS.2.2.1.1, rS.2.2.1.2.2, rS.2.2.2.1, rS.2.2.2.2.2, P.1, o7, o11]
  refine ⟨rS.1, rS.2.2.1.2.1, ?_⟩
  by_cases c7 : g (27 + i) = 7
  · rw [if_pos c7] at hk
    refine br_t (by rw [c7]) (hk _ (rd_uI hu t67) ⟨?_, ?_, ?_⟩)
    · rw [wI_uI, if_neg (by decide)]; exact P.1
    · rw [wI_uI, if_pos rfl, c7]
    · rw [wI_uI, if_neg (by decide)]; exact P.2.2
  rw [if_neg c7] at hk
  refine br_f (fun z => c7 ((nI_eq (by omega) (by decide)).mp z)) ⟨rS.2.2.2.2.1, ?_⟩
  by_cases c11 : g (27 + i) = 11
  · rw [if_pos c11] at hk
    refine br_t (by rw [c11]) (hk _ (rd_uI hu t67) ⟨?_, ?_, ?_⟩)
    · rw [wI_uI, if_neg (by decide)]; exact P.1
    · rw [wI_uI, if_neg (by decide)]; exact P.2.1
    · rw [wI_uI, if_pos rfl, c11]
  rw [if_neg c11] at hk
  refine br_f (fun z => c11 ((nI_eq (by omega) (by decide)).mp z)) (q_lc p2 p1 p3 (by omega) r1 ⟨rS.1, hk _ (rd_uI hu t67) ⟨?_, ?_, ?_⟩⟩)
  · rw [wI_uI, if_pos rfl]
  · rw [wI_uI, if_neg (by decide)]; exact P.2.1
  · rw [wI_uI, if_neg (by decide)]; exact P.2.2
theorem pS_sk {i : Nat} (h : s.testBit i = false) : pS g s (i + 1) = pS g s i := by show (if s.testBit i = true then _ else _) = _; rw [if_neg (by rw [h]; decide)]
theorem q_rover {K : Wd → Prop} (I : INVx w B g) (hs : s < 2 ^ g 1) (hk : ∀ u, rd w u → RD u g s → K u) : w_X8_over 67 92 (nI s) K w := by
  have hW := I.2.1
  have h10 := hW.1.1.2.1
  have s10 := set_lt hW.1 hs
  have t67 : rdT 67 := by unfold rdT; omega
  have pok := pS_ok (g := g) (s := s) (g 1) (rnd_ok hW)
  have rn : ∀ t u u', 68 ≤ t ∧ t ≤ 70 → rd w u → eqW (fun r => r = t) u u' → wR u' = wR u → rd w u' := fun t u u' ht h e hR => ⟨eqW_trans h.1 (eqW_mono (fun r z => by subst z; unfold rdT; omega) e), hR.trans h.2⟩
  refine ⟨I.1.2.2.1.1, g 1 + 1, ?_⟩
  have go : ∀ E : Nat → Nat → Int32 → Wd → Prop, ∀ KK, (∀ u, rd w u → PR u (pS g s (g 1)) → E 67 92 (nI s) u) → ∀ d i u, i + d = g 1 → rd w u → PR u (pS g s i) → l_X8_over_17 E KK (d + 1) 67 92 (nI s) (nI i) u := by
    intro E KK hE d
    induction d with
    | zero =>
      intro i u hi hu P
      have : i = g 1 := by omega
      subst this
      obtain ⟨h, Lx, -, -⟩ := x_P (rd_x I hu)
      unfold l_X8_over_17
      rw [Lx.1.1.1.2.1, Lx.1.1.1.2.2.2.1.2.1]
      exact ⟨Lx.1.1.1.1, Lx.1.1.1.2.2.1, br_t (nI_le (Nat.le_refl _) (by omega)) (hE u hu P)⟩
    | succ d ih =>
      intro i u hi hu P
      obtain ⟨h, Lx, -, -⟩ := x_P (rd_x I hu)
      unfold l_X8_over_17
      rw [Lx.1.1.1.2.1, Lx.1.1.1.2.2.2.1.2.1]
      refine ⟨Lx.1.1.1.1, Lx.1.1.1.2.2.1, br_f (nI_ge (by omega) (by omega)) (q_has (by omega) (by omega) ?_)⟩
      rw [nI_1]
      cases e : s.testBit i
      · exact br_t rfl (ih (i + 1) u (by omega) hu (by rw [pS_sk e]; exact P))
      · refine br_f (by decide) ⟨Lx.1.1.1.1, ?_⟩
        rw [Lx.1.1.1.2.1]
        exact ⟨Lx.1.1.1.2.2.1, q_roundOf Lx.1.1.1.2.2 (by omega) ⟨(rRd I hu).1, q_widen I hu (by omega) e P (fun u' hu' P' => ih (i + 1) u' (by omega) hu' P')⟩⟩
  refine go _ _ (fun u hu P => ?_) (g 1) 0 _ (by omega) (rd_uI (rd_uI (rd_uI (rd_refl w) t67) t67) t67) ⟨?_, ?_, ?_⟩
  · have r0 := rRd I hu
    rw [r0.2.1.1]
    refine ⟨r0.1, r0.2.1.2.1, q_clear (by unfold rdT; omega) (by decide) r0.2.1.2.1 r0.2.1.2.2 (fun u1 e1 R1 z1 => ?_)⟩
    have hu1 := rn 68 _ _ (by omega) hu e1 R1
    have r1 := rRd I hu1
    rw [r1.2.2.1.1]
    refine ⟨r1.1, r1.2.2.1.2.1, q_clear (by unfold rdT; omega) (by decide) r1.2.2.1.2.1 r1.2.2.1.2.2 (fun u2 e2 R2 z2 => ?_)⟩
    have hu2 := rn 69 _ _ (by omega) hu1 e2 R2
    have r2 := rRd I hu2
    rw [r2.2.2.2.1]
    refine ⟨r2.1, r2.2.2.2.2.1, q_clear (by unfold rdT; omega) (by decide) r2.2.2.2.2.1 r2.2.2.2.2.2 (fun u3 e3 R3 z3 => ⟨g 1 + 1, ?_⟩)⟩
    have hu3 := rn 70 _ _ (by omega) hu2 e3 R3
    obtain ⟨⟨p1, p2, p3⟩, p4, p5, p6⟩ := pok
    have P3 : PR u3 (pS g s (g 1)) := by
      have f : wI u3 67 = wI u 67 := ((e3.2.2.2 67 (by omega)).1.trans (e2.2.2.2 67 (by omega)).1).trans (e1.2.2.2 67 (by omega)).1
      exact ⟨by rw [f]; exact P.1, by rw [f]; exact P.2.1, by rw [f]; exact P.2.2⟩
    have W3 : RW u3 g s (pS g s (g 1)) 0 := by
      refine ⟨fun k hk' => ?_, fun k hk' => ?_, fun k hk' => ?_⟩
      · rw [(e3.2.2.2 68 (by omega)).1, (e2.2.2.2 68 (by omega)).1, z1 k (by omega)]; rfl
      · rw [(e3.2.2.2 69 (by omega)).1, z2 k (by omega)]; rfl
      · rw [z3 k (by omega)]; rfl
    have g2 : ∀ d i u, i + d = g 1 → rd w u → PR u (pS g s (g 1)) → RW u g s (pS g s (g 1)) i → l_X8_over_77 K (d + 1) 67 92 (nI s) (nI i) u := by
      intro d
      induction d with
      | zero =>
        intro i u hi hu P R
        have : i = g 1 := by omega
        subst this
        obtain ⟨h, Lx, -, -⟩ := x_P (rd_x I hu)
        unfold l_X8_over_77
        rw [Lx.1.1.1.2.1, Lx.1.1.1.2.2.2.1.2.1]
        exact ⟨Lx.1.1.1.1, Lx.1.1.1.2.2.1, br_t (nI_le (Nat.le_refl _) (by omega)) (hk u hu ⟨P, R⟩)⟩
      | succ d ih =>
        intro i u hi hu P R
        obtain ⟨h, Lx, -, -⟩ := x_P (rd_x I hu)
        unfold l_X8_over_77
        rw [Lx.1.1.1.2.1, Lx.1.1.1.2.2.2.1.2.1]
        refine ⟨Lx.1.1.1.1, Lx.1.1.1.2.2.1, br_f (nI_ge (by omega) (by omega)) (q_has (by omega) (by omega) ?_)⟩
        rw [nI_1]
        cases e : s.testBit i
        · have sk : ∀ c t, rct g s c t (i + 1) = rct g s c t i := fun c t => by rw [rct_s, e]; simp
          refine br_t rfl (ih (i + 1) u (by omega) hu P ⟨fun k hk' => ?_, fun k hk' => ?_, fun k hk' => ?_⟩)
          · rw [sk]; exact R.1 k hk'
          · rw [sk]; exact R.2.1 k hk'
          · rw [sk]; exact R.2.2 k hk'
        · exact br_f (by decide) ⟨(rRd I hu).1, q_addWell I hu (by omega) e ⟨⟨p1, p2, p3⟩, p4, p5, p6⟩ P R (fun u' hu' P' R' => ih (i + 1) u' (by omega) hu' P' R')⟩
    exact g2 (g 1) 0 u3 (by omega) hu3 P3 W3
  · rw [wI_uI, if_neg (by decide), wI_uI, if_neg (by decide), wI_uI, if_pos rfl]; rfl
  · rw [wI_uI, if_neg (by decide), wI_uI, if_pos rfl]; rfl
  · rw [wI_uI, if_pos rfl]; rfl
/-- how many of a set are awake in t hours -/
def cnt (g : Nat → Nat) (s t : Nat) : Nat := cb (s &&& ups g t)
theorem upb_per {t v p : Nat} (h : g (27 + v) ∣ p) : upb g (t % p) v = upb g t v := by
  unfold upb ph
  have e : (g 26 + t % p + g (5 + v)) % g (27 + v) = (g 26 + t + g (5 + v)) % g (27 + v) := by
    have h1 : t % p % g (27 + v) = t % g (27 + v) := Nat.mod_mod_of_dvd t h
    rw [Nat.add_mod (g 26 + t % p), Nat.add_mod (g 26), h1, ← Nat.add_mod (g 26), ← Nat.add_mod]
  rw [e]
theorem cnt_sum (hW : WF g B) (hs : s < 2 ^ g 1) (t : Nat) : rct g s 0 (t % (pS g s (g 1)).1) (g 1) + rct g s 1 (t % (pS g s (g 1)).2.1) (g 1) + rct g s 2 (t % (pS g s (g 1)).2.2) (g 1) = cnt g s t := by
  have h10 := hW.1.1.2.1
  have per : ∀ c p, (∀ v, v < g 1 → s.testBit v = true → cls g v = c → g (27 + v) ∣ p) → rct g s c (t % p) (g 1) = rct g s c t (g 1) := fun c p h => fb_ct_cong (fun v hv => by
    cases e : s.testBit v
    · simp
    · by_cases ec : cls g v = c
      · rw [upb_per (h v hv e ec)]
      · rw [decide_eq_false ec]; simp)
  have d : ∀ v, v < g 1 → s.testBit v = true → pD g (pS g s (g 1)) v := fun v hv e => pS_d (g 1) v hv e
  rw [per 0 _ (fun v hv e c => ?_), per 1 _ (fun v hv e c => ?_), per 2 _ (fun v hv e c => ?_)]
  · have e1 : rct g s 0 t (g 1) + rct g s 1 t (g 1) = fb_ct (fun v => (s.testBit v && decide (cls g v = 0) && upb g t v) || (s.testBit v && decide (cls g v = 1) && upb g t v)) (g 1) := (fb_ct_or (fun v hv z => by simp at z; omega)).symm
    have e2 : rct g s 0 t (g 1) + rct g s 1 t (g 1) + rct g s 2 t (g 1) = fb_ct (fun v => ((s.testBit v && decide (cls g v = 0) && upb g t v) || (s.testBit v && decide (cls g v = 1) && upb g t v)) || (s.testBit v && decide (cls g v = 2) && upb g t v)) (g 1) := by
      rw [e1]
      exact (fb_ct_or (fun v hv z => by simp at z; omega)).symm
    rw [e2]
    unfold cnt cb
    have e3 := fb_ct_split (fun k => (s &&& ups g t).testBit k) (g 1) (10 - g 1)
    rw [show g 1 + (10 - g 1) = 10 by omega] at e3
    rw [e3, show fb_ct (fun k => (s &&& ups g t).testBit (g 1 + k)) (10 - g 1) = 0 from fb_ct_zero.mpr (fun k hk => by
      rw [Nat.testBit_and, Nat.testBit_lt_two_pow (Nat.lt_of_lt_of_le hs (Nat.pow_le_pow_right (by decide) (show g 1 ≤ g 1 + k by omega)))]
      rfl), Nat.add_zero]
    refine fb_ct_cong (fun v hv => ?_)
    rw [Nat.testBit_and]
    unfold ups
    rw [mk_bit, decide_eq_true hv]
    have cc : cls g v = 0 ∨ cls g v = 1 ∨ cls g v = 2 := by
      unfold cls
      split
      · exact Or.inr (Or.inl rfl)
      · split
        · exact Or.inr (Or.inr rfl)
        · exact Or.inl rfl
    rcases cc with c | c | c <;> rw [c] <;> cases s.testBit v <;> cases upb g t v <;> rfl
  all_goals
    have z := d v hv e
    unfold pD at z
    unfold cls at c
    split at c
    · rename_i q
      first
        | (rw [if_pos q] at z; rw [z, q]; exact Nat.dvd_refl _)
        | cases c
    · rename_i q
      rw [if_neg q] at z
      split at c
      · rename_i q2
        first
          | (rw [if_pos q2] at z; rw [z, q2]; exact Nat.dvd_refl _)
          | cases c
      · rename_i q2
        first
          | (rw [if_neg q2] at z; exact z)
          | cases c
theorem q_turn {u : Wd} {t p n k : Nat} {f : Nat → Nat} {K : Int32 → Wd → Prop} (kt : isK u t 20) (nt : wn u t = n) (hn : n < 1000) (h0 : 0 < p) (hp : p ≤ n) (hk : k < 2 ^ 31) (hf : ∀ j, j < p → wI u t j = nI (f j)) (h : K (nI (f (k % p))) u) : w_X8_turn t (nI p) (nI k) K u := by
  have lt := Nat.mod_lt k h0
  unfold w_X8_turn
  rw [nt, show x_irem (nI k) (nI p) = nI (k % p) from pk_rem hk h0 (by omega), nI_clamp (by omega), hf _ lt]
  exact br_f (nI_pos hk) (br_f (nI_nlt (b := 1) (by omega) (by omega)) ⟨Or.inr kt, br_t (nI_le hp (by omega)) ⟨nI_ne0 h0 (by omega), kt, vp_in_nI (by omega) (by omega), h⟩⟩)
theorem q_awakeIn {u : Wd} {t : Nat} {K : Int32 → Wd → Prop} (I : INVx w B g) (hu : rd w u) (hs : s < 2 ^ g 1) (R : RD u g s) (ht : t < 2 ^ 31) (hk : K (nI (cnt g s t)) u) : w_X8_awakeIn 67 (nI t) K u := by
  have hW := I.2.1
  have rS := rRd I hu
  obtain ⟨⟨p1, p2, p3⟩, p4, p5, p6⟩ := pS_ok (g := g) (s := s) (g 1) (rnd_ok hW)
  obtain ⟨⟨a1, a2, a3⟩, r1, r2, r3⟩ := R
  rw [← cnt_sum hW hs t, ← nI_add, ← nI_add] at hk
  unfold w_X8_awakeIn
  rw [rS.2.1.1, a1]
  refine ⟨rS.1, rS.2.1.2.1, q_turn rS.2.1.2.1 rS.2.1.2.2 (by decide) p1 (by omega) ht r1 ⟨rS.1, ?_⟩⟩
  rw [rS.2.2.1.1, a2]
  refine ⟨rS.2.2.1.2.1, q_turn rS.2.2.1.2.1 rS.2.2.1.2.2 (by decide) (by omega) (by omega) ht r2 ⟨rS.1, ?_⟩⟩
  rw [rS.2.2.2.1, a3]
  exact ⟨rS.2.2.2.2.1, q_turn rS.2.2.2.2.1 rS.2.2.2.2.2 (by decide) (by omega) (by omega) ht r3 hk⟩
theorem q_joined {u : Wd} {K : Int32 → Wd → Prop} (I : INVx w B g) (hu : rd w u) (R : RD u g s) (hk : K (nI (lcS g s (g 1))) u) : w_X8_joined 67 K u := by
  have hW := I.2.1
  obtain ⟨-, -, -, p6⟩ := pS_ok (g := g) (s := s) (g 1) (rnd_ok hW)
  refine ⟨(rRd I hu).1, ?_⟩
  rw [R.1.1, R.1.2.1, R.1.2.2, pk_mul, pk_mul, p6]
  exact hk
end RV
