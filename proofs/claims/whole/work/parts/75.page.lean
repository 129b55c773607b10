/-! 75: pages: what can be undone -/
def PS (w : Wd) (p : Nat) : Prop := isK w p 5 ∧ wR w p 0 = p + 2 ∧ wR w p 4 = p + 1 ∧ isK w (p + 1) 24 ∧ wn w (p + 1) = 10 ∧ ∀ i, i < 10 → wR w (p + 1) i = p + 5 + 3 * i
/-- the row as it was, i deeds being done -/
def unR (g : Nat → Nat) (i : Nat) : Nat → Nat := fun j => if 5 ≤ j ∧ j < 27 then g (79 + 22 * i + (j - 5)) else g j
def PG (w : Wd) (p h e : Nat) (g : Nat → Nat) : Prop := PS w p ∧ LX w (p + 2) h g ∧ wI w p 2 = nI (g 4) ∧ (wI w p 3 = nI e ∧ e < 10) ∧ ∀ s, s < 10 → ∃ h' g', LX w (p + 5 + 3 * s) h' g' ∧ ∀ i, i < g 4 → (e + i) % 10 = s → h' = h ∧ simR g' (unR g i)
def pgT (p t : Nat) : Prop := p ≤ t ∧ t ≤ p + 34
theorem PS_cx {T : Nat → Prop} {w u : Wd} {p : Nat} (e : cx T w u) (h0 : ¬ T p) (h1 : ¬ T (p + 1)) (P : PS w p) : PS u p := by
  obtain ⟨a1, a2, a3, a4, a5, a6⟩ := P
  have f0 := cx_at e a1 h0
  have f1 := cx_at e a4 h1
  exact ⟨cx_isK e a1, by rw [f0.2.2]; exact a2, by rw [f0.2.2]; exact a3, cx_isK e a4, (cx_wn e a4).trans a5, fun i hi => by rw [f1.2.2]; exact a6 i hi⟩
theorem PG_cx {T : Nat → Prop} {w u : Wd} {p h e : Nat} {g : Nat → Nat} (c : cx T w u) (n : noH T) (hp : ∀ t, pgT p t → ¬ T t) (P : PG w p h e g) : PG u p h e g := by
  obtain ⟨a1, a2, a3, ⟨a4, a5⟩, a6⟩ := P
  have h0 : ¬ T p := hp p ⟨by omega, by omega⟩
  have f0 := cx_at c a1.1 h0
  refine ⟨PS_cx c h0 (hp _ ⟨by omega, by omega⟩) a1, LX_cx c n (fun t z => hp t (by unfold landT at z; unfold pgT; omega)) a2, by rw [f0.1]; exact a3, ⟨by rw [f0.1]; exact a4, a5⟩, fun s hs => ?_⟩
  obtain ⟨h', g', b1, b2⟩ := a6 s hs
  exact ⟨h', g', LX_cx c n (fun t z => hp t (by unfold landT at z; unfold pgT; omega)) b1, b2⟩
theorem PS_uI {w : Wd} {p t k : Nat} {v : Int32} (P : PS w p) : PS (uI w t k v) p := P
theorem LX_uI {w : Wd} {r h t k : Nat} {g : Nat → Nat} {v : Int32} (L : LX w r h g) (ht : 82 ≤ t ∧ t < 245) (hr : t < r ∨ r + 2 < t) : LX (uI w t k v) r h g := LX_cx (T := fun x => x = t) (cx_uI rfl) (fun x hx => by subst hx; omega) (fun x z hx => by unfold landT at z; omega) L
section PP
variable {w : Wd} {p h e : Nat} {g : Nat → Nat} {K : Wd → Prop}
theorem q_slot {i : Nat} {K : Int32 → Wd → Prop} (hp : isK w p 5) (he : wI w p 3 = nI e) (he2 : e < 10) (hi : i < 1000) (hk : K (nI ((e + i) % 10)) w) : w_X5_slot p (nI i) K w := by
  refine ⟨hp, ?_⟩
  rw [he, nI_add, show nI (e + i) = nI (e + i) - nI 0 from (pk_sub (b := 0) (by omega)).symm]
  refine q_floorMod (p := e + i) (h := 0) (r := 10) (by omega) (by decide) (by decide) (by decide) ?_
  have e1 : fmN (e + i) 0 10 = (e + i) % 10 := by unfold fmN; omega
  rw [e1]
  exact hk
theorem keepR_sim (hh : wfH g) : simR g (keepR g) := fun j h4 hj => keepR_o hh hj h4
theorem keepR_4 : keepR g 4 = kpA g 4 + 1 := upN_s _ _ _
theorem keepR_un {i : Nat} (hh : wfH g) (h10 : g 4 < 10) (hi : i < g 4) : simR (unR g i) (unR (keepR g) i) := fun j h4 hj => by
  have e : kpA g = g := by unfold kpA; rw [if_neg (by omega)]
  unfold unR
  by_cases c : 5 ≤ j ∧ j < 27
  · rw [if_pos c, if_pos c]
    unfold keepR
    rw [upN_n _ (by omega), kp2_o (by rw [e]; omega), e]
  · rw [if_neg c, if_neg c]
    exact keepR_o hh hj h4
theorem keepR_un9 {i : Nat} (hh : wfH g) (h10 : g 4 = 10) (hi : i < 9) : simR (unR g (i + 1)) (unR (keepR g) i) := fun j h4 hj => by
  have e9 : kpA g 4 = 9 := by unfold kpA; rw [if_pos h10, upN_s]
  unfold unR
  by_cases c : 5 ≤ j ∧ j < 27
  · rw [if_pos c, if_pos c]
    unfold keepR
    rw [upN_n _ (by omega), kp2_o (by rw [e9]; omega)]
    unfold kpA
    rw [if_pos h10, upN_n _ (by omega), kp1_i (by omega) (by omega)]
    exact congrArg g (by omega)
  · rw [if_neg c, if_neg c]
    exact keepR_o hh hj h4
theorem keepR_unL (hh : wfH g) : simR g (unR (keepR g) (kpA g 4)) := fun j h4 hj => by
  have k9 := kpA_4 hh
  unfold unR
  by_cases c : 5 ≤ j ∧ j < 27
  · rw [if_pos c]
    unfold keepR
    rw [upN_n _ (by omega), kp2_i (by omega), show 5 + (j - 5) = j by omega]
    exact kpA_o (by omega) h4
  · rw [if_neg c]
    exact keepR_o hh hj h4
theorem q_rem24 {m : Nat} (hp : 90 ≤ p ∧ p + 34 < 245) (hm : m < 10) (he : e < 10) (P : PS w p) (L : LX w (p + 2) h g) (h2 : wI w p 2 = nI m) (h3 : wI w p 3 = nI e) (hs : ∀ s, s < 10 → ∃ h' g', LX w (p + 5 + 3 * s) h' g') (hk : ∀ u, eqW (pgT p) w u → PS u p → LX u (p + 2) h g → wI u p 2 = nI (m + 1) → wI u p 3 = nI e → LX u (p + 5 + 3 * ((e + m) % 10)) h g → (∀ s, s < 10 → s ≠ (e + m) % 10 → ∀ h' g', LX w (p + 5 + 3 * s) h' g' → LX u (p + 5 + 3 * s) h' g') → K u) : j_X5_remember_24 K p w := by
  obtain ⟨a1, a2, a3, a4, a5, a6⟩ := P
  have sl : (e + m) % 10 < 10 := Nat.mod_lt _ (by decide)
  unfold j_X5_remember_24
  rw [a3, h2]
  obtain ⟨h', g', b1⟩ := hs _ sl
  refine ⟨a1, a4, q_slot a1 h3 he (by omega) ⟨a4, by rw [a5]; exact vp_in_nI sl (by decide), ?_⟩⟩
  rw [nI_clamp (by omega), a6 _ sl, a2]
  refine ⟨b1.1.1.1.1, a1, L.1.1.1.1, q_becomeX (LA_LdS b1.1) L (by omega) (by omega) (fun u hu Lu => ⟨(eqW_isK hu).mpr a1, ?_⟩)⟩
  have n0 : ¬ landT (p + 5 + 3 * ((e + m) % 10)) p := fun z => by unfold landT at z; omega
  have f0 := hu.2.2.2 p n0
  rw [f0.1, h2, nI_1]
  have Pu : PS u p := PS_cx (cx_eqW hu) n0 (fun z => by unfold landT at z; omega) ⟨a1, a2, a3, a4, a5, a6⟩
  have nH : noH (landT (p + 5 + 3 * ((e + m) % 10))) := fun t z => by unfold landT at z; omega
  refine hk _ (eqW_trans (eqW_mono (fun t z => by unfold landT at z; unfold pgT; omega) hu) (eqW_uI ⟨by omega, by omega⟩)) Pu (LX_uI (LX_cx (cx_eqW hu) nH (fun t z k => by unfold landT at z k; omega) L) (by omega) (by omega)) ?_ ?_ (LX_uI Lu (by omega) (by omega)) (fun s hs' hne h2' g2' L2 => LX_uI (LX_cx (cx_eqW hu) nH (fun t z k => by unfold landT at z k; omega) L2) (by omega) (by omega))
  · rw [wI_uI, if_pos rfl]
  · rw [wI_uI, if_neg (by decide), f0.1]; exact h3
theorem q_remember (hp : 90 ≤ p ∧ p + 34 < 245) (hh : wfH g) (P : PG w p h e g) (hk : ∀ u e', eqW (pgT p) w u → PG u p h e' (keepR g) → K u) : w_X5_remember p K w := by
  obtain ⟨a1, a2, a3, ⟨a4, a5⟩, a6⟩ := P
  have h4 := hh.1.2.2.2.2
  have k9 := kpA_4 hh
  have hs0 : ∀ s, s < 10 → ∃ h' g', LX w (p + 5 + 3 * s) h' g' := fun s hs => by
    obtain ⟨h', g', b1, -⟩ := a6 s hs
    exact ⟨h', g', b1⟩
  refine ⟨a1.1, ?_⟩
  rw [a3]
  by_cases c : g 4 < 10
  · have e9 : kpA g 4 = g 4 := by unfold kpA; rw [if_neg (by omega)]
    refine br_t (nI_lt (b := 10) c (by decide)) (q_rem24 hp c a5 a1 a2 a3 a4 hs0 (fun u hu b1 b2 b3 b4 b5 b6 => hk u e hu ⟨b1, LX_sim (keepR_sim hh) b2, by rw [keepR_4, e9]; exact b3, ⟨b4, a5⟩, fun s hs => ?_⟩))
    by_cases es : s = (e + g 4) % 10
    · subst es
      refine ⟨h, g, b5, fun i hi hie => ?_⟩
      rw [keepR_4, e9] at hi
      have : i = g 4 := by omega
      subst this
      refine ⟨rfl, ?_⟩
      have z := keepR_unL hh
      rw [e9] at z
      exact z
    · obtain ⟨h', g', c1, c2⟩ := a6 s hs
      refine ⟨h', g', b6 s hs es h' g' c1, fun i hi hie => ?_⟩
      rw [keepR_4, e9] at hi
      have hi2 : i < g 4 := by
        by_cases ei : i = g 4
        · subst ei; exact absurd hie.symm es
        · omega
      have z := c2 i hi2 hie
      exact ⟨z.1, simR_trans z.2 (keepR_un hh c hi2)⟩
  · have e10 : g 4 = 10 := by omega
    have e9 : kpA g 4 = 9 := by unfold kpA; rw [if_pos e10, upN_s]
    refine br_f (nI_nlt (b := 10) (by omega) (by omega)) (q_slot (i := 1) a1.1 a4 a5 (by decide) ⟨a1.1, ?_⟩)
    have e1 : (e + 1) % 10 < 10 := Nat.mod_lt _ (by decide)
    have U : ∀ r h' g', p < r → r + 2 < 245 → LX w r h' g' → LX (uI (uI w p 3 (nI ((e + 1) % 10))) p 2 9) r h' g' := fun r h' g' q1 q2 L => LX_uI (LX_uI L (by omega) (by omega)) (by omega) (by omega)
    refine q_rem24 hp (m := 9) (by decide) e1 (PS_uI (PS_uI a1)) (U _ _ _ (by omega) (by omega) a2) ?_ ?_ (fun s hs => ?_) (fun u hu b1 b2 b3 b4 b5 b6 => hk u ((e + 1) % 10) (eqW_trans (eqW_trans (eqW_uI ⟨by omega, by omega⟩) (eqW_uI ⟨by omega, by omega⟩)) hu) ⟨b1, LX_sim (keepR_sim hh) b2, by rw [keepR_4, e9]; exact b3, ⟨b4, e1⟩, fun s hs => ?_⟩)
    · rw [wI_uI, if_pos rfl]; rfl
    · rw [wI_uI, if_neg (by decide), wI_uI, if_pos rfl]
    · obtain ⟨h', g', c1⟩ := hs0 s hs
      exact ⟨h', g', U _ _ _ (by omega) (by omega) c1⟩
    · by_cases es : s = ((e + 1) % 10 + 9) % 10
      · subst es
        refine ⟨h, g, b5, fun i hi hie => ?_⟩
        rw [keepR_4, e9] at hi
        have : i = 9 := by omega
        subst this
        refine ⟨rfl, ?_⟩
        have z := keepR_unL hh
        rw [e9] at z
        exact z
      · obtain ⟨h', g', c1, c2⟩ := a6 s hs
        refine ⟨h', g', b6 s hs es h' g' (U _ _ _ (by omega) (by omega) c1), fun i hi hie => ?_⟩
        rw [keepR_4, e9] at hi
        have hi2 : i < 9 := by omega
        have z := c2 (i + 1) (by omega) (by omega)
        exact ⟨z.1, simR_trans z.2 (keepR_un9 hh e10 hi2)⟩
/-- n deeds are undone -/
def undR (g : Nat → Nat) (n : Nat) : Nat → Nat := fun j => if j = 4 then g 4 - n else if 5 ≤ j ∧ j < 27 then g (79 + 22 * (g 4 - n) + (j - 5)) else g j
theorem undR_sim (n : Nat) : simR (unR g (g 4 - n)) (undR g n) := fun j h4 hj => by
  unfold undR unR
  rw [if_neg h4]
theorem undR_un (n i : Nat) : simR (unR g i) (unR (undR g n) i) := fun j h4 hj => by
  unfold unR
  by_cases c : 5 ≤ j ∧ j < 27
  · rw [if_pos c, if_pos c]
    unfold undR
    rw [if_neg (by omega), if_neg (by omega)]
  · rw [if_neg c, if_neg c]
    unfold undR
    rw [if_neg h4, if_neg c]
theorem q_goBack {n : Nat} (hp : 90 ≤ p ∧ p + 34 < 245) (hh : wfH g) (P : PG w p h e g) (h1 : 1 ≤ n) (hn : n ≤ g 4) (hk : ∀ u, eqW (pgT p) w u → PG u p h e (undR g n) → K u) : w_X5_goBack p (nI n) K w := by
  obtain ⟨a1, a2, a3, ⟨a4, a5⟩, a6⟩ := P
  have h4 := hh.1.2.2.2.2
  have sl : (e + (g 4 - n)) % 10 < 10 := Nat.mod_lt _ (by decide)
  unfold w_X5_goBack
  rw [a3, a1.2.1, a1.2.2.1, pk_sub hn]
  refine br_f (nI_nlt (b := 1) h1 (by omega)) ⟨a1.1, br_f (nI_nlt hn (by omega)) ⟨a2.1.1.1.1, a1.2.2.2.1, ?_⟩⟩
  rw [wI_uI, if_pos rfl]
  have U : ∀ r h' g', p < r → r + 2 < 245 → LX w r h' g' → LX (uI w p 2 (nI (g 4 - n))) r h' g' := fun r h' g' q1 q2 L => LX_uI L (by omega) (by omega)
  refine q_slot (e := e) a1.1 (by rw [wI_uI, if_neg (by decide)]; exact a4) a5 (by omega) ⟨a1.2.2.2.1, by rw [show wn (uI w p 2 (nI (g 4 - n))) (p + 1) = 10 from a1.2.2.2.2.1]; exact vp_in_nI sl (by decide), ?_⟩
  obtain ⟨h', g', c1, c2⟩ := a6 _ sl
  obtain ⟨rfl, c3⟩ := c2 (g 4 - n) (by omega) rfl
  have c1' := U _ _ _ (by omega) (by omega) c1
  rw [nI_clamp (by omega), show wR (uI w p 2 (nI (g 4 - n))) (p + 1) ((e + (g 4 - n)) % 10) = p + 5 + 3 * ((e + (g 4 - n)) % 10) from a1.2.2.2.2.2 _ sl]
  refine ⟨c1'.1.1.1.1, a2.1.1.1.1, q_becomeX (LA_LdS (U _ _ _ (by omega) (by omega) a2).1) c1' (by omega) (by omega) (fun u hu Lu => ?_)⟩
  have n0 : ¬ landT (p + 2) p := fun z => by unfold landT at z; omega
  have nH : noH (landT (p + 2)) := fun t z => by unfold landT at z; omega
  have f0 := hu.2.2.2 p n0
  refine hk u (eqW_trans (eqW_uI ⟨by omega, by omega⟩) (eqW_mono (fun t z => by unfold landT at z; unfold pgT; omega) hu)) ⟨PS_cx (cx_eqW hu) n0 (fun z => by unfold landT at z; omega) (PS_uI a1), LX_sim (simR_trans c3 (undR_sim n)) Lu, ?_, ⟨?_, a5⟩, fun s hs => ?_⟩
  · rw [f0.1, wI_uI, if_pos rfl]
    unfold undR
    rw [if_pos rfl]
  · rw [f0.1, wI_uI, if_neg (by decide)]; exact a4
  · obtain ⟨h2, g2, d1, d2⟩ := a6 s hs
    refine ⟨h2, g2, LX_cx (cx_eqW hu) nH (fun t z k => by unfold landT at z k; omega) (U _ _ _ (by omega) (by omega) d1), fun i hi hie => ?_⟩
    rw [show undR g n 4 = g 4 - n by unfold undR; rw [if_pos rfl]] at hi
    have z := d2 i (by omega) hie
    exact ⟨z.1, simR_trans z.2 (undR_un n i)⟩
theorem q_pbecome {q : Nat} {h0 e0 : Nat} {g0 : Nat → Nat} (hp : 90 ≤ p ∧ p + 34 < 245) (hq : 90 ≤ q ∧ q + 34 < 245) (hpq : p + 34 < q ∨ q + 34 < p) (hh : wfH g) (Q : PG w p h0 e0 g0) (P : PG w q h e g) (hk : ∀ u, eqW (pgT p) w u → PG u p h e g → K u) : w_X5_become p q K w := by
  have h4 := hh.1.2.2.2.2
  have nH : noH (pgT p) := fun t z => by unfold pgT at z; omega
  have dq : ∀ t, pgT q t → ¬ pgT p t := fun t z k => by unfold pgT at z k; omega
  have F : ∀ u, eqW (pgT p) w u → PG u q h e g := fun u hu => PG_cx (cx_eqW hu) nH dq P
  unfold w_X5_become
  rw [Q.1.2.1, P.1.2.1]
  refine ⟨Q.1.1, Q.2.1.1.1.1.1, P.1.1, P.2.1.1.1.1.1, q_becomeX (LA_LdS Q.2.1.1) P.2.1 (by omega) (by omega) (fun u hu Lu => ?_)⟩
  have lp : ∀ t, landT (p + 2) t → pgT p t := fun t z => by unfold landT at z; unfold pgT; omega
  have hu' := eqW_mono lp hu
  have Pu := F u hu'
  have n0 : ¬ landT (p + 2) p := fun z => by unfold landT at z; omega
  have qp : q ≠ p := by omega
  have x3 : wI (uI u p 2 (nI (g 4))) q 3 = nI e := by rw [sI_uI, wI_sIn qp]; exact Pu.2.2.2.1.1
  rw [Pu.2.2.1, x3]
  have e2 : eqW (pgT p) w (uI (uI u p 2 (nI (g 4))) p 3 (nI e)) := eqW_trans (eqW_trans hu' (eqW_uI ⟨by omega, by omega⟩)) (eqW_uI ⟨by omega, by omega⟩)
  have PSu : PS (uI (uI u p 2 (nI (g 4))) p 3 (nI e)) p := PS_uI (PS_uI (PS_cx (cx_eqW hu) n0 (fun z => by unfold landT at z; omega) Q.1))
  refine ⟨Pu.1.1, PSu.1, 10 + 1, ?_⟩
  have go : ∀ d i u, i + d = 10 → eqW (pgT p) w u → PS u p → LX u (p + 2) h g → wI u p 2 = nI (g 4) → wI u p 3 = nI e → (∀ s, s < 10 → ∃ h' g', LX u (p + 5 + 3 * s) h' g' ∧ (s < i → ∀ j, j < g 4 → (e + j) % 10 = s → h' = h ∧ simR g' (unR g j))) → l_X5_become_29 K (d + 1) p q (nI i) u := by
    intro d
    induction d with
    | zero =>
      intro i u hi hw a1 a2 a3 a4 a6
      have : i = 10 := by omega
      subst this
      refine br_t (by decide) (hk u hw ⟨a1, a2, a3, ⟨a4, P.2.2.2.1.2⟩, fun s hs => ?_⟩)
      obtain ⟨h', g', b1, b2⟩ := a6 s hs
      exact ⟨h', g', b1, b2 hs⟩
    | succ d ih =>
      intro i u hi hw a1 a2 a3 a4 a6
      have Pu := F u hw
      obtain ⟨h', g', b1, b2⟩ := Pu.2.2.2.2 i (by omega)
      obtain ⟨h2, g2, c1, -⟩ := a6 i (by omega)
      refine br_f (nI_ge (b := 10) (by omega) (by decide)) ?_
      rw [a1.2.2.1, Pu.1.2.2.1, nI_clamp (by omega), a1.2.2.2.2.2 i (by omega), Pu.1.2.2.2.2.2 i (by omega), a1.2.2.2.2.1, Pu.1.2.2.2.2.1]
      refine ⟨a1.1, a1.2.2.2.1, vp_in_nI (by omega) (by decide), c1.1.1.1.1, Pu.1.1, Pu.1.2.2.2.1, vp_in_nI (by omega) (by decide), b1.1.1.1.1, q_becomeX (LA_LdS c1.1) b1 (by omega) (by omega) (fun v hv Lv => ?_)⟩
      rw [nI_1]
      have m0 : ¬ landT (p + 5 + 3 * i) p := fun z => by unfold landT at z; omega
      have mH : noH (landT (p + 5 + 3 * i)) := fun t z => by unfold landT at z; omega
      have f0 := hv.2.2.2 p m0
      refine ih (i + 1) v (by omega) (eqW_trans hw (eqW_mono (fun t z => by unfold landT at z; unfold pgT; omega) hv)) (PS_cx (cx_eqW hv) m0 (fun z => by unfold landT at z; omega) a1) (LX_cx (cx_eqW hv) mH (fun t z k => by unfold landT at z k; omega) a2) (by rw [f0.1]; exact a3) (by rw [f0.1]; exact a4) (fun s hs => ?_)
      by_cases es : s = i
      · subst es
        exact ⟨h', g', Lv, fun _ => b2⟩
      · obtain ⟨h3, g3, d1, d2⟩ := a6 s hs
        exact ⟨h3, g3, LX_cx (cx_eqW hv) mH (fun t z k => by unfold landT at z k; omega) d1, fun hlt => d2 (by omega)⟩
  refine go 10 0 _ (by omega) e2 PSu (LX_uI (LX_uI Lu (by omega) (by omega)) (by omega) (by omega)) ?_ ?_ (fun s hs => ?_)
  · rw [wI_uI, if_neg (by decide), wI_uI, if_pos rfl]
  · rw [wI_uI, if_pos rfl]
  · obtain ⟨h', g', b1, -⟩ := Q.2.2.2.2 s hs
    exact ⟨h', g', LX_uI (LX_uI (LX_cx (cx_eqW hu) (fun t z => by unfold landT at z; omega) (fun t z k => by unfold landT at z k; omega) b1) (by omega) (by omega)) (by omega) (by omega), fun z => absurd z (Nat.not_lt_zero _)⟩
end PP
