/-! 61: what can be undone, what is put aside, told deeds -/
def kp1 (g : Nat → Nat) (i : Nat) : Nat → Nat := fun j => if 79 ≤ j ∧ j < i then g (j + 22) else g j
theorem kp1_0 (g : Nat → Nat) : kp1 g 79 = g := funext fun j => if_neg (fun z => by omega)
theorem kp1_o {g : Nat → Nat} {i j : Nat} (h : j < 79 ∨ i ≤ j) : kp1 g i j = g j := if_neg (fun z => by omega)
theorem kp1_i {g : Nat → Nat} {i j : Nat} (h : 79 ≤ j) (h2 : j < i) : kp1 g i j = g (j + 22) := if_pos ⟨h, h2⟩
theorem kp1_s {g : Nat → Nat} {i : Nat} (h : 79 ≤ i) : upN (kp1 g i) i (g (i + 22)) = kp1 g (i + 1) := funext fun j => by
  by_cases e : j = i
  · subst e
    rw [upN_s, kp1_i h (by omega)]
  · rw [upN_n _ e]
    unfold kp1
    by_cases c : 79 ≤ j ∧ j < i
    · rw [if_pos c, if_pos ⟨c.1, by omega⟩]
    · rw [if_neg c, if_neg (fun z => by omega)]
def kp2 (g : Nat → Nat) (o k : Nat) : Nat → Nat := fun j => if o ≤ j ∧ j < o + k then g (5 + (j - o)) else g j
theorem kp2_0 (g : Nat → Nat) (o : Nat) : kp2 g o 0 = g := funext fun j => if_neg (fun z => by omega)
theorem kp2_o {g : Nat → Nat} {o k j : Nat} (h : j < o ∨ o + k ≤ j) : kp2 g o k j = g j := if_neg (fun z => by omega)
theorem kp2_i {g : Nat → Nat} {o k i : Nat} (h : i < k) : kp2 g o k (o + i) = g (5 + i) := by
  unfold kp2
  rw [if_pos ⟨by omega, by omega⟩, show 5 + (o + i - o) = 5 + i by omega]
theorem kp2_s {g : Nat → Nat} {o k : Nat} : upN (kp2 g o k) (o + k) (g (5 + k)) = kp2 g o (k + 1) := funext fun j => by
  by_cases e : j = o + k
  · subst e
    rw [upN_s, kp2_i (by omega)]
  · rw [upN_n _ e]
    unfold kp2
    by_cases c : o ≤ j ∧ j < o + k
    · rw [if_pos c, if_pos ⟨c.1, by omega⟩]
    · rw [if_neg c, if_neg (fun z => by omega)]
def kpA (g : Nat → Nat) : Nat → Nat := if g 4 = 10 then upN (kp1 g 277) 4 9 else g
/-- what is now can be come back to -/
def keepR (g : Nat → Nat) : Nat → Nat := upN (kp2 (kpA g) (79 + 22 * kpA g 4) 22) 4 (kpA g 4 + 1)
theorem kpA_4 {g : Nat → Nat} (hh : wfH g) : kpA g 4 ≤ 9 := by
  have := hh.1.2.2.2.2
  unfold kpA
  split
  · rw [upN_s]; decide
  · omega
theorem kpA_o {g : Nat → Nat} {j : Nat} (h : j < 79 ∨ 277 ≤ j) (h4 : j ≠ 4) : kpA g j = g j := by
  unfold kpA
  split
  · rw [upN_n _ h4]; exact kp1_o h
  · rfl
theorem keepR_o {g : Nat → Nat} (hh : wfH g) {j : Nat} (h : j < 79 ∨ 299 ≤ j) (h4 : j ≠ 4) : keepR g j = g j := by
  have := kpA_4 hh
  unfold keepR
  rw [upN_n _ h4, kp2_o (by omega), kpA_o (by omega) h4]
theorem wfS_of {g g' : Nat → Nat} {o o' B : Nat} (e : ∀ j, j < 22 → g' (o' + j) = g (o + j)) (e1 : g' 1 = g 1) (e27 : ∀ v, v < 10 → g' (27 + v) = g (27 + v) ∧ g' (47 + v) = g (47 + v)) (hh : wfH g) (h : wfS g o B) : wfS g' o' B := by
  have h10 := hh.1.2.1
  refine ⟨fun v hv => ?_, ?_, ?_⟩
  · rw [e1] at hv
    rw [e v (by omega), Nat.add_assoc, e (10 + v) (by omega), (e27 v (by omega)).1, (e27 v (by omega)).2, ← Nat.add_assoc]
    exact h.1 v hv
  · rw [e 20 (by omega), e1]; exact h.2.1
  · rw [e 21 (by omega)]; exact h.2.2
theorem keepR_WF {g : Nat → Nat} {B : Nat} (hW : WF g B) : WF (keepR g) B := by
  have hh := hW.1
  have k9 := kpA_4 hh
  have o : ∀ j, (j < 79 ∨ 299 ≤ j) → j ≠ 4 → keepR g j = g j := fun j h h4 => keepR_o hh h h4
  have e1 := o 1 (by omega) (by omega)
  have e4 : keepR g 4 = kpA g 4 + 1 := upN_s _ _ _
  have e27 : ∀ v, v < 10 → keepR g (27 + v) = g (27 + v) ∧ keepR g (47 + v) = g (47 + v) := fun v hv => ⟨o _ (by omega) (by omega), o _ (by omega) (by omega)⟩
  refine ⟨⟨?_, fun v hv => ?_, fun v hv => ?_⟩, ?_, wfS_of (fun j hj => o (5 + j) (by omega) (by omega)) e1 e27 hh hW.2.2.1, fun i hi => ?_, hW.2.2.2.2⟩
  · rw [o 0 (by omega) (by omega), e1, o 2 (by omega) (by omega), o 3 (by omega) (by omega), e4]
    exact ⟨hh.1.1, hh.1.2.1, hh.1.2.2.1, hh.1.2.2.2.1, by omega⟩
  · rw [e1] at hv
    have h10 := hh.1.2.1
    rw [o (27 + v) (by omega) (by omega), o (37 + v) (by omega) (by omega), o (47 + v) (by omega) (by omega), o (57 + v) (by omega) (by omega), e1]
    exact hh.2.1 v hv
  · rw [o 2 (by omega) (by omega)] at hv
    have h6 := hh.1.2.2.1
    rw [o (67 + v) (by omega) (by omega), o (73 + v) (by omega) (by omega), e1]
    exact hh.2.2 v hv
  · unfold wfL
    rw [o 3 (by omega) (by omega)]
    have i : irr g → irr (keepR g) := irr_of e1 (fun v hv => o (57 + v) (by have := hh.1.2.1; omega) (by omega))
    exact hW.2.1.imp (fun z => ⟨z.1, i z.2⟩) (fun z => ⟨okT_of (fun j => o (299 + j) (by omega) (by omega)) _ _ _ z.1, i z.2⟩)
  · rw [e4] at hi
    by_cases e : i = kpA g 4
    · subst e
      refine wfS_of (o := 5) (fun j hj => ?_) e1 e27 hh hW.2.2.1
      unfold keepR
      rw [upN_n _ (by omega), kp2_i hj, kpA_o (by omega) (by omega)]
    · by_cases e10 : g 4 = 10
      · have e9 : kpA g 4 = 9 := by unfold kpA; rw [if_pos e10, upN_s]
        refine wfS_of (o := 79 + 22 * (i + 1)) (fun j hj => ?_) e1 e27 hh (hW.2.2.2.1 (i + 1) (by omega))
        unfold keepR
        rw [upN_n _ (by omega), kp2_o (by omega)]
        unfold kpA
        rw [if_pos e10, upN_n _ (by omega), kp1_i (by omega) (by omega)]
        exact congrArg g (by omega)
      · have e9 : kpA g = g := by unfold kpA; rw [if_neg e10]
        refine wfS_of (o := 79 + 22 * i) (fun j hj => ?_) e1 e27 hh (hW.2.2.2.1 i (by rw [e9] at hi e; omega))
        unfold keepR
        rw [upN_n _ (by omega), kp2_o (by omega), e9]
section KK
variable {w : Wd} {M : Nat} {g : Nat → Nat} {B : Nat} {K : Wd → Prop}
theorem p_k54 {gA : Nat → Nat} (h4 : gA 4 ≤ 9) (hk : ∀ u, eqW (refT M) w u → RS u M (upN (kp2 gA (79 + 22 * gA 4) 22) 4 (gA 4 + 1)) → K u) : ∀ d i u, i + d = 22 → eqW (refT M) w u → RS u M (kp2 gA (79 + 22 * gA 4) i) → l_X12_keeps_54 K (d + 1) M (nI i) u := by
  intro d
  induction d with
  | zero =>
    intro i u hi hw hR
    have : i = 22 := by omega
    subst this
    obtain ⟨a1, a2, a3⟩ := p_rd (k := 4) hR (by decide) (P := fun z => z = nI (kp2 gA (79 + 22 * gA 4) 22 4)) rfl
    refine br_t (by decide) ⟨hR.1.1, a1, a2, a2, ?_⟩
    rw [show wI u (wR u M 0) (4 : Int32).toNatClampNeg = _ from a3, kp2_o (by omega), nI_1, hR.1.2.1.1]
    exact hk _ (eqW_trans hw (eqW_uI (rT1 M))) (RS_wr hR 4 _)
  | succ d ih =>
    intro i u hi hw hR
    obtain ⟨a1, a2, a3⟩ := p_rd (k := 4) hR (by decide) (P := fun z => z = nI (kp2 gA (79 + 22 * gA 4) i 4)) rfl
    obtain ⟨-, b2, b3⟩ := p_rd (k := 5 + i) hR (by omega) (P := fun z => z = nI (kp2 gA (79 + 22 * gA 4) i (5 + i))) rfl
    obtain ⟨-, c2, -⟩ := p_rd (k := 79 + 22 * gA 4 + i) hR (by omega) (P := fun _ => True) trivial
    rw [kp2_o (by omega)] at a3 b3
    refine br_f (nI_ge (b := 22) (by omega) (by decide)) ⟨hR.1.1, a1, a2, ?_⟩
    have ei : (79 + 22 * wI u (wR u M 0) (4 : Int32).toNatClampNeg + nI i : Int32) = nI (79 + 22 * gA 4 + i) := by
      rw [show wI u (wR u M 0) (4 : Int32).toNatClampNeg = nI (gA 4) from a3, show (22 * nI (gA 4) : Int32) = nI (22 * gA 4) from pk_mul 22 (gA 4), show (79 + nI (22 * gA 4) : Int32) = nI (79 + 22 * gA 4) from nI_add 79 _, nI_add]
    rw [ei, show (5 + nI i : Int32) = nI (5 + i) from nI_add 5 i]
    refine ⟨b2, c2, ?_⟩
    rw [b3, nI_clamp (n := 79 + 22 * gA 4 + i) (by omega), hR.1.2.1.1, nI_1]
    refine ih (i + 1) _ (by omega) (eqW_trans hw (eqW_uI (rT1 M))) ?_
    rw [← kp2_s]
    exact RS_wr hR _ _
theorem p_k14 {E : Nat → Wd → Prop} (hE : ∀ u, eqW (refT M) w u → RS u M (kp1 g 277) → E M u) : ∀ d i u, 79 ≤ i → i + d = 277 → eqW (refT M) w u → RS u M (kp1 g i) → l_X12_keeps_14 E K (d + 1) M (nI i) u := by
  intro d
  induction d with
  | zero =>
    intro i u h79 hi hw hR
    have : i = 277 := by omega
    subst this
    exact br_t (by decide) (hE u hw hR)
  | succ d ih =>
    intro i u h79 hi hw hR
    obtain ⟨a1, a2, a3⟩ := p_rd (k := i + 22) hR (by omega) (P := fun z => z = nI (kp1 g i (i + 22))) rfl
    obtain ⟨-, b2, -⟩ := p_rd (k := i) hR (by omega) (P := fun _ => True) trivial
    rw [kp1_o (by omega)] at a3
    refine br_f (nI_ge (b := 277) (by omega) (by decide)) ⟨hR.1.1, a1, ?_⟩
    rw [show (nI i + 22 : Int32) = nI (i + 22) from nI_add i 22]
    refine ⟨a2, b2, ?_⟩
    rw [a3, nI_clamp (n := i) (by omega), hR.1.2.1.1, nI_1]
    refine ih (i + 1) _ (by omega) (by omega) (eqW_trans hw (eqW_uI (rT1 M))) ?_
    rw [← kp1_s h79]
    exact RS_wr hR _ _
theorem p_keeps (h : RS w M g) (hh : wfH g) (hk : ∀ u, eqW (refT M) w u → RS u M (keepR g) → K u) : w_X12_keeps M K w := by
  have k9 := kpA_4 hh
  have h4 := hh.1.2.2.2.2
  obtain ⟨a1, a2, a3⟩ := p_rd (k := 4) h (by decide) (P := fun z => z = nI (g 4)) rfl
  refine ⟨h.1.1, a1, a2, ?_⟩
  rw [show wI w (wR w M 0) (4 : Int32).toNatClampNeg = nI (g 4) from a3]
  by_cases e : g 4 = 10
  · refine br_t (by rw [e]; rfl) ⟨198 + 1, p_k14 (w := w) (g := g) (fun u hw hR => ?_) 198 79 w (by omega) (by omega) (eqW_refl _ _) (by rw [kp1_0]; exact h)⟩
    obtain ⟨b1, b2, b3⟩ := p_rd (k := 4) hR (by decide) (P := fun z => z = nI (kp1 g 277 4)) rfl
    rw [kp1_o (by omega), e] at b3
    refine ⟨hR.1.1, b1, b2, b2, 22 + 1, ?_⟩
    rw [show wI u (wR u M 0) (4 : Int32).toNatClampNeg = nI 10 from b3, hR.1.2.1.1]
    have eA : kpA g = upN (kp1 g 277) 4 9 := by unfold kpA; rw [if_pos e]
    refine p_k54 (w := w) (gA := kpA g) k9 hk 22 0 _ (by omega) (eqW_trans hw (eqW_uI (rT1 M))) ?_
    rw [kp2_0, eA]
    exact RS_wr hR 4 9
  · have eA : kpA g = g := by unfold kpA; rw [if_neg e]
    refine br_f (fun z => e ((nI_eq (b := 10) (by omega) (by decide)).mp z)) ⟨22 + 1, p_k54 (w := w) (gA := kpA g) k9 hk 22 0 w (by omega) (eqW_refl _ _) ?_⟩
    rw [kp2_0, eA]
    exact h
theorem p_aside (h : RS w M g) (hk : ∀ f, (∀ k, k < 22 → f k = nI (g (5 + k))) → K (sI w (M + 7) f)) : w_X12_putsAside M K w := by
  have k18 := h.1.2.2.2.1
  have go : ∀ d i f, i + d = 22 → (∀ k, k < i → f k = nI (g (5 + k))) → l_X12_putsAside_2 K (d + 1) M (nI i) (sI w (M + 7) f) := by
    intro d
    induction d with
    | zero =>
      intro i f hi hf
      have : i = 22 := by omega
      subst this
      exact br_t (by decide) (hk f hf)
    | succ d ih =>
      intro i f hi hf
      have hR : RS (sI w (M + 7) f) M g := RSs h (by omega) f
      obtain ⟨a1, a2, a3⟩ := p_rd (k := 5 + i) hR (by omega) (P := fun z => z = nI (g (5 + i))) rfl
      have k1 : wR (sI w (M + 7) f) M 18 = M + 7 := k18.1
      have k2 : wn (sI w (M + 7) f) (M + 7) = 22 := k18.2.2
      rw [show nI (5 + i) = 5 + nI i from (nI_add 5 i).symm] at a2 a3
      refine br_f (nI_ge (b := 22) (by omega) (by decide)) ⟨hR.1.1, ?_⟩
      rw [k1, k2, a3, sI_uI, sI_sI, wI_sI, nI_clamp (n := i) (by omega), nI_1]
      refine ⟨k18.2.1, a1, a2, vp_in_nI (by omega) (by decide), ih (i + 1) _ (by omega) (fun k hk' => ?_)⟩
      by_cases e : k = i
      · subst e; exact pk_us
      · rw [pk_un e]; exact hf k (by omega)
  have e := go 22 0 (wI w (M + 7)) (by omega) (fun k hk' => absurd hk' (Nat.not_lt_zero k))
  rw [sI_self] at e
  exact ⟨22 + 1, e⟩
theorem p_back {g0 : Nat → Nat} (h : RS w M g) (ha : ∀ k, k < 22 → wI w (M + 7) k = nI (g0 (5 + k))) (hs : sameH g0 g) (hk : ∀ u, eqW (refT M) w u → RS u M g0 → K u) : w_X12_putsBack M K w := by
  have k18 := h.1.2.2.2.1
  have go : ∀ d i u g', i + d = 22 → eqW (fun r => r = M + 1) w u → RS u M g' → (∀ j, j < 5 + i ∨ 27 ≤ j → g' j = g0 j) → l_X12_putsBack_2 K (d + 1) M (nI i) u := by
    intro d
    induction d with
    | zero =>
      intro i u g' hi hw hR hg
      have : i = 22 := by omega
      subst this
      refine br_t (by decide) (hk u (eqW_mono (fun r e => by rw [e]; exact (rT1 M)) hw) ⟨hR.1, fun k hk' => ?_⟩)
      rw [hR.2 k hk', hg k (by omega)]
    | succ d ih =>
      intro i u g' hi hw hR hg
      obtain ⟨a1, a2, -⟩ := p_rd (k := 5 + i) hR (by omega) (P := fun _ => True) trivial
      have k1 := hR.1.2.2.2.1
      refine br_f (nI_ge (b := 22) (by omega) (by decide)) ⟨hR.1.1, a1, ?_⟩
      rw [k1.1, k1.2.2, (hw.2.2.2 (M + 7) (by omega)).1, nI_clamp (n := i) (by omega), ha i (by omega), show (5 + nI i : Int32) = nI (5 + i) from nI_add 5 i, nI_clamp (n := 5 + i) (by omega), nI_1]
      refine ⟨k1.2.1, vp_in_nI (by omega) (by decide), a2, ?_⟩
      rw [hR.1.2.1.1]
      refine ih (i + 1) _ _ (by omega) (eqW_trans hw (eqW_uI rfl)) (RS_wr hR (5 + i) (g0 (5 + i))) (fun j hj => ?_)
      by_cases e : j = 5 + i
      · subst e; exact upN_s _ _ _
      · rw [upN_n _ e]; exact hg j (by omega)
  exact ⟨22 + 1, go 22 0 w g (by omega) (eqW_refl _ _) h (fun j hj => hs j (by omega))⟩
end KK
