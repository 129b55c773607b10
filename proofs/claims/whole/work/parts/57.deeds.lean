/-! 57: the reference's deeds upon the row -/
def sameH (g g' : Nat → Nat) : Prop := ∀ j, (j < 5 ∨ 27 ≤ j) → g' j = g j
theorem sameH_refl (g : Nat → Nat) : sameH g g := fun _ _ => rfl
theorem sameH_trans {g g' g'' : Nat → Nat} (h : sameH g g') (k : sameH g' g'') : sameH g g'' := fun j hj => (k j hj).trans (h j hj)
theorem wfH_of {g g' : Nat → Nat} (e : sameH g g') (h : wfH g) : wfH g' := by
  have e0 := e 0 (by omega); have e1 := e 1 (by omega); have e2 := e 2 (by omega); have e3 := e 3 (by omega); have e4 := e 4 (by omega)
  refine ⟨by rw [e0, e1, e2, e3, e4]; exact h.1, fun v hv => ?_, fun v hv => ?_⟩
  · rw [e1] at hv
    rw [e (27 + v) (by omega), e (37 + v) (by omega), e (47 + v) (by omega), e (57 + v) (by omega), e1]
    exact h.2.1 v hv
  · rw [e2] at hv
    rw [e (67 + v) (by omega), e (73 + v) (by omega), e1]
    exact h.2.2 v hv
theorem okT_of {g g' : Nat → Nat} (e : ∀ j, g' (299 + j) = g (299 + j)) : ∀ d i t, okT g d i t → okT g' d i t := by
  intro d
  induction d with
  | zero => exact fun _ _ h => h
  | succ d ih =>
    intro i t h
    obtain ⟨h1, h2⟩ := h
    refine ⟨h1, ?_⟩
    rw [e i]
    rcases h2 with ⟨a, b, c⟩ | ⟨a, r, b, c⟩ | ⟨a, a', r, b, c⟩ | ⟨a, a', r, b, c⟩ | ⟨a, a', r, b, c⟩
    · exact Or.inl ⟨a, b, ih _ _ c⟩
    · exact Or.inr (Or.inl ⟨a, r, b, ih _ _ c⟩)
    · exact Or.inr (Or.inr (Or.inl ⟨a, a', r, b, ih _ _ c⟩))
    · exact Or.inr (Or.inr (Or.inr (Or.inl ⟨a, a', r, b, ih _ _ c⟩)))
    · exact Or.inr (Or.inr (Or.inr (Or.inr ⟨a, a', r, b, ih _ _ c⟩)))
theorem wfL_of {g g' : Nat → Nat} (e : sameH g g') (h : wfL g) : wfL g' := by
  have e3 := e 3 (by omega)
  have i : irr g → irr g' := irr_of (e 1 (by omega)) (fun v _ => e (57 + v) (by omega))
  unfold wfL
  rw [e3]
  exact h.imp (fun z => ⟨z.1, i z.2⟩) (fun z => ⟨okT_of (fun j => e (299 + j) (by omega)) _ _ _ z.1, i z.2⟩)
/-- all that holds of a row -/
def WF (g : Nat → Nat) (B : Nat) : Prop := wfH g ∧ wfL g ∧ wfS g 5 B ∧ (∀ i, i < g 4 → wfS g (79 + 22 * i) B) ∧ B < 2 ^ 24
theorem wfS_mono {g : Nat → Nat} {o B C : Nat} (h : wfS g o B) (hc : B ≤ C) : wfS g o C := ⟨h.1, h.2.1, Nat.le_trans h.2.2 hc⟩
theorem WF_st {g g' : Nat → Nat} {B C : Nat} (h : WF g B) (e : sameH g g') (hs : wfS g' 5 C) (hc : B ≤ C) (hC : C < 2 ^ 24) : WF g' C := by
  have e1 := e 1 (by omega)
  have e4 := e 4 (by omega)
  refine ⟨wfH_of e h.1, wfL_of e h.2.1, hs, fun i hi => ?_, hC⟩
  rw [e4] at hi
  have q := h.2.2.2.1 i hi
  refine ⟨fun v hv => ?_, ?_, ?_⟩
  · rw [e1] at hv
    rw [e (79 + 22 * i + v) (by omega), e (79 + 22 * i + 10 + v) (by omega), e (27 + v) (by omega), e (47 + v) (by omega)]
    exact q.1 v hv
  · rw [e (79 + 22 * i + 20) (by omega), e1]
    exact q.2.1
  · rw [e (79 + 22 * i + 21) (by omega)]
    exact Nat.le_trans q.2.2 hc
def shR (g : Nat → Nat) (s m : Nat) : Nat → Nat := fun j => if 5 ≤ j ∧ j < 5 + m ∧ s.testBit (j - 5) = true then fmN 0 (g 26) (g (22 + j)) else g j
theorem shR_o {g : Nat → Nat} {s m j : Nat} (h : j < 5 ∨ 5 + m ≤ j) : shR g s m j = g j := if_neg (fun z => by omega)
theorem shR_0 (g : Nat → Nat) (s : Nat) : shR g s 0 = g := funext fun j => if_neg (fun z => by omega)
theorem shR_t {g : Nat → Nat} {s i : Nat} (h : s.testBit i = true) : upN (shR g s i) (5 + i) (fmN 0 (g 26) (g (27 + i))) = shR g s (i + 1) := funext fun j => by
  by_cases e : j = 5 + i
  · subst e
    rw [upN_s]
    unfold shR
    rw [if_pos ⟨by omega, by omega, by rw [show 5 + i - 5 = i by omega]; exact h⟩, show 22 + (5 + i) = 27 + i by omega]
  · rw [upN_n _ e]
    unfold shR
    by_cases c : 5 ≤ j ∧ j < 5 + i ∧ s.testBit (j - 5) = true
    · rw [if_pos c, if_pos ⟨c.1, by omega, c.2.2⟩]
    · rw [if_neg c, if_neg (fun z => c ⟨z.1, by omega, z.2.2⟩)]
theorem shR_f {g : Nat → Nat} {s i : Nat} (h : s.testBit i = false) : shR g s (i + 1) = shR g s i := funext fun j => by
  unfold shR
  by_cases c : 5 ≤ j ∧ j < 5 + i ∧ s.testBit (j - 5) = true
  · rw [if_pos c, if_pos ⟨c.1, by omega, c.2.2⟩]
  · rw [if_neg c, if_neg (fun z => c ⟨z.1, by
      by_cases e : j = 5 + i
      · subst e
        rw [show 5 + i - 5 = i by omega, h] at z
        cases z.2.2
      · omega, z.2.2⟩)]
theorem shR_same {g : Nat → Nat} {s m : Nat} (hm : m ≤ 10) : sameH g (shR g s m) := fun j hj => shR_o (by omega)
theorem shR_wfS {g : Nat → Nat} {s m B : Nat} (hm : m ≤ g 1) (hh : wfH g) (hs : wfS g 5 B) : wfS (shR g s m) 5 B := by
  have h10 := hh.1.2.1
  have e1 : shR g s m 1 = g 1 := shR_o (by omega)
  refine ⟨fun v hv => ?_, ?_, ?_⟩
  · rw [e1] at hv
    rw [shR_o (j := 27 + v) (by omega), shR_o (j := 47 + v) (by omega), shR_o (j := 5 + 10 + v) (by omega)]
    refine ⟨?_, (hs.1 v hv).2⟩
    unfold shR
    split
    · rw [show 22 + (5 + v) = 27 + v by omega]
      exact fmN_lt (by have := (hh.2.1 v hv).1.1; omega)
    · exact (hs.1 v hv).1
  · rw [shR_o (j := 5 + 20) (by omega), e1]; exact hs.2.1
  · rw [shR_o (j := 5 + 21) (by omega)]; exact hs.2.2
/-- all of a set wake -/
def wakeR (g : Nat → Nat) (s : Nat) : Nat → Nat := if 1 < cb s then upN (shR g s (g 1)) 25 (g 25 ||| s) else shR g s (g 1)
theorem wakeR_same {g : Nat → Nat} (hh : wfH g) (s : Nat) : sameH g (wakeR g s) := fun j hj => by
  have h10 := hh.1.2.1
  unfold wakeR
  split
  · rw [upN_n _ (by omega)]
    exact shR_same h10 j hj
  · exact shR_same h10 j hj
theorem upN_wfS {g : Nat → Nat} {B z : Nat} (hs : wfS g 5 B) (hh : wfH g) (hz : z < 2 ^ g 1) : wfS (upN g 25 z) 5 B := by
  have h10 := hh.1.2.1
  refine ⟨fun v hv => ?_, ?_, ?_⟩
  · rw [upN_n _ (by omega)] at hv
    rw [upN_n _ (by omega), upN_n _ (by omega), upN_n _ (by omega), upN_n _ (by omega)]
    exact hs.1 v hv
  · rw [show 5 + 20 = 25 from rfl, upN_s, upN_n _ (by omega)]; exact hz
  · rw [upN_n _ (by omega)]; exact hs.2.2
theorem wakeR_wfS {g : Nat → Nat} {s B : Nat} (hh : wfH g) (hs : wfS g 5 B) (hz : s < 2 ^ g 1) : wfS (wakeR g s) 5 B := by
  have h10 := hh.1.2.1
  have q := shR_wfS (s := s) (Nat.le_refl (g 1)) hh hs
  unfold wakeR
  split
  · refine upN_wfS q (wfH_of (shR_same h10) hh) ?_
    rw [shR_o (j := 1) (by omega)]
    exact Nat.or_lt_two_pow hs.2.1 hz
  · exact q
theorem p_wake {w : Wd} {M : Nat} {g : Nat → Nat} {B s : Nat} (h : RS w M g) (hh : wfH g) (hs : wfS g 5 B) (hB : B < 2 ^ 24) (hz : s < 2 ^ g 1) {K : Int32 → Wd → Prop} (hk : ∀ u, eqW (refT M) w u → RS u M (wakeR g s) → K (nI (cb s)) u) : w_X12_wake M (nI s) K w := by
  have h10 := hh.1.2.1
  have s10 := set_lt hh hz
  have go : ∀ E, (∀ u, eqW (refT M) w u → RS u M (shR g s (g 1)) → E M (nI s) u) → ∀ d i u, i + d = g 1 → eqW (refT M) w u → RS u M (shR g s i) → l_X12_wake_2 E K (d + 1) M (nI s) (nI i) u := by
    intro E hE d
    induction d with
    | zero =>
      intro i u hi hw hR
      have : i = g 1 := by omega
      subst this
      refine ⟨hR.1.1, p_wells hR (br_t ?_ (hE u hw hR))⟩
      rw [shR_o (j := 1) (by omega)]
      exact nI_le (Nat.le_refl _) (by omega)
    | succ d ih =>
      intro i u hi hw hR
      have hh' := wfH_of (shR_same (g := g) (s := s) (m := i) (by omega)) hh
      have hs' := shR_wfS (s := s) (show i ≤ g 1 by omega) hh hs
      have e1 : shR g s i 1 = g 1 := shR_o (by omega)
      refine ⟨hR.1.1, p_wells hR (br_f ?_ (p_xhas (by omega) (by omega) ?_))⟩
      · rw [e1]; exact nI_ge (by omega) (by omega)
      cases eb : s.testBit i
      · refine br_t rfl ?_
        rw [nI_1]
        exact ih (i + 1) u (by omega) hw (by rw [shR_f eb]; exact hR)
      · refine br_f (by decide) ⟨hR.1.1, p_shiftsTo hR hh' hs' hB (v := i) (by omega) (p := 0) (by decide) ?_⟩
        rw [nI_1]
        refine ih (i + 1) _ (by omega) (eqW_trans hw (eqW_uI (rT1 M))) ?_
        have q := RS_wr hR (5 + i) (fmN 0 (shR g s i 26) (shR g s i (27 + i)))
        rw [shR_o (j := 26) (by omega), shR_o (j := 27 + i) (by omega), shR_t eb] at q
        rw [shR_o (j := 26) (by omega), shR_o (j := 27 + i) (by omega)]
        exact q
  refine ⟨g 1 + 1, go _ (fun u hw hR => ?_) (g 1) 0 w (by omega) (eqW_refl _ _) (by rw [shR_0]; exact h)⟩
  refine p_size s10 ?_
  have hcb := cb_le s
  by_cases e : 1 < cb s
  · obtain ⟨a1, a2, a3⟩ := p_rd (k := 25) hR (by decide) (P := fun z => z = nI (shR g s (g 1) 25)) rfl
    refine br_f (nI_ge (a := 1) e (by omega)) ⟨hR.1.1, a1, a2, a2, p_size s10 ?_⟩
    rw [show wI u (wR u M 0) (25 : Int32).toNatClampNeg = nI (shR g s (g 1) 25) from a3, shR_o (j := 25) (by omega), fa_or, hR.1.2.1.1]
    refine hk _ (eqW_trans hw (eqW_uI (rT1 M))) ?_
    unfold wakeR
    rw [if_pos e]
    exact RS_wr hR 25 _
  · refine br_t (nI_le (b := 1) (by omega) (by decide)) (p_size s10 ?_)
    refine hk _ hw ?_
    unfold wakeR
    rw [if_neg e]
    exact hR
theorem p_chainOf {w : Wd} {M : Nat} {g : Nat → Nat} {B : Nat} {a n : Nat} {K : Int32 → Wd → Prop} (h : RS w M g) (hW : WF g B) (ha : a < g 1) (hn : n ≤ 99) (hk : ∀ f, K (nI (clo g a n 0)) (sI w (M + 6) f)) : w_X12_chainOf M (nI a) (nI n) K w := ⟨h.1.1, p_wokenBy h hW.1 hW.2.2.1 hW.2.1 hW.2.2.2.2 ha hn (up := 0) (by decide) hk⟩
