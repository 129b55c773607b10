/-! 59: an hour of the reference's -/
def h1R (g : Nat → Nat) (u m : Nat) : Nat → Nat := fun j => if 15 ≤ j ∧ j < 15 + m ∧ u.testBit (j - 15) = false then min (g (32 + j)) (g j + 1) else g j
theorem h1R_o {g : Nat → Nat} {s m j : Nat} (h : j < 15 ∨ 15 + m ≤ j) : h1R g s m j = g j := if_neg (fun z => by omega)
theorem h1R_0 (g : Nat → Nat) (s : Nat) : h1R g s 0 = g := funext fun j => if_neg (fun z => by omega)
theorem h1R_f {g : Nat → Nat} {s i : Nat} (h : s.testBit i = false) : upN (h1R g s i) (15 + i) (min (g (47 + i)) (g (15 + i) + 1)) = h1R g s (i + 1) := funext fun j => by
  by_cases e : j = 15 + i
  · subst e
    rw [upN_s]
    unfold h1R
    rw [if_pos ⟨by omega, by omega, by rw [show 15 + i - 15 = i by omega]; exact h⟩, show 32 + (15 + i) = 47 + i by omega]
  · rw [upN_n _ e]
    unfold h1R
    by_cases c : 15 ≤ j ∧ j < 15 + i ∧ s.testBit (j - 15) = false
    · rw [if_pos c, if_pos ⟨c.1, by omega, c.2.2⟩]
    · rw [if_neg c, if_neg (fun z => c ⟨z.1, by omega, z.2.2⟩)]
theorem h1R_t {g : Nat → Nat} {s i : Nat} (h : s.testBit i = true) : h1R g s (i + 1) = h1R g s i := funext fun j => by
  unfold h1R
  by_cases c : 15 ≤ j ∧ j < 15 + i ∧ s.testBit (j - 15) = false
  · rw [if_pos c, if_pos ⟨c.1, by omega, c.2.2⟩]
  · rw [if_neg c, if_neg (fun z => c ⟨z.1, by
      by_cases e : j = 15 + i
      · subst e
        rw [show 15 + i - 15 = i by omega, h] at z
        cases z.2.2
      · omega, z.2.2⟩)]
/-- only water differs, and keeps its bounds -/
def okWt (g g' : Nat → Nat) : Prop := (∀ j, (j < 15 ∨ 25 ≤ j) → g' j = g j) ∧ ∀ v, v < g 1 → g' (15 + v) ≤ g (47 + v)
theorem okWt_same {g g' : Nat → Nat} (h : okWt g g') : sameH g g' := fun j hj => h.1 j (by omega)
theorem okWt_wfS {g g' : Nat → Nat} {B : Nat} (h : okWt g g') (hh : wfH g) (hs : wfS g 5 B) : wfS g' 5 B := by
  have h10 := hh.1.2.1
  have e1 := h.1 1 (by omega)
  refine ⟨fun v hv => ?_, ?_, ?_⟩
  · rw [e1] at hv
    rw [h.1 (5 + v) (by omega), h.1 (27 + v) (by omega), h.1 (47 + v) (by omega), show 5 + 10 + v = 15 + v by omega]
    exact ⟨(hs.1 v hv).1, h.2 v hv⟩
  · rw [h.1 (5 + 20) (by omega), e1]; exact hs.2.1
  · rw [h.1 (5 + 21) (by omega)]; exact hs.2.2
theorem okWt_refl {g : Nat → Nat} {B : Nat} (hs : wfS g 5 B) : okWt g g := ⟨fun _ _ => rfl, fun v hv => (hs.1 v hv).2⟩
theorem okWt_up {g g' : Nat → Nat} {v z : Nat} (h : okWt g g') (hv : v < 10) (hz : z ≤ g (47 + v)) : okWt g (upN g' (15 + v) z) := by
  refine ⟨fun j hj => ?_, fun x hx => ?_⟩
  · rw [upN_n _ (by omega)]; exact h.1 j hj
  · by_cases e : x = v
    · subst e; rw [upN_s]; exact hz
    · rw [upN_n _ (by omega)]; exact h.2 x hx
theorem h1R_ok {g : Nat → Nat} {s m B : Nat} (hm : m ≤ 10) (hs : wfS g 5 B) : okWt g (h1R g s m) := by
  refine ⟨fun j hj => h1R_o (by omega), fun v hv => ?_⟩
  have := (hs.1 v hv).2
  rw [show 5 + 10 + v = 15 + v by omega] at this
  unfold h1R
  split
  · rw [show 32 + (15 + v) = 47 + v by omega]
    omega
  · exact this
def giveR (g : Nat → Nat) (a b : Nat) : Nat → Nat := if g (15 + b) < g (47 + b) then upN (upN g (15 + a) (g (15 + a) - 1)) (15 + b) (g (15 + b) + 1) else g
def dreamR (g : Nat → Nat) (a b : Nat) : Nat → Nat := if g (15 + b) + 2 ≤ g (15 + a) then giveR g a b else if g (15 + a) + 2 ≤ g (15 + b) then giveR g b a else g
def hin (u a : Nat) : Nat → Nat → (Nat → Nat) → Nat → Nat
  | 0, _, g => g
  | d + 1, b, g => hin u a d (b + 1) (if ((g (57 + a)).testBit b && !u.testBit a && !u.testBit b) = true then dreamR g a b else g)
def hou (u : Nat) : Nat → Nat → (Nat → Nat) → Nat → Nat
  | 0, _, g => g
  | d + 1, a, g => hou u d (a + 1) (hin u a d (a + 1) g)
/-- an hour goes by -/
def hourR (g : Nat → Nat) : Nat → Nat :=
  let x := upN (hou (ups g 0) (g 1) 0 (h1R g (ups g 0) (g 1))) 26 (g 26 + 1)
  upN x 25 (g 25 &&& ups x 0)
theorem p_minI {a b : Nat} (ha : a < 2 ^ 31) (hb : b < 2 ^ 31) {K : Int32 → Wd → Prop} {w : Wd} (hk : K (nI (min a b)) w) : w_J9_min_7cf53 (nI a) (nI b) K w := by
  by_cases h : b < a
  · rw [show min a b = b by omega] at hk
    exact br_t (nI_lt h ha) hk
  · rw [show min a b = a by omega] at hk
    exact br_f (nI_nlt (by omega) hb) hk
section HH
variable {w : Wd} {M : Nat} {g : Nat → Nat} {B : Nat} {K : Wd → Prop}
theorem giveR_ok {g0 : Nat → Nat} {a b : Nat} (hh : wfH g0) (h : okWt g0 g) (ha : a < g0 1) (hb : b < g0 1) (hab : a ≠ b) : okWt g0 (giveR g a b) := by
  have h10 := hh.1.2.1
  have q := h.2 a ha
  have e := h.1 (47 + b) (by omega)
  unfold giveR
  split
  · exact okWt_up (okWt_up h (by omega) (by omega)) (by omega) (by omega)
  · exact h
theorem dreamR_ok {g0 : Nat → Nat} {a b : Nat} (hh : wfH g0) (h : okWt g0 g) (ha : a < g0 1) (hb : b < g0 1) (hab : a ≠ b) : okWt g0 (dreamR g a b) := by
  unfold dreamR
  split
  · exact giveR_ok hh h ha hb hab
  · split
    · exact giveR_ok hh h hb ha (fun e => hab e.symm)
    · exact h
theorem p_give (h : RS w M g) {a b : Nat} (ha : a < 10) (hb : b < 10) (hab : a ≠ b) (h1 : 1 ≤ g (15 + a)) (hw1 : g (15 + b) < 2 ^ 30) (hw2 : g (47 + b) < 2 ^ 30) (hk : ∀ u, eqW (refT M) w u → RS u M (giveR g a b) → K u) : j_X12_dreams_52 K M (nI a) (nI b) w := by
  obtain ⟨a1, a2, a3⟩ := p_rd (k := 15 + a) h (by omega) (P := fun z => z = nI (g (15 + a))) rfl
  obtain ⟨-, b2, b3⟩ := p_rd (k := 15 + b) h (by omega) (P := fun z => z = nI (g (15 + b))) rfl
  obtain ⟨-, c2, c3⟩ := p_rd (k := 47 + b) h (by omega) (P := fun z => z = nI (g (47 + b))) rfl
  unfold j_X12_dreams_52
  rw [show (15 + nI a : Int32) = nI (15 + a) from nI_add 15 a, show (15 + nI b : Int32) = nI (15 + b) from nI_add 15 b, show (47 + nI b : Int32) = nI (47 + b) from nI_add 47 b]
  refine ⟨h.1.1, a1, b2, c2, ?_⟩
  rw [a3, b3, c3]
  by_cases e : g (15 + b) < g (47 + b)
  · refine br_t (nI_lt e (by omega)) ⟨a2, a2, b2, b2, ?_⟩
    rw [nI_clamp (n := 15 + a) (by omega), nI_clamp (n := 15 + b) (by omega), h.1.2.1.1, show (nI (g (15 + a)) - 1 : Int32) = nI (g (15 + a) - 1) from pk_sub (b := 1) h1]
    have q := RS_wr h (15 + a) (g (15 + a) - 1)
    rw [q.2 (15 + b) (by omega), upN_n _ (by omega), nI_1]
    refine hk _ (eqW_trans (eqW_uI (rT1 M)) (eqW_uI (rT1 M))) ?_
    unfold giveR
    rw [if_pos e]
    exact RS_wr q _ _
  · refine br_f (nI_nlt (by omega) (by omega)) (hk w (eqW_refl _ _) ?_)
    unfold giveR
    rw [if_neg e]
    exact h
theorem p_dreams (h : RS w M g) {a b : Nat} (ha : a < 10) (hb : b < 10) (hab : a ≠ b) (hwa : g (15 + a) < 2 ^ 29) (hwb : g (15 + b) < 2 ^ 29) (hda : g (47 + a) < 2 ^ 29) (hdb : g (47 + b) < 2 ^ 29) (hk : ∀ u, eqW (refT M) w u → RS u M (dreamR g a b) → K u) : w_X12_dreams M (nI a) (nI b) K w := by
  obtain ⟨a1, a2, a3⟩ := p_rd (k := 15 + a) h (by omega) (P := fun z => z = nI (g (15 + a))) rfl
  obtain ⟨-, b2, b3⟩ := p_rd (k := 15 + b) h (by omega) (P := fun z => z = nI (g (15 + b))) rfl
  unfold w_X12_dreams
  rw [show (15 + nI a : Int32) = nI (15 + a) from nI_add 15 a, show (15 + nI b : Int32) = nI (15 + b) from nI_add 15 b]
  refine ⟨h.1.1, a1, a2, b2, ?_⟩
  rw [a3, b3]
  have ed : (nI (g (15 + a)) - nI (g (15 + b))).toInt = (g (15 + a) : Int) - g (15 + b) := pk_sub_toInt (by omega) (by omega)
  have m2 : (-2 : Int32).toInt = -2 := by decide
  have p2 : (2 : Int32).toInt = 2 := by decide
  have p0 : (0 : Int32).toInt = 0 := by decide
  unfold dreamR at hk
  by_cases c1 : g (15 + b) + 2 ≤ g (15 + a)
  · rw [if_pos c1] at hk
    refine br_f (fun z => by rw [fa_le, ed, m2] at z; omega) (br_t (by rw [fa_le, ed, p2]; omega) ?_)
    refine br_f (fun z => by rw [fa_le, ed, p0] at z; omega) (br_f (fun z => by rw [fa_le, ed, p0] at z; omega) ?_)
    exact p_give h ha hb hab (by omega) (by omega) (by omega) hk
  rw [if_neg c1] at hk
  by_cases c2 : g (15 + a) + 2 ≤ g (15 + b)
  · rw [if_pos c2] at hk
    refine br_t (by rw [fa_le, ed, m2]; omega) ?_
    refine br_t (by rw [fa_le, ed, p0]; omega) (br_t (by rw [fa_le, ed, p0]; omega) ?_)
    exact p_give h hb ha (fun e => hab e.symm) (by omega) (by omega) (by omega) hk
  · rw [if_neg c2] at hk
    exact br_f (fun z => by rw [fa_le, ed, m2] at z; omega) (br_f (fun z => by rw [fa_le, ed, p2] at z; omega) (hk w (eqW_refl _ _) h))
end HH
