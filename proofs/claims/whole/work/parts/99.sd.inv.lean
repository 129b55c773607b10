/-! 99.sd: what lines tell is well made -/
theorem upG_s (k v : Nat) (g : Nat → Nat) : upG k v g k = v := if_pos rfl
theorem upG_n {k v j : Nat} {g : Nat → Nat} (h : j ≠ k) : upG k v g j = g j := if_neg h
theorem okT_cg {g g' : Nat → Nat} (e : ∀ i, g' (299 + i) = g (299 + i)) : ∀ {d i : Nat} {t : List Bool}, okT g d i t → okT g' d i t
  | 0, _, _, h => h
  | d + 1, i, t, h => by
    refine ⟨h.1, ?_⟩
    rw [e i]
    rcases h.2 with h | h | h | h | h
    · exact Or.inl ⟨h.1, h.2.1, okT_cg e h.2.2⟩
    · obtain ⟨h1, r, h2, h3⟩ := h
      exact Or.inr (Or.inl ⟨h1, r, h2, okT_cg e h3⟩)
    · obtain ⟨h0, h1, r, h2, h3⟩ := h
      exact Or.inr (Or.inr (Or.inl ⟨h0, h1, r, h2, okT_cg e h3⟩))
    · obtain ⟨h0, h1, r, h2, h3⟩ := h
      exact Or.inr (Or.inr (Or.inr (Or.inl ⟨h0, h1, r, h2, okT_cg e h3⟩)))
    · obtain ⟨h0, h1, r, h2, h3⟩ := h
      exact Or.inr (Or.inr (Or.inr (Or.inr ⟨h0, h1, r, h2, okT_cg e h3⟩)))
def gWl (g : Nat → Nat) (v : Nat) : Prop := (2 ≤ g (27 + v) ∧ g (27 + v) ≤ 12 ∧ 1 ≤ g (37 + v) ∧ g (37 + v) ≤ g (27 + v)) ∧ (1 ≤ g (47 + v) ∧ g (47 + v) ≤ 99 ∧ g (57 + v) < 2 ^ g 1) ∧ g (5 + v) < g (27 + v) ∧ g (15 + v) ≤ g (47 + v)
def gLw (g : Nat → Nat) : Prop := g 3 ≤ 900 ∧ (g 3 = 0 ∨ okT g (g 3) 0 [])
def GI (g : Nat → Nat) : Prop := (g 1 ≤ 10 ∧ g 2 ≤ 6 ∧ g 4 = 0 ∧ g 25 = 0 ∧ g 26 ≤ 999) ∧ (∀ v, v < g 1 → gWl g v) ∧ (∀ v, v < 10 → g 1 ≤ v → g (57 + v) = 0) ∧ (∀ h, h < g 2 → 1 ≤ g (67 + h) ∧ g (67 + h) ≤ 99 ∧ g (73 + h) < 2 ^ g 1) ∧ gLw g ∧ irr g
theorem GI_WF {g : Nat → Nat} {B : Nat} (h : GI g) (h0 : g 0 ≤ 900) (hB : 999 ≤ B) (hB2 : B < 2 ^ 24) : WF g B := by
  obtain ⟨⟨h1, h2, h3, h4, h5⟩, w, z, ho, lw, ir⟩ := h
  refine ⟨⟨⟨h0, h1, h2, lw.1, by omega⟩, fun v hv => ?_, ho⟩, ?_, ⟨fun v hv => (w v hv).2.2, ?_, ?_⟩, fun i hi => by omega, hB2⟩
  · obtain ⟨a, b, c⟩ := w v hv
    exact ⟨a, b⟩
  · rcases lw.2 with y | y
    · exact Or.inl ⟨y, ir⟩
    · exact Or.inr ⟨y, ir⟩
  · show g 25 < 2 ^ g 1
    rw [h4]
    exact Nat.two_pow_pos _
  · show g 26 ≤ B
    omega
theorem GI_cg {g g' : Nat → Nat} (e : ∀ k, k ≠ 0 → k ≠ 26 → g' k = g k) (e26 : g' 26 ≤ 999) (h : GI g) : GI g' := by
  obtain ⟨⟨h1, h2, h3, h4, h5⟩, w, z, ho, lw, ir⟩ := h
  have e1 := e 1 (by decide) (by decide)
  have e2 := e 2 (by decide) (by decide)
  have e3 := e 3 (by decide) (by decide)
  refine ⟨⟨by omega, by omega, by rw [e 4 (by decide) (by decide)]; exact h3, by rw [e 25 (by decide) (by decide)]; exact h4, e26⟩, fun v hv => ?_, fun v v1 v2 => ?_, fun h hh => ?_, ⟨by rw [e3]; exact lw.1, ?_⟩, irr_of e1 (fun v hv => e _ (by omega) (by omega)) ir⟩
  · rw [e1] at hv
    have y := w v hv
    unfold gWl at y ⊢
    rw [e1, e (27 + v) (by omega) (by omega), e (37 + v) (by omega) (by omega), e (47 + v) (by omega) (by omega), e (57 + v) (by omega) (by omega), e (5 + v) (by omega) (by omega), e (15 + v) (by omega) (by omega)]
    exact y
  · rw [e _ (by omega) (by omega)]
    exact z v v1 (by omega)
  · rw [e1, e (67 + h) (by omega) (by omega), e (73 + h) (by omega) (by omega)]
    exact ho h (by omega)
  · rw [e3]
    exact lw.2.imp id (fun y => okT_cg (fun i => e _ (by omega) (by omega)) y)
theorem GI_well {g : Nat → Nat} {r x h d v : Nat} (G : GI g) (w10 : g 1 < 10) (hr : 2 ≤ r ∧ r < 13) (hx : 1 ≤ x ∧ x < r + 1) (hh : h < r) (hd : 1 ≤ d ∧ d < 100) (hv : v < d + 1) : GI (addW g r x h d v) := by
  obtain ⟨⟨h1, h2, h3, h4, h5⟩, w, z, ho, lw, ir⟩ := G
  have a1 : addW g r x h d v 1 = g 1 + 1 := upG_s _ _ _
  have n : ∀ k, k ≠ 1 → k ≠ 15 + g 1 → k ≠ 47 + g 1 → k ≠ 5 + g 1 → k ≠ 37 + g 1 → k ≠ 27 + g 1 → addW g r x h d v k = g k := fun k k1 k2 k3 k4 k5 k6 => by
    unfold addW
    rw [upG_n k1, upG_n k2, upG_n k3, upG_n k4, upG_n k5, upG_n k6]
  have p2 : 2 ^ g 1 ≤ 2 ^ (g 1 + 1) := Nat.pow_le_pow_right (by decide) (by omega)
  have p0 := Nat.two_pow_pos (g 1 + 1)
  refine ⟨⟨by omega, by rw [n 2 (by omega) (by omega) (by omega) (by omega) (by omega) (by omega)]; exact h2, by rw [n 4 (by omega) (by omega) (by omega) (by omega) (by omega) (by omega)]; exact h3, by rw [n 25 (by omega) (by omega) (by omega) (by omega) (by omega) (by omega)]; exact h4, by rw [n 26 (by omega) (by omega) (by omega) (by omega) (by omega) (by omega)]; exact h5⟩, fun k hk => ?_, fun k k1 k2 => ?_, fun k hk => ?_, ⟨?_, ?_⟩, fun k hk => ?_⟩
  · unfold gWl
    rw [a1] at hk ⊢
    by_cases e : k = g 1
    · subst e
      have e27 : addW g r x h d v (27 + g 1) = r := by
        unfold addW
        rw [upG_n (by omega), upG_n (by omega), upG_n (by omega), upG_n (by omega), upG_n (by omega), upG_s]
      have e37 : addW g r x h d v (37 + g 1) = x := by
        unfold addW
        rw [upG_n (by omega), upG_n (by omega), upG_n (by omega), upG_n (by omega), upG_s]
      have e5 : addW g r x h d v (5 + g 1) = h := by
        unfold addW
        rw [upG_n (by omega), upG_n (by omega), upG_n (by omega), upG_s]
      have e47 : addW g r x h d v (47 + g 1) = d := by
        unfold addW
        rw [upG_n (by omega), upG_n (by omega), upG_s]
      have e15 : addW g r x h d v (15 + g 1) = v := by
        unfold addW
        rw [upG_n (by omega), upG_s]
      rw [e27, e37, e5, e47, e15, n (57 + g 1) (by omega) (by omega) (by omega) (by omega) (by omega) (by omega), z (g 1) w10 (Nat.le_refl _)]
      exact ⟨⟨by omega, by omega, by omega, by omega⟩, ⟨by omega, by omega, p0⟩, hh, by omega⟩
    · obtain ⟨y1, y2, y3⟩ := w k (by omega)
      rw [n (27 + k) (by omega) (by omega) (by omega) (by omega) (by omega) (by omega), n (37 + k) (by omega) (by omega) (by omega) (by omega) (by omega) (by omega), n (47 + k) (by omega) (by omega) (by omega) (by omega) (by omega) (by omega), n (57 + k) (by omega) (by omega) (by omega) (by omega) (by omega) (by omega), n (5 + k) (by omega) (by omega) (by omega) (by omega) (by omega) (by omega), n (15 + k) (by omega) (by omega) (by omega) (by omega) (by omega) (by omega)]
      exact ⟨y1, ⟨y2.1, y2.2.1, by omega⟩, y3⟩
  · rw [a1] at k2
    rw [n (57 + k) (by omega) (by omega) (by omega) (by omega) (by omega) (by omega)]
    exact z k k1 (by omega)
  · rw [n 2 (by omega) (by omega) (by omega) (by omega) (by omega) (by omega)] at hk
    rw [a1, n (67 + k) (by omega) (by omega) (by omega) (by omega) (by omega) (by omega), n (73 + k) (by omega) (by omega) (by omega) (by omega) (by omega) (by omega)]
    have y := ho k hk
    exact ⟨y.1, y.2.1, by omega⟩
  · rw [n 3 (by omega) (by omega) (by omega) (by omega) (by omega) (by omega)]
    exact lw.1
  · rw [n 3 (by omega) (by omega) (by omega) (by omega) (by omega) (by omega)]
    exact lw.2.imp id (fun y => okT_cg (fun i => n _ (by omega) (by omega) (by omega) (by omega) (by omega) (by omega)) y)
  · rw [a1] at hk
    rw [n (57 + k) (by omega) (by omega) (by omega) (by omega) (by omega) (by omega)]
    by_cases e : k = g 1
    · rw [e, z (g 1) w10 (Nat.le_refl _)]
      exact Nat.zero_testBit _
    · exact ir k (by omega)
theorem GI_house {g : Nat → Nat} {x f : Nat} (G : GI g) (h6 : g 2 < 6) (hx : 1 ≤ x ∧ x < 100) (hf : f < 2 ^ g 1) : GI (addH g x f) := by
  obtain ⟨⟨h1, h2, h3, h4, h5⟩, w, z, ho, lw, ir⟩ := G
  have a2 : addH g x f 2 = g 2 + 1 := upG_s _ _ _
  have n : ∀ k, k ≠ 2 → k ≠ 73 + g 2 → k ≠ 67 + g 2 → addH g x f k = g k := fun k k1 k2 k3 => by
    unfold addH
    rw [upG_n k1, upG_n k2, upG_n k3]
  have n1 := n 1 (by omega) (by omega) (by omega)
  refine ⟨⟨by omega, by omega, by rw [n 4 (by omega) (by omega) (by omega)]; exact h3, by rw [n 25 (by omega) (by omega) (by omega)]; exact h4, by rw [n 26 (by omega) (by omega) (by omega)]; exact h5⟩, fun k hk => ?_, fun k k1 k2 => ?_, fun k hk => ?_, ⟨?_, ?_⟩, irr_of n1 (fun v hv => n _ (by omega) (by omega) (by omega)) ir⟩
  · rw [n1] at hk
    have y := w k hk
    unfold gWl at y ⊢
    rw [n1, n (27 + k) (by omega) (by omega) (by omega), n (37 + k) (by omega) (by omega) (by omega), n (47 + k) (by omega) (by omega) (by omega), n (57 + k) (by omega) (by omega) (by omega), n (5 + k) (by omega) (by omega) (by omega), n (15 + k) (by omega) (by omega) (by omega)]
    exact y
  · rw [n1] at k2
    rw [n _ (by omega) (by omega) (by omega)]
    exact z k k1 k2
  · rw [a2] at hk
    rw [n1]
    by_cases e : k = g 2
    · subst e
      have e67 : addH g x f (67 + g 2) = x := by
        unfold addH
        rw [upG_n (by omega), upG_n (by omega), upG_s]
      have e73 : addH g x f (73 + g 2) = f := by
        unfold addH
        rw [upG_n (by omega), upG_s]
      rw [e67, e73]
      exact ⟨hx.1, by omega, hf⟩
    · rw [n (67 + k) (by omega) (by omega) (by omega), n (73 + k) (by omega) (by omega) (by omega)]
      exact ho k (by omega)
  · rw [n 3 (by omega) (by omega) (by omega)]
    exact lw.1
  · rw [n 3 (by omega) (by omega) (by omega)]
    exact lw.2.imp id (fun y => okT_cg (fun i => n _ (by omega) (by omega) (by omega)) y)
theorem joinG_n {g : Nat → Nat} {a b k : Nat} (h1 : k ≠ 57 + a) (h2 : k ≠ 57 + b) : joinG g a b k = g k := by
  unfold joinG
  rw [upG_n h2, upG_n h1]
theorem joinG_v {g : Nat → Nat} {a b v : Nat} (hab : a ≠ b) : joinG g a b (57 + v) = if v = b then g (57 + b) ||| 2 ^ a else if v = a then g (57 + a) ||| 2 ^ b else g (57 + v) := by
  unfold joinG
  by_cases e1 : v = b
  · rw [if_pos e1, e1, upG_s, upG_n (by omega)]
  · rw [if_neg e1, upG_n (by omega)]
    by_cases e2 : v = a
    · rw [if_pos e2, e2, upG_s]
    · rw [if_neg e2, upG_n (by omega)]
theorem GI_join {g : Nat → Nat} {a b : Nat} (G : GI g) (ha : a < g 1) (hb : b < g 1) (hab : a ≠ b) : GI (joinG g a b) := by
  obtain ⟨⟨h1, h2, h3, h4, h5⟩, w, z, ho, lw, ir⟩ := G
  have n : ∀ k, (k < 57 ∨ 67 ≤ k) → joinG g a b k = g k := fun k hk => joinG_n (by omega) (by omega)
  have n1 := n 1 (by omega)
  have pa : 2 ^ a < 2 ^ g 1 := Nat.pow_lt_pow_right (by decide) ha
  have pb : 2 ^ b < 2 ^ g 1 := Nat.pow_lt_pow_right (by decide) hb
  have vb : ∀ v, v < g 1 → joinG g a b (57 + v) < 2 ^ g 1 := fun v hv => by
    rw [joinG_v hab]
    by_cases e1 : v = b
    · rw [if_pos e1]
      exact Nat.or_lt_two_pow (w b hb).2.1.2.2 pa
    · rw [if_neg e1]
      by_cases e2 : v = a
      · rw [if_pos e2]
        exact Nat.or_lt_two_pow (w a ha).2.1.2.2 pb
      · rw [if_neg e2]
        exact (w v hv).2.1.2.2
  refine ⟨⟨by omega, by rw [n 2 (by omega)]; exact h2, by rw [n 4 (by omega)]; exact h3, by rw [n 25 (by omega)]; exact h4, by rw [n 26 (by omega)]; exact h5⟩, fun k hk => ?_, fun k k1 k2 => ?_, fun k hk => ?_, ⟨?_, ?_⟩, fun k hk => ?_⟩
  · rw [n1] at hk
    obtain ⟨y1, y2, y3⟩ := w k hk
    unfold gWl
    rw [n1, n (27 + k) (by omega), n (37 + k) (by omega), n (47 + k) (by omega), n (5 + k) (by omega), n (15 + k) (by omega)]
    exact ⟨y1, ⟨y2.1, y2.2.1, vb k hk⟩, y3⟩
  · rw [n1] at k2
    rw [joinG_v hab, if_neg (by omega), if_neg (by omega)]
    exact z k k1 k2
  · rw [n 2 (by omega)] at hk
    rw [n1, n (67 + k) (by omega), n (73 + k) (by omega)]
    exact ho k hk
  · rw [n 3 (by omega)]
    exact lw.1
  · rw [n 3 (by omega)]
    exact lw.2.imp id (fun y => okT_cg (fun i => n _ (by omega)) y)
  · rw [n1] at hk
    rw [joinG_v hab]
    by_cases e1 : k = b
    · rw [if_pos e1, e1, kbit, ir b hb, decide_eq_false hab]
      rfl
    · rw [if_neg e1]
      by_cases e2 : k = a
      · rw [if_pos e2, e2, kbit, ir a ha, decide_eq_false (fun y => hab y.symm)]
        rfl
      · rw [if_neg e2]
        exact ir k hk
