/-! 99.q8: sets of houses, their hours as one number -/
def unH (Q : Nat → Nat) (s : Nat) : Nat → Nat
  | 0 => 0
  | k + 1 => unH Q s k ||| (if s.testBit k then Q k else 0)
theorem unH_bit {Q : Nat → Nat} {s t : Nat} : ∀ n, (unH Q s n).testBit t = nbF (fun k t => (Q k).testBit t) (fun k => s.testBit k) t n
  | 0 => Nat.zero_testBit t
  | n + 1 => by
    show (unH Q s n ||| (if s.testBit n then Q n else 0)).testBit t = (nbF _ _ t n || (s.testBit n && (Q n).testBit t))
    rw [Nat.testBit_or, unH_bit n]
    cases s.testBit n
    · rw [if_neg (by decide), Nat.zero_testBit, Bool.false_and]
    · rw [if_pos rfl, Bool.true_and]
theorem unH_lt {Q : Nat → Nat} {s : Nat} (h : ∀ k, Q k < 2 ^ 41) : ∀ n, unH Q s n < 2 ^ 41
  | 0 => Nat.two_pow_pos 41
  | n + 1 => by
    show unH Q s n ||| (if s.testBit n then Q n else 0) < 2 ^ 41
    refine Nat.or_lt_two_pow (unH_lt h n) ?_
    split
    · exact h n
    · exact Nat.two_pow_pos 41
theorem set_d : ∀ s, s < 64 → 0 < s → s &&& (s - 1) < s ∧ lb s < 6 ∧ s.testBit (lb s) = true ∧ ∀ k, k < 6 → s.testBit k = ((s &&& (s - 1)).testBit k || decide (k = lb s)) := by decide +kernel
theorem set_n : ∀ n, n ≤ 6 → ∀ s, s < 2 ^ n → 0 < s → lb s < n := by decide +kernel
theorem set_a : ∀ a, a ≤ 6 → ∀ s, s < 64 → s &&& (2 ^ a - 1) = 0 → (s &&& (s - 1)) &&& (2 ^ a - 1) = 0 ∧ ∀ k, k < a → s.testBit k = false := by decide +kernel
theorem set_b : ∀ a, a ≤ 6 → ∀ s, s < 64 → (∀ k, k < a → s.testBit k = false) → s &&& (2 ^ a - 1) = 0 := by decide +kernel
theorem cb_6 : ∀ s, s < 64 → cb s = fb_ct (fun k => s.testBit k) 6 := by decide +kernel
theorem unH_s {Q : Nat → Nat} {s n : Nat} (hn : n ≤ 6) (hs : s < 2 ^ n) (h0 : 0 < s) : unH Q (s &&& (s - 1)) n ||| Q (lb s) = unH Q s n := by
  have s64 : s < 64 := Nat.lt_of_lt_of_le hs (show 2 ^ n ≤ 2 ^ 6 from Nat.pow_le_pow_right (by decide) hn)
  obtain ⟨d1, d2, d3, d4⟩ := set_d s s64 h0
  have d5 := set_n n hn s hs h0
  apply Nat.eq_of_testBit_eq
  intro t
  rw [Nat.testBit_or, unH_bit, unH_bit]
  apply Bool.eq_iff_iff.mpr
  rw [Bool.or_eq_true, nbF_iff, nbF_iff]
  constructor
  · intro h
    rcases h with ⟨k, hk, k1, k2⟩ | h
    · exact ⟨k, hk, by show s.testBit k = true; rw [d4 k (by omega)]; have k1' : (s &&& (s - 1)).testBit k = true := k1; rw [k1']; rfl, k2⟩
    · exact ⟨lb s, d5, d3, h⟩
  · intro ⟨k, hk, k1, k2⟩
    have k1' : s.testBit k = true := k1
    rw [d4 k (by omega), Bool.or_eq_true] at k1'
    rcases k1' with q | q
    · exact Or.inl ⟨k, hk, q, k2⟩
    · have e := of_decide_eq_true q
      subst e
      exact Or.inr k2
