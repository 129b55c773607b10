/-! 99.q9: by how much hours lack, said of numbers -/
theorem ct_6 {s n : Nat} (hn : n ≤ 6) (hs : s < 2 ^ n) : cb s = fb_ct (fun k => s.testBit k) n := by
  have s64 : s < 64 := Nat.lt_of_lt_of_le hs (show 2 ^ n ≤ 2 ^ 6 from Nat.pow_le_pow_right (by decide) hn)
  rw [cb_6 s s64]
  have e := fb_ct_split (fun k => s.testBit k) n (6 - n)
  have z : fb_ct (fun k => s.testBit (n + k)) (6 - n) = 0 := fb_ct_zero.mpr (fun k _ => Nat.testBit_lt_two_pow (Nat.lt_of_lt_of_le hs (Nat.pow_le_pow_right (by decide) (Nat.le_add_right n k))))
  rw [z, Nat.add_zero, show n + (6 - n) = 6 by omega] at e
  exact e
theorem nb_num {Q : Nat → Nat} {M n s : Nat} {S : Nat → Bool} (h : ∀ k, k < n → s.testBit k = S k) (t : Nat) : nbF (fun k t => (Q k).testBit t && M.testBit t) S t n = (unH Q s n &&& M).testBit t := by
  rw [Nat.testBit_and, unH_bit]
  apply Bool.eq_iff_iff.mpr
  rw [Bool.and_eq_true, nbF_iff, nbF_iff]
  constructor
  · intro ⟨k, hk, k1, k2⟩
    have k2' : ((Q k).testBit t && M.testBit t) = true := k2
    rw [Bool.and_eq_true] at k2'
    exact ⟨⟨k, hk, (h k hk).trans k1, k2'.1⟩, k2'.2⟩
  · intro ⟨⟨k, hk, k1, k2⟩, k3⟩
    refine ⟨k, hk, (h k hk).symm.trans k1, ?_⟩
    show ((Q k).testBit t && M.testBit t) = true
    rw [Bool.and_eq_true]
    exact ⟨k2, k3⟩
theorem DF_num {Q : Nat → Nat} {M a n D : Nat} (hn : n ≤ 6) (ha : a ≤ 6) (h1 : ∀ s, s < 2 ^ n → s &&& (2 ^ a - 1) = 0 → cb s ≤ fb_ct (fun t => (unH Q s n &&& M).testBit t) 41 + D) (h2 : ∃ s, s < 2 ^ n ∧ s &&& (2 ^ a - 1) = 0 ∧ cb s = fb_ct (fun t => (unH Q s n &&& M).testBit t) 41 + D) : DF (fun k t => (Q k).testBit t && M.testBit t) a n D := by
  have p64 : 2 ^ n ≤ 64 := (show 2 ^ n ≤ 2 ^ 6 from Nat.pow_le_pow_right (by decide) hn)
  refine ⟨fun S hS => ?_, ?_⟩
  · have hs := mk_lt S n
    have hb : ∀ k, k < n → (mk S n).testBit k = S k := fun k hk => by rw [mk_bit, decide_eq_true hk, Bool.true_and]
    have lo : mk S n &&& (2 ^ a - 1) = 0 := set_b a ha _ (by omega) (fun k hk => by
      rw [mk_bit]
      cases q : S k
      · rw [Bool.and_false]
      · have := hS k q
        omega)
    have z := h1 _ hs lo
    rw [ct_6 hn hs, fb_ct_cong (fun k hk => hb k hk)] at z
    rw [fb_ct_cong (fun t _ => nb_num hb t)]
    exact z
  · obtain ⟨s, hs, lo, e⟩ := h2
    refine ⟨fun k => s.testBit k, fun k hk => ?_, ?_⟩
    · by_cases c : a ≤ k
      · exact c
      · have z := (set_a a ha s (by omega) lo).2 k (by omega)
        have hk' : s.testBit k = true := hk
        rw [z] at hk'
        exact Bool.noConfusion hk'
    · rw [fb_ct_cong (fun t _ => nb_num (s := s) (fun k _ => rfl) t), ← ct_6 hn hs]
      exact e
