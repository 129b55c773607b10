/-! 99.q1: every house searched, one behind the other: as many are left as hours lack -/
noncomputable def bD (p : Prop) : Bool := @decide p (Classical.propDecidable p)
theorem bD_t {p : Prop} : bD p = true ↔ p := @decide_eq_true_iff p (Classical.propDecidable p)
noncomputable def mat (m : Nat → Nat) (k : Nat) : Bool := @decide (im m 0 k) (Classical.propDecidable _)
theorem mat_t {m : Nat → Nat} {k : Nat} : mat m k = true ↔ im m 0 k := by
  unfold mat
  exact @decide_eq_true_iff (im m 0 k) (Classical.propDecidable _)
theorem mat_f {m : Nat → Nat} {k : Nat} : mat m k = false ↔ ¬ im m 0 k := by
  unfold mat
  exact @decide_eq_false_iff_not (im m 0 k) (Classical.propDecidable _)
def SB (E : Nat → Nat → Bool) (n k : Nat) (m : Nat → Nat) : Prop := mtc E n m ∧ mij m 0 ∧ (∀ j, im m 0 j → j < k) ∧ ∃ C, kCl E m C ∧ ∀ j, j < k → im m 0 j ∨ ∀ s, s < 41 → E j s = true → C s = true
theorem SB_0 (E : Nat → Nat → Bool) (n : Nat) : SB E n 0 (fun _ => 0) := ⟨fun t _ h => absurd rfl h, fun s t _ _ _ _ h => absurd rfl h, fun j ⟨t, _, _, e⟩ => by simp at e, fun _ => false, fun t _ h => Bool.noConfusion h, fun j hj => absurd hj (Nat.not_lt_zero j)⟩
theorem SB_nok {E : Nat → Nat → Bool} {n k : Nat} {m : Nat → Nat} (h : SB E n k m) : nok m 0 k := fun t ht v e => absurd (h.2.2.1 k ⟨t, ht, v, e⟩) (Nat.lt_irrefl k)
theorem SB_s {E : Nat → Nat → Bool} {n k : Nat} {m m' : Nat → Nat} (h : SB E n k m) (s : kS E n k m 0 m') : SB E n (k + 1) m' ∧ fb_ct (mat m') (k + 1) = fb_ct (mat m) k + 1 := by
  obtain ⟨h1, h2, h3, C, c1, c2⟩ := h
  obtain ⟨s1, s2, s3, s4, s5⟩ := s
  obtain ⟨d1, -⟩ := s5 C c1
  refine ⟨⟨s1, s3, fun j hj => ?_, C, fun t ht ct => ?_, fun j hj => ?_⟩, ?_⟩
  · rcases (s4 j).mp hj with q | q
    · omega
    · have := h3 j q; omega
  · rw [d1 t ht ct]
    exact c1 t ht ct
  · by_cases e : j = k
    · exact Or.inl ((s4 j).mpr (Or.inl e))
    · rcases c2 j (by omega) with q | q
      · exact Or.inl ((s4 j).mpr (Or.inr q))
      · exact Or.inr q
  · rw [fb_ct_succ, if_pos (mat_t.mpr ((s4 k).mpr (Or.inl rfl)))]
    congr 1
    refine fb_ct_cong (fun j hj => ?_)
    cases e : mat m j
    · refine mat_f.mpr (fun z => mat_f.mp e ?_)
      rcases (s4 j).mp z with q | q
      · omega
      · exact q
    · exact mat_t.mpr ((s4 j).mpr (Or.inr (mat_t.mp e)))
theorem SB_f {E : Nat → Nat → Bool} {n k V : Nat} {m : Nat → Nat} (h : SB E n k m) (f : kL E k m 0 V 41) : SB E n (k + 1) m ∧ fb_ct (mat m) (k + 1) = fb_ct (mat m) k := by
  have no : mat m k = false := mat_f.mpr (fun z => absurd (h.2.2.1 k z) (Nat.lt_irrefl k))
  obtain ⟨h1, h2, h3, C, c1, c2⟩ := h
  refine ⟨⟨h1, h2, fun j hj => by have := h3 j hj; omega, fun t => C t || V.testBit t, fun t ht ct => ?_, fun j hj => ?_⟩, ?_⟩
  · rw [Bool.or_eq_true] at ct
    rcases ct with q | q
    · have z := c1 t ht q
      exact ⟨z.1, fun s hs es => by show (C s || V.testBit s) = true; rw [z.2 s hs es]; rfl⟩
    · have z := f.2.2 t ht (Nat.zero_testBit t) q
      exact ⟨z.1, fun s hs es => by show (C s || V.testBit s) = true; rw [z.2 s hs es, Bool.or_true]⟩
  · by_cases e : j = k
    · subst e
      exact Or.inr (fun s hs es => by show (C s || V.testBit s) = true; rw [f.2.1 s (by omega) hs es, Bool.or_true])
    · rcases c2 j (by omega) with q | q
      · exact Or.inl q
      · exact Or.inr (fun s hs es => by show (C s || V.testBit s) = true; rw [q s hs es]; rfl)
  · rw [fb_ct_succ, no]
    rfl
theorem SB_DF {E : Nat → Nat → Bool} {n : Nat} {m : Nat → Nat} (h : SB E n n m) : DF E 0 n (n - fb_ct (mat m) n) := by
  obtain ⟨h1, h2, h3, C, c1, c2⟩ := h
  have nt := fb_ct_not (mat m) n
  have eD : n - fb_ct (mat m) n = fb_ct (fun k => !mat m k) n := by omega
  rw [eD]
  have ch : ∀ k, ∃ t, mat m k = true → t < 41 ∧ m t = k + 1 := fun k => by
    cases e : mat m k
    · exact ⟨0, fun z => Bool.noConfusion z⟩
    · obtain ⟨t, ht, -, et⟩ := mat_t.mp e
      exact ⟨t, fun _ => ⟨ht, et⟩⟩
  have up : ∀ S : Nat → Bool, fb_ct S n ≤ fb_ct (fun t => nbF E S t n) 41 + fb_ct (fun k => !mat m k) n := fun S => by
    have e1 : fb_ct S n = fb_ct (fun k => (S k && mat m k) || (S k && !mat m k)) n := fb_ct_cong (fun k _ => by cases S k <;> cases mat m k <;> rfl)
    have e2 : fb_ct (fun k => (S k && mat m k) || (S k && !mat m k)) n = fb_ct (fun k => S k && mat m k) n + fb_ct (fun k => S k && !mat m k) n := fb_ct_or (fun k _ => by cases S k <;> cases mat m k <;> simp)
    have e3 : fb_ct (fun k => S k && !mat m k) n ≤ fb_ct (fun k => !mat m k) n := fb_ct_sub (fun k _ z => by rw [Bool.and_eq_true] at z; exact z.2)
    have e4 : fb_ct (fun k => S k && mat m k) n ≤ fb_ct (fun t => nbF E S t n) 41 := ct_inj (f := fun k => Classical.choose (ch k)) (fun k hk z => by
      rw [Bool.and_eq_true] at z
      obtain ⟨q1, q2⟩ := Classical.choose_spec (ch k) z.2
      refine ⟨q1, nbF_iff.mpr ⟨k, hk, z.1, ?_⟩⟩
      have y := h1 _ q1 (by rw [q2]; omega)
      rw [q2] at y
      exact y.2) (fun i j hi hj zi zj e => by
      rw [Bool.and_eq_true] at zi zj
      have a := (Classical.choose_spec (ch i) zi.2).2
      have b := (Classical.choose_spec (ch j) zj.2).2
      have e' : Classical.choose (ch i) = Classical.choose (ch j) := e
      rw [e'] at a
      omega)
    omega
  refine ⟨fun S _ => up S, ?_⟩
  obtain ⟨MC, hMC⟩ : ∃ MC : Nat → Bool, ∀ k, MC k = true ↔ ∃ t, t < 41 ∧ C t = true ∧ m t = k + 1 := ⟨fun k => bD (∃ t, t < 41 ∧ C t = true ∧ m t = k + 1), fun k => bD_t⟩
  refine ⟨fun k => !mat m k || MC k, fun k _ => Nat.zero_le k, ?_⟩
  have a1 : fb_ct (fun k => !mat m k || MC k) n = fb_ct (fun k => !mat m k) n + fb_ct MC n := fb_ct_or (fun k _ z => by
    obtain ⟨t, ht, -, et⟩ := (hMC k).mp z.2
    have : mat m k = true := mat_t.mpr ⟨t, ht, Nat.zero_testBit t, et⟩
    rw [this] at z
    exact Bool.noConfusion z.1)
  have a2 : fb_ct (fun t => nbF E (fun k => !mat m k || MC k) t n) 41 ≤ fb_ct C 41 := fb_ct_sub (fun t ht z => by
    obtain ⟨k, hk, sk, ek⟩ := nbF_iff.mp z
    rw [Bool.or_eq_true] at sk
    rcases sk with q | q
    · rcases c2 k hk with y | y
      · rw [mat_t.mpr y] at q; exact Bool.noConfusion q
      · exact y t ht ek
    · obtain ⟨s, hs, cs, es⟩ := (hMC k).mp q
      have y := (c1 s hs cs).2 t ht
      rw [es] at y
      exact y ek)
  have a3 : fb_ct C 41 ≤ fb_ct MC n := ct_inj (f := fun t => m t - 1) (fun t ht ct => by
    have z := c1 t ht ct
    have y := h1 t ht z.1
    exact ⟨y.1, (hMC _).mpr ⟨t, ht, ct, by have := z.1; omega⟩⟩) (fun s t hs ht cs ct e => by
    have z := (c1 s hs cs).1
    have y := (c1 t ht ct).1
    have e' : m s - 1 = m t - 1 := e
    exact h2 s t hs ht (Nat.zero_testBit s) (Nat.zero_testBit t) z (by omega))
  have a4 := up (fun k => !mat m k || MC k)
  omega
