/-! 51: sets as bits, counts, rows -/
def mk (p : Nat → Bool) : Nat → Nat
  | 0 => 0
  | n + 1 => mk p n + (if p n then 2 ^ n else 0)
theorem mk_f {p : Nat → Bool} {n : Nat} (h : p n = false) : mk p (n + 1) = mk p n := by show mk p n + _ = _; rw [h]; rfl
theorem mk_t {p : Nat → Bool} {n : Nat} (h : p n = true) : mk p (n + 1) = mk p n + 2 ^ n := by show mk p n + _ = _; rw [h]; rfl
theorem mk_lt (p : Nat → Bool) : ∀ n, mk p n < 2 ^ n
  | 0 => Nat.zero_lt_one
  | n + 1 => by
    have h := mk_lt p n
    have h2 : 2 ^ (n + 1) = 2 * 2 ^ n := by rw [Nat.pow_succ, Nat.mul_comm]
    show mk p n + (if p n then 2 ^ n else 0) < 2 ^ (n + 1)
    split <;> omega
theorem mk_le (p : Nat → Bool) {n m : Nat} (h : n ≤ m) : mk p n < 2 ^ m := Nat.lt_of_lt_of_le (mk_lt p n) (Nat.pow_le_pow_right (by decide) h)
theorem mk_bit (p : Nat → Bool) : ∀ n k, (mk p n).testBit k = (decide (k < n) && p k)
  | 0, k => by simp [mk]
  | n + 1, k => by
    have h := mk_lt p n
    have ih := mk_bit p n k
    show (mk p n + (if p n then 2 ^ n else 0)).testBit k = _
    by_cases hp : p n = true
    · rw [if_pos hp]
      by_cases hk : k = n
      · subst hk
        rw [Nat.add_comm, Nat.testBit_two_pow_add_eq, Nat.testBit_lt_two_pow h]
        simp [hp]
      · by_cases hk2 : k < n
        · rw [Nat.add_comm, Nat.testBit_two_pow_add_gt hk2, ih]
          simp [hk2, Nat.lt_succ_of_lt hk2]
        · have : k > n := by omega
          rw [Nat.testBit_lt_two_pow (Nat.lt_of_lt_of_le (show mk p n + 2 ^ n < 2 ^ (n + 1) by rw [Nat.pow_succ]; omega) (Nat.pow_le_pow_right (by decide) this))]
          simp; omega
    · rw [if_neg hp, Nat.add_zero, ih]
      by_cases hk : k = n
      · subst hk; simp [hp]
      · by_cases hk2 : k < n
        · simp [hk2, Nat.lt_succ_of_lt hk2]
        · have h1 : ¬ k < n + 1 := by omega
          simp [hk2, h1]
theorem mk_cong {p q : Nat → Bool} : ∀ {n : Nat}, (∀ k, k < n → p k = q k) → mk p n = mk q n
  | 0, _ => rfl
  | n + 1, h => by
    show mk p n + _ = mk q n + _
    rw [mk_cong (fun k hk => h k (Nat.lt_succ_of_lt hk)), h n (Nat.lt_succ_self n)]
theorem mk_ext {s t n : Nat} (hs : s < 2 ^ n) (ht : t < 2 ^ n) (h : ∀ k, k < n → s.testBit k = t.testBit k) : s = t := by
  apply Nat.eq_of_testBit_eq
  intro k
  by_cases hk : k < n
  · exact h k hk
  · have : 2 ^ n ≤ 2 ^ k := Nat.pow_le_pow_right (by decide) (by omega)
    rw [Nat.testBit_lt_two_pow (by omega), Nat.testBit_lt_two_pow (by omega)]
theorem mk_of {s n : Nat} (hs : s < 2 ^ n) : mk (fun k => s.testBit k) n = s := mk_ext (mk_lt _ n) hs (fun k hk => by rw [mk_bit]; simp [hk])
def b2i (b : Bool) : Int32 := if b then 1 else 0
theorem b2i_t : b2i true = 1 := rfl
theorem b2i_f : b2i false = 0 := rfl
theorem b2i_0 {b : Bool} : b2i b = 0 ↔ b = false := by cases b <;> decide
theorem b2i_1 {b : Bool} : b2i b = 1 ↔ b = true := by cases b <;> decide
theorem p_shr {s k : Nat} (hs : s < 2 ^ 31) (hk : k < 32) : x_ishr (nI s) (nI k) = nI (s / 2 ^ k) := pk_shrN hs _ k (s_l k hk)
theorem p_shl {s k : Nat} (hk : k < 32) (h : s * 2 ^ k < 2 ^ 32) : x_ishl (nI s) (nI k) = nI (s * 2 ^ k) := pk_shlN _ k (s_l k hk) h
theorem p_one {k : Nat} (hk : k < 31) : x_ishl 1 (nI k) = nI (2 ^ k) := by
  have h := p_shl (s := 1) (k := k) (by omega) (by rw [Nat.one_mul]; exact Nat.pow_lt_pow_right (by decide) (by omega))
  rw [Nat.one_mul] at h
  exact h
theorem p_low (s : Nat) : nI s &&& 1 = nI (s % 2) := fa_mask s 1
theorem p_bit {s k : Nat} (hs : s < 2 ^ 31) (hk : k < 32) : x_ishr (nI s) (nI k) &&& 1 = b2i (s.testBit k) := by
  rw [p_shr hs hk, p_low]
  have h : s.testBit k = decide (s / 2 ^ k % 2 = 1) := by rw [Nat.testBit_eq_decide_div_mod_eq]
  rw [h]
  rcases Nat.mod_two_eq_zero_or_one (s / 2 ^ k) with e | e <;> rw [e] <;> rfl
theorem p_or (p : Nat → Bool) {n : Nat} (h : n < 31) : nI (mk p n) ||| nI (2 ^ n) = nI (mk p n + 2 ^ n) := by
  have e := fa_or_sum (a := mk p n) (k := n) 1 (mk_lt p n)
  rw [Nat.mul_one, Nat.add_comm] at e
  rw [← e, fa_or, fa_or, Nat.or_comm]
theorem p_or0 (x : Int32) : x ||| 0 = x := by
  apply Int32.toBitVec_inj.mp
  rw [Int32.toBitVec_or]
  show x.toBitVec ||| 0#32 = _
  simp
def cb (s : Nat) : Nat := fb_ct (fun k => s.testBit k) 10
theorem cb_low : ∀ s, s < 1024 → 0 < s → s &&& (s - 1) < s ∧ cb (s &&& (s - 1)) + 1 = cb s := by decide +kernel
theorem cb_le (s : Nat) : cb s ≤ 10 := fb_ct_le _ 10
theorem p_size {s : Nat} (hs : s < 1024) {K : Int32 → Wd → Prop} {w : Wd} (h : K (nI (cb s)) w) : w_X12_size (nI s) K w := by
  have go : ∀ m s c, s ≤ m → s < 1024 → K (nI (c + cb s)) w → ∃ n, l_X12_size_4 K n (nI c) (nI s) w := by
    intro m
    induction m with
    | zero =>
      intro s c h1 h2 h3
      have : s = 0 := by omega
      subst this
      refine ⟨1, br_t rfl ?_⟩
      exact h3
    | succ m ih =>
      intro s c h1 h2 h3
      by_cases h0 : s = 0
      · subst h0
        exact ⟨1, br_t rfl h3⟩
      · have h4 := cb_low s h2 (by omega)
        obtain ⟨n, hn⟩ := ih (s &&& (s - 1)) (c + 1) (by omega) (by omega) (by rw [show c + 1 + cb (s &&& (s - 1)) = c + cb s by omega]; exact h3)
        refine ⟨n + 1, br_f (nI_ne0 (by omega) (by omega)) ?_⟩
        have e : nI s &&& (nI s - 1) = nI (s &&& (s - 1)) := by
          rw [show nI s - 1 = nI (s - 1) from pk_sub (a := s) (b := 1) (by omega), fa_and]
        rw [e, nI_1]
        exact hn
  obtain ⟨n, hn⟩ := go s s 0 (Nat.le_refl _) hs (by rw [Nat.zero_add]; exact h)
  exact ⟨n, hn⟩
def bcf (a0 : Int32) : Int32 :=
  let a := a0 - ((x_iushr a0 1) &&& 1431655765)
  let b := (a &&& 858993459) + ((x_iushr a 2) &&& 858993459)
  let c := (b + (x_iushr b 4)) &&& 252645135
  let d := c + (x_iushr c 8)
  (d + (x_iushr d 16)) &&& 63
theorem bcf_cb : ∀ s, s < 1024 → bcf (nI s) = nI (cb s) := by decide +kernel
theorem p_bitCount {s : Nat} (hs : s < 1024) {K : Int32 → Wd → Prop} {w : Wd} (h : K (nI (cb s)) w) : w_J6_bitCount_0f7a4 (nI s) K w := by
  rw [← bcf_cb s hs] at h
  exact h
theorem p_xhas {s k : Nat} (hs : s < 2 ^ 31) (hk : k < 32) {K : Int32 → Wd → Prop} {w : Wd} (h : K (b2i (s.testBit k)) w) : w_X12_has (nI s) (nI k) K w := by
  unfold w_X12_has
  rw [p_bit hs hk]
  cases e : s.testBit k <;> rw [e] at h
  · exact br_f (by decide) h
  · exact br_t rfl h
