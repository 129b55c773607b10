/-! 99.q4: Long.bitCount -/
def rep (b : Nat) : Nat → Nat
  | 0 => 0
  | j + 1 => b + 256 * rep b j
def l1 (j x : Nat) : Nat := x - (x / 2 &&& rep 85 j)
def l2 (j x : Nat) : Nat := (x &&& rep 51 j) + (x / 4 &&& rep 51 j)
def l3 (j x : Nat) : Nat := (x + x / 16) &&& rep 15 j
theorem and_lane {u p : Nat} (hu : u < 256) (hp : p < 256) (v r : Nat) : (u + 256 * v) &&& (p + 256 * r) = (u &&& p) + 256 * (v &&& r) := by
  have h1 := Nat.and_mod_two_pow (a := u + 256 * v) (b := p + 256 * r) (n := 8)
  have h2 := Nat.and_div_two_pow (a := u + 256 * v) (b := p + 256 * r) (n := 8)
  rw [show (2 : Nat) ^ 8 = 256 from rfl] at h1 h2
  rw [show (u + 256 * v) % 256 = u by omega, show (p + 256 * r) % 256 = p by omega] at h1
  rw [show (u + 256 * v) / 256 = v by omega, show (p + 256 * r) / 256 = r by omega] at h2
  omega
def b1 (a : Nat) : Nat := a - (a / 2 &&& 85)
def b2 (a : Nat) : Nat := (a &&& 51) + (a / 4 &&& 51)
def b3 (a : Nat) : Nat := (a + a / 16) &&& 15
theorem b1_d : ∀ a, a < 256 → b1 a < 256 ∧ (a / 2 &&& 85) ≤ a ∧ (a / 2 + 128) &&& 85 = a / 2 &&& 85 := by decide +kernel
theorem b2_d : ∀ a, a < 256 → ((a / 4 + 64) &&& 51 = a / 4 &&& 51 ∧ (a / 4 + 128) &&& 51 = a / 4 &&& 51 ∧ (a / 4 + 192) &&& 51 = a / 4 &&& 51) ∧ b2 (b1 a) ≤ 68 ∧ b2 (b1 a) % 16 ≤ 4 ∧ b3 (b2 (b1 a)) = fb_ct (fun k => a.testBit k) 8 := by decide +kernel
theorem b3_d : ∀ a, a < 69 → ∀ c, c < 5 → a + a / 16 + 16 * c < 256 ∧ (a + a / 16 + 16 * c) &&& 15 = b3 a := by decide +kernel
theorem l1_s {j a b : Nat} (ha : a < 256) : l1 (j + 1) (a + 256 * b) = b1 a + 256 * l1 j b := by
  obtain ⟨d1, d2, d3⟩ := b1_d a ha
  have e : (a + 256 * b) / 2 &&& rep 85 (j + 1) = (a / 2 &&& 85) + 256 * (b / 2 &&& rep 85 j) := by
    show _ &&& (85 + 256 * rep 85 j) = _
    have h : b % 2 = 0 ∨ b % 2 = 1 := by omega
    rcases h with h | h
    · rw [show (a + 256 * b) / 2 = a / 2 + 256 * (b / 2) by omega, and_lane (by omega) (by decide)]
    · rw [show (a + 256 * b) / 2 = (a / 2 + 128) + 256 * (b / 2) by omega, and_lane (by omega) (by decide), d3]
  have t : (b / 2 &&& rep 85 j) ≤ b := Nat.le_trans Nat.and_le_left (Nat.div_le_self b 2)
  unfold l1 b1
  rw [e]
  omega
theorem l2_s {j a b : Nat} (ha : a < 256) : l2 (j + 1) (a + 256 * b) = b2 a + 256 * l2 j b := by
  obtain ⟨⟨d1, d2, d3⟩, -⟩ := b2_d a ha
  have e : (a + 256 * b) / 4 &&& rep 51 (j + 1) = (a / 4 &&& 51) + 256 * (b / 4 &&& rep 51 j) := by
    show _ &&& (51 + 256 * rep 51 j) = _
    have h : b % 4 = 0 ∨ b % 4 = 1 ∨ b % 4 = 2 ∨ b % 4 = 3 := by omega
    rcases h with h | h | h | h
    · rw [show (a + 256 * b) / 4 = a / 4 + 256 * (b / 4) by omega, and_lane (by omega) (by decide)]
    · rw [show (a + 256 * b) / 4 = (a / 4 + 64) + 256 * (b / 4) by omega, and_lane (by omega) (by decide), d1]
    · rw [show (a + 256 * b) / 4 = (a / 4 + 128) + 256 * (b / 4) by omega, and_lane (by omega) (by decide), d2]
    · rw [show (a + 256 * b) / 4 = (a / 4 + 192) + 256 * (b / 4) by omega, and_lane (by omega) (by decide), d3]
  have e2 : (a + 256 * b) &&& rep 51 (j + 1) = (a &&& 51) + 256 * (b &&& rep 51 j) := and_lane ha (by decide) _ _
  unfold l2 b2
  rw [e, e2]
  omega
theorem l3_s {j a b : Nat} (ha : a ≤ 68) (hb : b % 16 ≤ 4) : l3 (j + 1) (a + 256 * b) = b3 a + 256 * l3 j b := by
  obtain ⟨d1, d2⟩ := b3_d a (by omega) (b % 16) (by omega)
  show (a + 256 * b + (a + 256 * b) / 16) &&& (15 + 256 * rep 15 j) = _
  rw [show a + 256 * b + (a + 256 * b) / 16 = (a + a / 16 + 16 * (b % 16)) + 256 * (b + b / 16) by omega, and_lane d1 (by decide), d2]
  rfl
/-- the counts of the bytes -/
def bys : Nat → Nat → Nat
  | 0, _ => 0
  | j + 1, x => fb_ct (fun k => (x % 256).testBit k) 8 + 256 * bys j (x / 256)
theorem l12_4 : ∀ (j x : Nat), x < 256 ^ j → l2 j (l1 j x) % 16 ≤ 4
  | 0, x, h => by
    have : x = 0 := by have : x < 1 := h; omega
    subst this
    decide
  | j + 1, x, h => by
    have ha : x % 256 < 256 := Nat.mod_lt _ (by decide)
    have z := b2_d (x % 256) ha
    rw [show x = x % 256 + 256 * (x / 256) by omega, l1_s ha, l2_s (b1_d _ ha).1]
    have := z.2.2.1
    omega
theorem l_bys : ∀ (j x : Nat), x < 256 ^ j → l3 j (l2 j (l1 j x)) = bys j x
  | 0, x, h => by
    have : x = 0 := by have : x < 1 := h; omega
    subst this
    decide
  | j + 1, x, h => by
    have ha : x % 256 < 256 := Nat.mod_lt _ (by decide)
    have hb : x / 256 < 256 ^ j := by
      rw [Nat.pow_succ] at h
      exact Nat.div_lt_of_lt_mul (by rw [Nat.mul_comm]; exact h)
    have z := b2_d (x % 256) ha
    have ih := l_bys j (x / 256) hb
    have e : l3 (j + 1) (l2 (j + 1) (l1 (j + 1) (x % 256 + 256 * (x / 256)))) = bys (j + 1) x := by
      rw [l1_s ha, l2_s (b1_d _ ha).1, l3_s z.2.1 (l12_4 j _ hb), ih, z.2.2.2]
      rfl
    rw [show x % 256 + 256 * (x / 256) = x by omega] at e
    exact e
