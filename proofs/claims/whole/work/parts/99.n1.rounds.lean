/-! 99.n1: the rounds that fit, one behind the other -/
def snP (b : Bool) (c : Nat) (x : Nat × (Nat → Nat)) : Nat × (Nat → Nat) := if b then (x.1 + 1, fun j => if j = x.1 then c else x.2 j) else x
def snS (P : Nat → Nat → Nat → Bool) (r a : Nat) (x : Nat × (Nat → Nat)) : Nat → Nat × (Nat → Nat)
  | 0 => x
  | s + 1 => snP (P r a s) (10000 * r + 100 * a + s) (snS P r a x s)
def snU (P : Nat → Nat → Nat → Bool) (r : Nat) (x : Nat × (Nat → Nat)) : Nat → Nat × (Nat → Nat)
  | 0 => x
  | a + 1 => snS P r (a + 1) (snU P r x a) r
def snR (P : Nat → Nat → Nat → Bool) : Nat → Nat × (Nat → Nat)
  | 0 => (0, fun _ => 0)
  | n + 1 => snU P (n + 2) (snR P n) (n + 2)
def sq : Nat → Nat
  | 0 => 0
  | n + 1 => sq n + (n + 2) * (n + 2)
theorem sq_11 : ∀ n, n < 11 → sq (n + 1) ≤ 649 := by decide
theorem snP_le (b : Bool) (c : Nat) (x : Nat × (Nat → Nat)) : (snP b c x).1 ≤ x.1 + 1 := by
  unfold snP
  cases b
  · exact Nat.le_succ _
  · exact Nat.le_refl _
theorem snS_le (P : Nat → Nat → Nat → Bool) (r a : Nat) (x : Nat × (Nat → Nat)) : ∀ s, (snS P r a x s).1 ≤ x.1 + s
  | 0 => Nat.le_refl _
  | s + 1 => by
    have := snS_le P r a x s
    have z := snP_le (P r a s) (10000 * r + 100 * a + s) (snS P r a x s)
    show (snP _ _ _).1 ≤ _
    omega
theorem snU_le (P : Nat → Nat → Nat → Bool) (r : Nat) (x : Nat × (Nat → Nat)) : ∀ a, (snU P r x a).1 ≤ x.1 + r * a
  | 0 => Nat.le_refl _
  | a + 1 => by
    have := snU_le P r x a
    have z := snS_le P r (a + 1) (snU P r x a) r
    show (snS _ _ _ _ _).1 ≤ _
    rw [Nat.mul_succ]
    omega
theorem snR_le (P : Nat → Nat → Nat → Bool) : ∀ n, (snR P n).1 ≤ sq n
  | 0 => Nat.le_refl _
  | n + 1 => by
    have := snR_le P n
    have z := snU_le P (n + 2) (snR P n) (n + 2)
    show (snU _ _ _ _).1 ≤ sq n + (n + 2) * (n + 2)
    omega
/-- room for one more -/
theorem sn_room (P : Nat → Nat → Nat → Bool) {n a s : Nat} (hn : n < 11) (ha : a < n + 2) (hs : s < n + 2) : (snS P (n + 2) (a + 1) (snU P (n + 2) (snR P n) a) s).1 < 649 := by
  have z1 := snS_le P (n + 2) (a + 1) (snU P (n + 2) (snR P n) a) s
  have z2 := snU_le P (n + 2) (snR P n) a
  have z3 := snR_le P n
  have z4 := sq_11 n hn
  have z5 : (n + 2) * (a + 1) ≤ (n + 2) * (n + 2) := Nat.mul_le_mul_left _ ha
  have z6 : sq (n + 1) = sq n + (n + 2) * (n + 2) := rfl
  rw [Nat.mul_succ] at z5
  omega
theorem sn_all (P : Nat → Nat → Nat → Bool) : (snR P 11).1 ≤ 649 := Nat.le_trans (snR_le P 11) (sq_11 10 (by decide))
/-- how many of those are awake in hour k -/
def snC (f : Nat → Nat) (k : Nat) : Nat → Nat
  | 0 => 0
  | i + 1 => snC f k i + (if snA (f i / 10000) (f i / 100 % 100) (f i % 100) k then 1 else 0)
theorem snC_le (f : Nat → Nat) (k : Nat) : ∀ i, snC f k i ≤ i
  | 0 => Nat.le_refl _
  | i + 1 => by
    have := snC_le f k i
    show snC f k i + _ ≤ _
    split <;> omega
theorem snC_push (f : Nat → Nat) (k n c : Nat) : ∀ i, i ≤ n → snC (fun j => if j = n then c else f j) k i = snC f k i
  | 0, _ => rfl
  | i + 1, h => by
    show snC _ k i + _ = snC f k i + _
    rw [snC_push f k n c i (by omega)]
    have e : (if i = n then c else f i) = f i := if_neg (by omega)
    simp only [e]
theorem snP_C {P1 P2 : Bool} {k r a s : Nat} {x y : Nat × (Nat → Nat)} (ha : a < 100) (hs : s < 100) (e : P2 = (P1 && snA r a s k)) (h : y.1 = snC x.2 k x.1) (c2 : Nat) : (snP P2 c2 y).1 = snC (snP P1 (10000 * r + 100 * a + s) x).2 k (snP P1 (10000 * r + 100 * a + s) x).1 := by
  cases P1
  · rw [e]
    exact h
  · rw [Bool.true_and] at e
    have d1 : (10000 * r + 100 * a + s) / 10000 = r := by omega
    have d2 : (10000 * r + 100 * a + s) / 100 % 100 = a := by omega
    have d3 : (10000 * r + 100 * a + s) % 100 = s := by omega
    show _ = snC (fun j => if j = x.1 then 10000 * r + 100 * a + s else x.2 j) k (x.1 + 1)
    show _ = snC (fun j => if j = x.1 then 10000 * r + 100 * a + s else x.2 j) k x.1 + (if snA ((if x.1 = x.1 then 10000 * r + 100 * a + s else x.2 x.1) / 10000) ((if x.1 = x.1 then 10000 * r + 100 * a + s else x.2 x.1) / 100 % 100) ((if x.1 = x.1 then 10000 * r + 100 * a + s else x.2 x.1) % 100) k then 1 else 0)
    rw [snC_push _ _ _ _ _ (Nat.le_refl _), if_pos (rfl : x.1 = x.1), d1, d2, d3, ← h, e]
    cases snA r a s k
    · rfl
    · rfl
theorem snR_C (P : Nat → Nat → Nat → Bool) (k : Nat) : ∀ n, n ≤ 11 → (snR (fun r a s => P r a s && snA r a s k) n).1 = snC (snR P n).2 k (snR P n).1
  | 0, _ => rfl
  | n + 1, h => by
    have i0 := snR_C P k n (by omega)
    have hS : ∀ a, a < 100 → ∀ x y : Nat × (Nat → Nat), y.1 = snC x.2 k x.1 → ∀ s, s ≤ n + 2 → (snS (fun r a s => P r a s && snA r a s k) (n + 2) a y s).1 = snC (snS P (n + 2) a x s).2 k (snS P (n + 2) a x s).1 := by
      intro a ha x y e s
      induction s with
      | zero => exact fun _ => e
      | succ s ih => exact fun hs => snP_C ha (by omega) rfl (ih (by omega)) _
    have hU : ∀ a, a ≤ n + 2 → (snU (fun r a s => P r a s && snA r a s k) (n + 2) (snR (fun r a s => P r a s && snA r a s k) n) a).1 = snC (snU P (n + 2) (snR P n) a).2 k (snU P (n + 2) (snR P n) a).1 := by
      intro a
      induction a with
      | zero => exact fun _ => i0
      | succ a ih => exact fun ha => hS (a + 1) (by omega) _ _ (ih (by omega)) (n + 2) (Nat.le_refl _)
    exact hU (n + 2) (Nat.le_refl _)
/-- every code is of a round of 2 to 12 -/
def snB (x : Nat × (Nat → Nat)) : Prop := ∀ j, j < x.1 → 20000 ≤ x.2 j ∧ x.2 j < 130000
theorem snP_B {b : Bool} {r a s : Nat} {x : Nat × (Nat → Nat)} (h2 : 2 ≤ r) (hr : r ≤ 12) (ha : a ≤ 12) (hs : s < 12) (h : snB x) : snB (snP b (10000 * r + 100 * a + s) x) := by
  cases b
  · exact h
  · intro j hj
    show 20000 ≤ (if j = x.1 then 10000 * r + 100 * a + s else x.2 j) ∧ (if j = x.1 then 10000 * r + 100 * a + s else x.2 j) < 130000
    by_cases e : j = x.1
    · rw [if_pos e]; omega
    · rw [if_neg e]
      exact h j (by have : j < x.1 + 1 := hj; omega)
theorem snR_B (P : Nat → Nat → Nat → Bool) : ∀ n, n ≤ 11 → snB (snR P n)
  | 0, _ => fun j hj => absurd hj (Nat.not_lt_zero j)
  | n + 1, h => by
    have i0 := snR_B P n (by omega)
    have hS : ∀ a, a ≤ n + 2 → ∀ x : Nat × (Nat → Nat), snB x → ∀ s, s ≤ n + 2 → snB (snS P (n + 2) a x s) := by
      intro a ha x e s
      induction s with
      | zero => exact fun _ => e
      | succ s ih => exact fun hs => snP_B (by omega) (by omega) (by omega) (by omega) (ih (by omega))
    have hU : ∀ a, a ≤ n + 2 → snB (snU P (n + 2) (snR P n) a) := by
      intro a
      induction a with
      | zero => exact fun _ => i0
      | succ a ih => exact fun ha => hS (a + 1) (by omega) _ (ih (by omega)) (n + 2) (Nat.le_refl _)
    exact hU (n + 2) (Nat.le_refl _)
/-- the one at a place asked for -/
def snK (x : Nat × (Nat → Nat)) (a : Int32) : Int32 := if 0 ≤ a.toInt ∧ a.toInt < x.1 then nI (x.2 a.toInt.toNat) else -1
theorem snK_P {x : Nat × (Nat → Nat)} {c : Nat} {a : Int32} (hx : x.1 < 2 ^ 30) : (nI x.1 = a → snK (snP true c x) a = nI c) ∧ (¬ nI x.1 = a → snK (snP true c x) a = snK x a) := by
  have e1 : (snP true c x).1 = x.1 + 1 := rfl
  have e2 : ∀ j, (snP true c x).2 j = if j = x.1 then c else x.2 j := fun j => rfl
  constructor
  · intro h
    subst h
    unfold snK
    rw [e1, e2, nI_toInt (by omega), if_pos (by omega), if_pos (by omega)]
  · intro h
    have h' : a.toInt ≠ x.1 := fun z => h (nI_v z).symm
    unfold snK
    rw [e1, e2]
    by_cases c1 : 0 ≤ a.toInt ∧ a.toInt < x.1
    · rw [if_pos (by omega), if_pos c1, if_neg (by omega)]
    · rw [if_neg (by omega), if_neg c1]
theorem snK_m (x : Nat × (Nat → Nat)) : snK x (-1) = -1 := if_neg (by rw [show (-1 : Int32).toInt = -1 from by decide]; omega)
