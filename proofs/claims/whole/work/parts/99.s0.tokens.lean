/-! 99.s0: the text's tokens -/
def rn (P : Nat → Bool) (n : Nat) : Nat → Nat → Nat
  | 0, p => p
  | f + 1, p => if p < n ∧ P p = true then rn P n f (p + 1) else p
def rE (P : Nat → Bool) (n p : Nat) : Nat := rn P n (n - p) p
theorem rE_y {P : Nat → Bool} {n p : Nat} (h : p < n) (hp : P p = true) : rE P n p = rE P n (p + 1) := by
  unfold rE
  rw [show n - p = (n - (p + 1)) + 1 by omega]
  exact if_pos ⟨h, hp⟩
theorem rE_n {P : Nat → Bool} {n p : Nat} (h : ¬ (p < n ∧ P p = true)) : rE P n p = p := by
  unfold rE
  cases n - p with
  | zero => rfl
  | succ f => exact if_neg h
theorem rE_in {P : Nat → Bool} {n : Nat} : ∀ d p, p + d = n → p ≤ rE P n p ∧ rE P n p ≤ n ∧ (∀ k, p ≤ k → k < rE P n p → P k = true) ∧ ¬ (rE P n p < n ∧ P (rE P n p) = true) := by
  intro d
  induction d with
  | zero =>
    intro p h
    rw [rE_n (by omega)]
    exact ⟨Nat.le_refl _, by omega, fun k h1 h2 => by omega, by omega⟩
  | succ d ih =>
    intro p h
    by_cases c : P p = true
    · rw [rE_y (by omega) c]
      obtain ⟨h1, h2, h3, h4⟩ := ih (p + 1) (by omega)
      refine ⟨by omega, h2, fun k k1 k2 => ?_, h4⟩
      by_cases e : k = p
      · rw [e]; exact c
      · exact h3 k (by omega) k2
    · rw [rE_n (fun z => c z.2)]
      exact ⟨Nat.le_refl _, by omega, fun k h1 h2 => by omega, fun z => c z.2⟩
def cBl (t : Nat → Nat) (k : Nat) : Bool := decide (t k = 32) || decide (t k = 10)
def cLe (t : Nat → Nat) (k : Nat) : Bool := decide (97 ≤ t k ∧ t k ≤ 122)
def cDi (t : Nat → Nat) (k : Nat) : Bool := decide (48 ≤ t k ∧ t k ≤ 57)
def cSg (c : Nat) : Bool := decide (c = 91 ∨ c = 93 ∨ c = 61 ∨ c = 60 ∨ c = 62 ∨ c = 59 ∨ c = 43 ∨ c = 45 ∨ c = 42 ∨ c = 40 ∨ c = 41)
def vD (t : Nat → Nat) (b : Nat) : Nat → Nat
  | 0 => 0
  | k + 1 => 10 * vD t b k + (t (b + k) - 48)
def txB (t : Nat → Nat) (n p : Nat) : Nat := rE (cBl t) n p
def txD (t : Nat → Nat) (n p : Nat) : Nat := rE (cDi t) n (txB t n p)
def txK (t : Nat → Nat) (n p : Nat) : Nat := if txB t n p < n then (if cLe t (txB t n p) then 1 else if cDi t (txB t n p) then (if txD t n p ≤ txB t n p + 3 then 2 else 3) else if cSg (t (txB t n p)) then t (txB t n p) else 3) else 0
def txE (t : Nat → Nat) (n p : Nat) : Nat := if txB t n p < n then (if cLe t (txB t n p) then rE (cLe t) n (txB t n p) else if cDi t (txB t n p) then txD t n p else txB t n p + 1) else txB t n p
def txV (t : Nat → Nat) (n p : Nat) : Nat := vD t (txB t n p) (txE t n p - txB t n p)
theorem bft : ¬ (false = true) := by decide
section TX
variable {t : Nat → Nat} {n p : Nat}
theorem txB_in (h : p ≤ n) : p ≤ txB t n p ∧ txB t n p ≤ n := by
  have z := rE_in (P := cBl t) (n := n) (n - p) p (by omega)
  exact ⟨z.1, z.2.1⟩
theorem txE_in (h : p ≤ n) : txB t n p ≤ txE t n p ∧ txE t n p ≤ n ∧ (txK t n p ≠ 0 → txB t n p < txE t n p) := by
  have b := txB_in (t := t) h
  unfold txE txK
  by_cases c : txB t n p < n
  · rw [if_pos c, if_pos c]
    cases c1 : cLe t (txB t n p)
    · rw [if_neg bft, if_neg bft]
      cases c2 : cDi t (txB t n p)
      · rw [if_neg bft, if_neg bft]
        exact ⟨by omega, by omega, fun _ => by omega⟩
      · rw [if_pos rfl, if_pos rfl]
        have z := rE_in (P := cDi t) (n := n) (n - (txB t n p + 1)) (txB t n p + 1) (by omega)
        unfold txD
        rw [rE_y c c2]
        exact ⟨by omega, by omega, fun _ => by omega⟩
    · rw [if_pos rfl, if_pos rfl]
      have z := rE_in (P := cLe t) (n := n) (n - (txB t n p + 1)) (txB t n p + 1) (by omega)
      rw [rE_y c c1]
      exact ⟨by omega, by omega, fun _ => by omega⟩
  · rw [if_neg c, if_neg c]
    exact ⟨Nat.le_refl _, by omega, fun z => absurd rfl z⟩
theorem cSg_40 : ∀ c, c < 256 → cSg c = true → 40 ≤ c ∧ c ≤ 93 ∧ ¬ (48 ≤ c ∧ c ≤ 57) := by decide +kernel
/-- a sign is its own kind -/
theorem txK_sg (h : 40 ≤ txK t n p) : txB t n p < n ∧ t (txB t n p) = txK t n p ∧ txE t n p = txB t n p + 1 := by
  unfold txK at h ⊢
  unfold txE
  by_cases c : txB t n p < n
  · rw [if_pos c] at h ⊢
    rw [if_pos c]
    cases c1 : cLe t (txB t n p)
    · rw [c1, if_neg bft] at h
      rw [if_neg bft, if_neg bft]
      cases c2 : cDi t (txB t n p)
      · rw [c2, if_neg bft] at h
        rw [if_neg bft, if_neg bft]
        cases c3 : cSg (t (txB t n p))
        · rw [c3, if_neg bft] at h; omega
        · rw [if_pos rfl]; exact ⟨c, rfl, rfl⟩
      · rw [c2, if_pos rfl] at h
        exfalso
        split at h <;> omega
    · rw [c1, if_pos rfl] at h; omega
  · rw [if_neg c] at h; omega
theorem vD_lt : ∀ {b k : Nat}, (∀ i, i < k → t (b + i) ≤ 57) → vD t b k < 10 ^ k
  | _, 0, _ => by show 0 < 1; decide
  | b, k + 1, h => by
    have z := vD_lt (b := b) (k := k) (fun i hi => h i (by omega))
    have y := h k (by omega)
    show 10 * vD t b k + (t (b + k) - 48) < 10 ^ (k + 1)
    rw [Nat.pow_succ]
    omega
theorem txK_2 (h : txK t n p = 2) : txB t n p < n ∧ txE t n p = txD t n p ∧ txD t n p ≤ txB t n p + 3 ∧ txV t n p ≤ 999 := by
  have h' := h
  unfold txK at h'
  by_cases c : txB t n p < n
  · rw [if_pos c] at h'
    cases c1 : cLe t (txB t n p)
    · rw [c1, if_neg bft] at h'
      cases c2 : cDi t (txB t n p)
      · rw [c2, if_neg bft] at h'
        exfalso
        split at h'
        · rename_i c3
          have := (decide_eq_true_iff.mp c3)
          omega
        · omega
      · rw [c2, if_pos rfl] at h'
        have e3 : txD t n p ≤ txB t n p + 3 := by
          by_cases c3 : txD t n p ≤ txB t n p + 3
          · exact c3
          · rw [if_neg c3] at h'; omega
        have e : txE t n p = txD t n p := by
          unfold txE
          rw [if_pos c, c1, if_neg bft, c2, if_pos rfl]
        have z := rE_in (P := cDi t) (n := n) (n - txB t n p) (txB t n p) (by omega)
        refine ⟨c, e, e3, ?_⟩
        unfold txV
        have v := vD_lt (t := t) (b := txB t n p) (k := txE t n p - txB t n p) (fun i hi => by
          have y := z.2.2.1 (txB t n p + i) (by omega) (by show _ < txD t n p; omega)
          have := of_decide_eq_true y
          omega)
        have l : (10 : Nat) ^ (txE t n p - txB t n p) ≤ 10 ^ 3 := Nat.pow_le_pow_right (by decide) (by omega)
        have : (10 : Nat) ^ 3 = 1000 := by decide
        omega
    · rw [c1, if_pos rfl] at h'; omega
  · rw [if_neg c] at h'; omega
theorem txK_1 (h : txK t n p = 1) : txB t n p < n := by
  unfold txK at h
  by_cases c : txB t n p < n
  · exact c
  · rw [if_neg c] at h; omega
end TX
/-- a word of the language, by its token -/
def wlN (a : Nat) : Nat := lenJS.getD (a - 2) 0
def wcN (a k : Nat) : Int32 := (bytJS.getD (a - 2) []).getD k 0
def eqr (t : Nat → Nat) (b a : Nat) : Nat → Nat → Bool
  | 0, _ => true
  | d + 1, k => decide (nI (t (b + k)) = wcN a k) && eqr t b a d (k + 1)
def isW (t : Nat → Nat) (n p a : Nat) : Bool := decide (txK t n p = 1) && (decide (txE t n p - txB t n p = wlN a) && eqr t (txB t n p) a (wlN a) 0)
theorem isW_1 {t : Nat → Nat} {n p a : Nat} (h : isW t n p a = true) : txK t n p = 1 := of_decide_eq_true (Bool.and_eq_true_iff.mp h).1
/-- words that differ in length, or in their first letter, aren't both there -/
theorem isW_ne {t : Nat → Nat} {n p a b : Nat} (c : wlN a ≠ wlN b ∨ (wlN a ≠ 0 ∧ wlN b ≠ 0 ∧ wcN a 0 ≠ wcN b 0)) (h : isW t n p a = true) : isW t n p b = false := by
  cases z : isW t n p b
  · rfl
  · have h1 := Bool.and_eq_true_iff.mp (Bool.and_eq_true_iff.mp h).2
    have z1 := Bool.and_eq_true_iff.mp (Bool.and_eq_true_iff.mp z).2
    have e1 := of_decide_eq_true h1.1
    have e2 := of_decide_eq_true z1.1
    rcases c with c | ⟨ca, cb', cc⟩
    · omega
    · have q : ∀ a, wlN a ≠ 0 → eqr t (txB t n p) a (wlN a) 0 = true → nI (t (txB t n p + 0)) = wcN a 0 := fun a ha y => by
        cases w : wlN a with
        | zero => exact absurd w ha
        | succ d =>
          rw [w] at y
          exact of_decide_eq_true (Bool.and_eq_true_iff.mp y).1
      exact absurd ((q a ca h1.2).symm.trans (q b cb' z1.2)) cc
