/-! 99.qb: houses with hours of their own: when all can have one, and the first such hours -/
def HC (E : Nat → Nat → Bool) (a n : Nat) : Prop := ∀ S : Nat → Bool, (∀ k, S k = true → a ≤ k) → fb_ct S n ≤ fb_ct (fun t => nbF E S t n) 41
theorem DF_HC {E : Nat → Nat → Bool} {a n D : Nat} (h : DF E a n D) : D = 0 ↔ HC E a n := by
  constructor
  · intro z S hS
    have := h.1 S hS
    omega
  · intro H
    obtain ⟨-, S, hS, e⟩ := h
    have := H S hS
    omega
theorem nbF_sub {E E' : Nat → Nat → Bool} {S S' : Nat → Bool} {t n : Nat} (h : ∀ k, k < n → S k = true → E k t = true → S' k = true ∧ E' k t = true) (z : nbF E S t n = true) : nbF E' S' t n = true := by
  obtain ⟨k, hk, h1, h2⟩ := nbF_iff.mp z
  obtain ⟨h3, h4⟩ := h k hk h1 h2
  exact nbF_iff.mpr ⟨k, hk, h3, h4⟩
theorem HC_sub {E E' : Nat → Nat → Bool} {a n : Nat} (h : ∀ k t, a ≤ k → k < n → t < 41 → E k t = true → E' k t = true) (H : HC E a n) : HC E' a n := fun S hS =>
  Nat.le_trans (H S hS) (fb_ct_sub (fun t ht => nbF_sub (fun k hk h1 h2 => ⟨h1, h k t (hS k h1) hk ht h2⟩)))
theorem HC_cong {E E' : Nat → Nat → Bool} {a n : Nat} (h : ∀ k t, a ≤ k → k < n → t < 41 → E k t = E' k t) : HC E a n ↔ HC E' a n :=
  ⟨HC_sub (fun k t h1 h2 h3 h4 => (h k t h1 h2 h3).symm.trans h4), HC_sub (fun k t h1 h2 h3 h4 => (h k t h1 h2 h3).trans h4)⟩
theorem ct_ie (p q : Nat → Bool) : ∀ n, fb_ct (fun k => p k || q k) n + fb_ct (fun k => p k && q k) n = fb_ct p n + fb_ct q n
  | 0 => rfl
  | n + 1 => by
    have ih := ct_ie p q n
    rw [fb_ct_succ, fb_ct_succ, fb_ct_succ, fb_ct_succ]
    cases p n
    · cases q n
      · exact ih
      · show _ + 1 + (_ + 0) = _ + 0 + (_ + 1)
        omega
    · cases q n
      · show _ + 1 + (_ + 0) = _ + 1 + (_ + 0)
        omega
      · show _ + 1 + (_ + 1) = _ + 1 + (_ + 1)
        omega
def offE (E : Nat → Nat → Bool) (s : Nat) : Nat → Nat → Bool := fun k t => E k t && !decide (t = s)
theorem off_nb {E : Nat → Nat → Bool} {S : Nat → Bool} {s t n : Nat} : nbF (offE E s) S t n = if t = s then false else nbF E S t n := by
  apply Bool.eq_iff_iff.mpr
  by_cases e : t = s
  · rw [if_pos e]
    constructor
    · intro z
      obtain ⟨k, -, -, h2⟩ := nbF_iff.mp z
      unfold offE at h2
      rw [decide_eq_true e, Bool.not_true, Bool.and_false] at h2
      exact h2
    · intro z; exact Bool.noConfusion z
  · rw [if_neg e]
    constructor
    · exact nbF_sub (fun k _ h1 h2 => ⟨h1, by unfold offE at h2; rw [Bool.and_eq_true] at h2; exact h2.1⟩)
    · exact nbF_sub (fun k _ h1 h2 => ⟨h1, by unfold offE; rw [h2, decide_eq_false e]; rfl⟩)
theorem off_ct {E : Nat → Nat → Bool} {S : Nat → Bool} {s n : Nat} (hs : s < 41) : fb_ct (fun t => nbF (offE E s) S t n) 41 + (if nbF E S s n then 1 else 0) = fb_ct (fun t => nbF E S t n) 41 := by
  rw [fb_ct_cong (fun t _ => off_nb)]
  exact fb_ct_upd (fun t => nbF E S t n) false hs
theorem HC_pick {E : Nat → Nat → Bool} {a n : Nat} (H : HC E a n) (ha : a < n) : ∃ s, s < 41 ∧ E a s = true ∧ HC (offE E s) (a + 1) n := by
  refine Classical.byContradiction (fun no => ?_)
  have no' : ∀ s, s < 41 → E a s = true → ¬ HC (offE E s) (a + 1) n := fun s h1 h2 h3 => no ⟨s, h1, h2, h3⟩
  have cl : ∀ s, s ≤ 41 → ∃ U : Nat → Bool, (∀ k, U k = true → a + 1 ≤ k) ∧ fb_ct U n = fb_ct (fun t => nbF E U t n) 41 ∧ ∀ t, t < s → E a t = true → nbF E U t n = true := by
    intro s
    induction s with
    | zero =>
      intro _
      refine ⟨fun _ => false, fun k z => Bool.noConfusion z, ?_, fun t ht => absurd ht (Nat.not_lt_zero t)⟩
      rw [fb_ct_zero.mpr (fun _ _ => rfl), fb_ct_zero.mpr (fun t _ => ?_)]
      cases z : nbF E (fun _ => false) t n
      · rfl
      · obtain ⟨k, -, h1, -⟩ := nbF_iff.mp z
        exact Bool.noConfusion h1
    | succ s ih =>
      intro hs
      obtain ⟨U, u1, u2, u3⟩ := ih (by omega)
      by_cases c : E a s = true → nbF E U s n = true
      · refine ⟨U, u1, u2, fun t ht h => ?_⟩
        by_cases e : t = s
        · subst e; exact c h
        · exact u3 t (by omega) h
      · have c1 : E a s = true := Classical.byContradiction (fun z => c (fun y => absurd y z))
        have nh := no' s (by omega) c1
        obtain ⟨T, t1, t2⟩ : ∃ T : Nat → Bool, (∀ k, T k = true → a + 1 ≤ k) ∧ ¬ fb_ct T n ≤ fb_ct (fun t => nbF (offE E s) T t n) 41 := Classical.byContradiction (fun z => nh (fun S hS => Classical.byContradiction (fun y => z ⟨S, hS, y⟩)))
        have o := off_ct (E := E) (S := T) (n := n) (show s < 41 by omega)
        have hT := H T (fun k h => by have := t1 k h; omega)
        have nT : nbF E T s n = true := by
          cases z : nbF E T s n
          · rw [z, if_neg (by decide)] at o
            omega
          · rfl
        rw [nT, if_pos rfl] at o
        have i1 := ct_ie U T n
        have i2 := ct_ie (fun t => nbF E U t n) (fun t => nbF E T t n) 41
        have hV := H (fun k => U k || T k) (fun k h => by
          rcases Bool.or_eq_true_iff.mp h with h | h
          · have := u1 k h; omega
          · have := t1 k h; omega)
        have hI := H (fun k => U k && T k) (fun k h => by
          have := u1 k (Bool.and_eq_true_iff.mp h).1
          omega)
        have s1 : fb_ct (fun t => nbF E (fun k => U k || T k) t n) 41 ≤ fb_ct (fun t => nbF E U t n || nbF E T t n) 41 := fb_ct_sub (fun t _ h => by
          obtain ⟨k, hk, h1, h2⟩ := nbF_iff.mp h
          rcases Bool.or_eq_true_iff.mp h1 with h1 | h1
          · exact Bool.or_eq_true_iff.mpr (Or.inl (nbF_iff.mpr ⟨k, hk, h1, h2⟩))
          · exact Bool.or_eq_true_iff.mpr (Or.inr (nbF_iff.mpr ⟨k, hk, h1, h2⟩)))
        have s2 : fb_ct (fun t => nbF E (fun k => U k && T k) t n) 41 ≤ fb_ct (fun t => nbF E U t n && nbF E T t n) 41 := fb_ct_sub (fun t _ h => by
          obtain ⟨k, hk, h1, h2⟩ := nbF_iff.mp h
          have h1' := Bool.and_eq_true_iff.mp h1
          exact Bool.and_eq_true_iff.mpr ⟨nbF_iff.mpr ⟨k, hk, h1'.1, h2⟩, nbF_iff.mpr ⟨k, hk, h1'.2, h2⟩⟩)
        refine ⟨fun k => U k || T k, fun k h => ?_, by omega, fun t ht h => ?_⟩
        · rcases Bool.or_eq_true_iff.mp h with h | h
          · exact u1 k h
          · exact t1 k h
        · by_cases e : t = s
          · subst e
            exact nbF_sub (fun k _ h1 h2 => ⟨Bool.or_eq_true_iff.mpr (Or.inr h1), h2⟩) nT
          · exact nbF_sub (fun k _ h1 h2 => ⟨Bool.or_eq_true_iff.mpr (Or.inl h1), h2⟩) (u3 t (by omega) h)
  obtain ⟨U, u1, u2, u3⟩ := cl 41 (Nat.le_refl _)
  have ua : U a = false := by
    cases z : U a
    · rfl
    · have := u1 a z; omega
  have up := fb_ct_upd U true ha
  rw [ua, if_neg (by decide), if_pos rfl] at up
  have hW := H (fun k => if k = a then true else U k) (fun k h => by
    by_cases e : k = a
    · omega
    · have h' : (if k = a then true else U k) = true := h
      rw [if_neg e] at h'
      have := u1 k h'
      omega)
  have s1 : fb_ct (fun t => nbF E (fun k => if k = a then true else U k) t n) 41 ≤ fb_ct (fun t => nbF E U t n) 41 := fb_ct_sub (fun t ht h => by
    obtain ⟨k, hk, h1, h2⟩ := nbF_iff.mp h
    by_cases e : k = a
    · subst e; exact u3 t ht h2
    · have h1' : (if k = a then true else U k) = true := h1
      rw [if_neg e] at h1'
      exact nbF_iff.mpr ⟨k, hk, h1', h2⟩)
  omega
theorem HC_told {E : Nat → Nat → Bool} {a n s : Nat} (ha : a < n) (hs : s < 41) (one : ∀ t, t < 41 → E a t = true → t = s) : HC E a n ↔ E a s = true ∧ HC (offE E s) (a + 1) n := by
  constructor
  · intro H
    refine ⟨?_, fun S hS => ?_⟩
    · have h1 := H (fun k => decide (k = a)) (fun k h => by have := of_decide_eq_true h; omega)
      have p : 0 < fb_ct (fun k => decide (k = a)) n := fb_ct_pos.mpr ⟨a, ha, decide_eq_true rfl⟩
      obtain ⟨t, ht, h2⟩ := fb_ct_pos.mp (Nat.lt_of_lt_of_le p h1)
      obtain ⟨k, hk, h3, h4⟩ := nbF_iff.mp h2
      have e := of_decide_eq_true h3
      subst e
      have e2 := one t ht h4
      subst e2
      exact h4
    · have sa : S a = false := by
        cases z : S a
        · rfl
        · have := hS a z; omega
      have up := fb_ct_upd S true ha
      rw [sa, if_neg (by decide), if_pos rfl] at up
      have hW := H (fun k => if k = a then true else S k) (fun k h => by
        by_cases e : k = a
        · omega
        · have h' : (if k = a then true else S k) = true := h
          rw [if_neg e] at h'
          have := hS k h'
          omega)
      have s1 : fb_ct (fun t => nbF E (fun k => if k = a then true else S k) t n) 41 ≤ fb_ct (fun t => if t = s then true else nbF E S t n) 41 := fb_ct_sub (fun t ht h => by
        obtain ⟨k, hk, h1, h2⟩ := nbF_iff.mp h
        by_cases e : k = a
        · subst e; rw [if_pos (one t ht h2)]
        · have h1' : (if k = a then true else S k) = true := h1
          rw [if_neg e] at h1'
          by_cases e2 : t = s
          · rw [if_pos e2]
          · rw [if_neg e2]; exact nbF_iff.mpr ⟨k, hk, h1', h2⟩)
      have u2 := fb_ct_upd (fun t => nbF E S t n) true hs
      have o := off_ct (E := E) (S := S) (n := n) hs
      rw [if_pos (show true = true from rfl)] at u2
      omega
  · intro ⟨h1, H⟩ S hS
    have up := fb_ct_upd S false ha
    rw [if_neg (show ¬ false = true by decide)] at up
    have hT := H (fun k => if k = a then false else S k) (fun k h => by
      have h' : (if k = a then false else S k) = true := h
      by_cases e : k = a
      · rw [if_pos e] at h'; exact Bool.noConfusion h'
      · rw [if_neg e] at h'
        have := hS k h'
        omega)
    have o := off_ct (E := E) (S := fun k => if k = a then false else S k) (n := n) hs
    have m : ∀ t, nbF E (fun k => if k = a then false else S k) t n = true → nbF E S t n = true := fun t => nbF_sub (fun k _ h2 h3 => ⟨by
      have h2' : (if k = a then false else S k) = true := h2
      by_cases e : k = a
      · rw [if_pos e] at h2'; exact Bool.noConfusion h2'
      · rw [if_neg e] at h2'; exact h2', h3⟩)
    cases sa : S a
    · rw [sa, if_neg (by decide)] at up
      have s1 : fb_ct (fun t => nbF E (fun k => if k = a then false else S k) t n) 41 ≤ fb_ct (fun t => nbF E S t n) 41 := fb_ct_sub (fun t _ => m t)
      omega
    · rw [sa, if_pos rfl] at up
      have u2 := fb_ct_upd (fun t => nbF E (fun k => if k = a then false else S k) t n) true hs
      rw [if_pos (show true = true from rfl)] at u2
      have s1 : fb_ct (fun t => if t = s then true else nbF E (fun k => if k = a then false else S k) t n) 41 ≤ fb_ct (fun t => nbF E S t n) 41 := fb_ct_sub (fun t _ h => by
        by_cases e : t = s
        · subst e; exact nbF_iff.mpr ⟨a, ha, sa, h1⟩
        · have h' : (if t = s then true else nbF E (fun k => if k = a then false else S k) t n) = true := h
          rw [if_neg e] at h'
          exact m t h')
      omega
def dB (M s : Nat) : Nat := mk (fun i => M.testBit i && !decide (i = s)) 41
theorem dB_lt (M s : Nat) : dB M s < 2 ^ 41 := mk_lt _ 41
theorem dB_bit {M s t : Nat} (ht : t < 41) : (dB M s).testBit t = (M.testBit t && !decide (t = s)) := by
  unfold dB
  rw [mk_bit, decide_eq_true ht, Bool.true_and]
def eM (q : Nat → Nat) (td : Nat → Int32) (M k t : Nat) : Bool := ((q k).testBit t && (decide (td k = -1) || decide (td k = nI t))) && M.testBit t
def gM (q : Nat → Nat) (M a n : Nat) : Prop := HC (fun k t => (q k).testBit t && M.testBit t) a n
theorem nI_m1 {s : Nat} (hs : s < 41) : ¬ nI s = -1 := fun x => by
  have y := congrArg Int32.toInt x
  rw [nI_toInt (by omega), show (-1 : Int32).toInt = -1 from by decide] at y
  omega
theorem HC_td {q : Nat → Nat} {td : Nat → Int32} {M a n s : Nat} (ha : a < n) (hs : s < 41) (h : td a = nI s) : HC (eM q td M) a n ↔ ((q a).testBit s = true ∧ M.testBit s = true) ∧ HC (eM q td (dB M s)) (a + 1) n := by
  have e : eM q td M a s = true ↔ ((q a).testBit s = true ∧ M.testBit s = true) := by
    unfold eM
    rw [h, decide_eq_true (rfl : nI s = nI s), Bool.or_true, Bool.and_true, Bool.and_eq_true]
  rw [HC_told ha hs (fun t ht z => ?_), e, HC_cong (E' := eM q td (dB M s)) (fun k t _ _ ht => ?_)]
  · show (eM q td M k t && !decide (t = s)) = _
    unfold eM
    rw [dB_bit ht, Bool.and_assoc]
  · unfold eM at z
    rw [h, decide_eq_false (nI_m1 hs), Bool.false_or, Bool.and_eq_true, Bool.and_eq_true] at z
    have y := congrArg Int32.toInt (of_decide_eq_true z.1.2)
    rw [nI_toInt (by omega), nI_toInt (by omega)] at y
    omega
theorem HC_un {q : Nat → Nat} {td : Nat → Int32} {M a n : Nat} (h : ∀ k, a ≤ k → k < n → td k = -1) : HC (eM q td M) a n ↔ gM q M a n := HC_cong (fun k t h1 h2 _ => by
  unfold eM
  rw [h k h1 h2, decide_eq_true (rfl : (-1 : Int32) = -1), Bool.true_or, Bool.and_true])
theorem HC_eE {q : Nat → Nat} {td : Nat → Int32} {e n : Nat} : HC (eE q td e) 0 n ↔ HC (eM q td (2 ^ (e + 1) - 1)) 0 n := HC_cong (fun k t _ _ _ => by
  unfold eE eM
  rw [Nat.testBit_two_pow_sub_one]
  congr 1
  exact decide_eq_decide.mpr (by omega))
def mT (t : Nat → Nat) (M : Nat) : Nat → Nat
  | 0 => M
  | k + 1 => dB (mT t M k) (t k)
theorem mT_lt {t : Nat → Nat} {M : Nat} (hM : M < 2 ^ 41) : ∀ k, mT t M k < 2 ^ 41
  | 0 => hM
  | _ + 1 => dB_lt _ _
theorem mT_cong {t t' : Nat → Nat} {M : Nat} : ∀ {k : Nat}, (∀ i, i < k → t i = t' i) → mT t M k = mT t' M k
  | 0, _ => rfl
  | k + 1, h => by
    show dB (mT t M k) (t k) = dB (mT t' M k) (t' k)
    rw [mT_cong (fun i hi => h i (by omega)), h k (by omega)]
def cT (q t : Nat → Nat) (M n k s : Nat) : Prop := ((q k).testBit s = true ∧ (mT t M k).testBit s = true) ∧ gM q (dB (mT t M k) s) (k + 1) n
def tS (q t : Nat → Nat) (M n k : Nat) : Prop := ∀ j, j < k → t j < 41 ∧ cT q t M n j (t j) ∧ ∀ s, s < t j → ¬ cT q t M n j s
theorem HC_chain {q t : Nat → Nat} {td : Nat → Int32} {M n : Nat} : ∀ {k : Nat}, k ≤ n → tS q t M n k → (∀ j, j < k → td j = nI (t j)) → (HC (eM q td M) 0 n ↔ HC (eM q td (mT t M k)) k n)
  | 0, _, _, _ => Iff.rfl
  | k + 1, hk, h, hd => by
    obtain ⟨h1, h2, -⟩ := h k (by omega)
    rw [HC_chain (k := k) (by omega) (fun j hj => h j (by omega)) (fun j hj => hd j (by omega)), HC_td (by omega) h1 (hd k (by omega))]
    exact ⟨fun z => z.2, fun z => ⟨h2.1, z⟩⟩
theorem least_ex {P : Nat → Prop} : ∀ s, P s → ∃ r, r ≤ s ∧ P r ∧ ∀ i, i < r → ¬ P i := by
  intro s
  induction s using Nat.strongRecOn with
  | _ s ih =>
    intro h
    by_cases c : ∃ i, i < s ∧ P i
    · obtain ⟨i, hi, pi⟩ := c
      obtain ⟨r, h1, h2⟩ := ih i hi pi
      exact ⟨r, by omega, h2⟩
    · exact ⟨s, Nat.le_refl _, h, fun i hi pi => c ⟨i, hi, pi⟩⟩
theorem cT_cong {q t t' : Nat → Nat} {M n k s : Nat} (h : ∀ i, i < k → t i = t' i) : cT q t M n k s ↔ cT q t' M n k s := by
  unfold cT
  rw [mT_cong h]
theorem tS_ex {q : Nat → Nat} {M n : Nat} (H : gM q M 0 n) : ∃ t, tS q t M n n := by
  have go : ∀ k, k ≤ n → ∃ t, gM q (mT t M k) k n ∧ tS q t M n k := by
    intro k
    induction k with
    | zero => intro _; exact ⟨fun _ => 0, H, fun j hj => absurd hj (Nat.not_lt_zero j)⟩
    | succ k ih =>
      intro hk
      obtain ⟨t, h1, h2⟩ := ih (by omega)
      obtain ⟨s, s1, s2, s3⟩ := HC_pick h1 (by omega)
      have s2' := Bool.and_eq_true_iff.mp s2
      have c : cT q t M n k s := ⟨s2', (HC_cong (fun j i _ _ hi => by
        show (((q j).testBit i && (mT t M k).testBit i) && !decide (i = s)) = ((q j).testBit i && (dB (mT t M k) s).testBit i)
        rw [dB_bit hi, Bool.and_assoc])).mp s3⟩
      obtain ⟨r, r1, r2, r3⟩ := least_ex s c
      have ag : ∀ j, j ≤ k → ∀ i, i < j → t i = (fun j => if j = k then r else t j) i := fun j hj i hi => by
        show t i = if i = k then r else t i
        rw [if_neg (by omega)]
      refine ⟨fun j => if j = k then r else t j, ?_, fun j hj => ?_⟩
      · have := r2.2
        show gM q (dB (mT (fun j => if j = k then r else t j) M k) (if k = k then r else t k)) (k + 1) n
        rw [if_pos rfl, ← mT_cong (ag k (Nat.le_refl _))]
        exact this
      · by_cases e : j = k
        · subst e
          show (if j = j then r else t j) < 41 ∧ cT q _ M n j (if j = j then r else t j) ∧ ∀ s, s < (if j = j then r else t j) → _
          rw [if_pos rfl]
          exact ⟨by omega, (cT_cong (ag j (Nat.le_refl _))).mp r2, fun i hi z => r3 i hi ((cT_cong (ag j (Nat.le_refl _))).mpr z)⟩
        · show (if j = k then r else t j) < 41 ∧ cT q _ M n j (if j = k then r else t j) ∧ ∀ s, s < (if j = k then r else t j) → _
          rw [if_neg e]
          obtain ⟨a1, a2, a3⟩ := h2 j (by omega)
          exact ⟨a1, (cT_cong (ag j (by omega))).mp a2, fun i hi z => a3 i hi ((cT_cong (ag j (by omega))).mpr z)⟩
  obtain ⟨t, -, h⟩ := go n (Nat.le_refl _)
  exact ⟨t, h⟩
def tdF (t : Nat → Nat) (k j : Nat) : Int32 := if j < k then nI (t j) else -1
theorem tell_cT {q t : Nat → Nat} {e n k s : Nat} (hk : k < n) (hs : s < 41) (h : tS q t (2 ^ (e + 1) - 1) n k) : HC (eE q (fun j => if j = k then nI s else tdF t k j) e) 0 n ↔ cT q t (2 ^ (e + 1) - 1) n k s := by
  rw [HC_eE, HC_chain (k := k) (by omega) h (fun j hj => ?_), HC_td hk hs (if_pos rfl), HC_un (fun j h1 h2 => ?_)]
  · rfl
  · show (if j = k then nI s else tdF t k j) = -1
    rw [if_neg (by omega)]
    exact if_neg (by omega)
  · show (if j = k then nI s else tdF t k j) = nI (t j)
    rw [if_neg (by omega)]
    exact if_pos hj
theorem dB_w {M s : Nat} (hM : M < 2 ^ 41) (hs : s < 41) : lN M &&& (x_lshl 1 (nI s) ^^^ -1) = lN (dB M s) := by
  have e : x_lshl 1 (nI s) = lN (2 ^ s) := by
    have z := wb_shl 1 (k := s) (by omega)
    rw [Nat.one_mul] at z
    exact z
  rw [e]
  apply Int64.toBitVec_inj.mp
  show (lN M).toBitVec &&& ((lN (2 ^ s)).toBitVec ^^^ BitVec.allOnes 64) = (lN (dB M s)).toBitVec
  rw [wb_tb, wb_tb, wb_tb]
  apply BitVec.eq_of_getLsbD_eq
  intro i hi
  rw [BitVec.getLsbD_and, BitVec.getLsbD_xor, BitVec.getLsbD_ofNat, BitVec.getLsbD_ofNat, BitVec.getLsbD_ofNat, BitVec.getLsbD_allOnes, decide_eq_true hi, Bool.true_and, Bool.true_and, Bool.true_and, Bool.xor_true, Nat.testBit_two_pow]
  by_cases c : i < 41
  · rw [dB_bit c, show decide (s = i) = decide (i = s) from decide_eq_decide.mpr eq_comm]
  · rw [Nat.testBit_lt_two_pow (Nat.lt_of_lt_of_le hM (Nat.pow_le_pow_right (by decide) (by omega))), Nat.testBit_lt_two_pow (Nat.lt_of_lt_of_le (dB_lt M s) (Nat.pow_le_pow_right (by decide) (by omega))), Bool.false_and]
theorem bit_w {a b s : Nat} (ha : a < 2 ^ 41) (hb : b < 2 ^ 41) (hs : s < 41) : lg_cmp ((lN a &&& lN b) &&& x_lshl 1 (nI s)) 0 = 0 ↔ ¬ (a.testBit s = true ∧ b.testBit s = true) := by
  have e : x_lshl 1 (nI s) = lN (2 ^ s) := by
    have z := wb_shl 1 (k := s) (by omega)
    rw [Nat.one_mul] at z
    exact z
  have c : (2 : Nat) ^ 41 < 2 ^ 64 := by decide
  have p : 2 ^ s < 2 ^ 41 := Nat.pow_lt_pow_right (by decide) hs
  have l1 : a &&& b < 2 ^ 41 := Nat.lt_of_le_of_lt Nat.and_le_left ha
  have l2 : (a &&& b) &&& 2 ^ s < 2 ^ 41 := Nat.lt_of_le_of_lt Nat.and_le_left l1
  rw [lg_cmp_eq, e, wb_and (Nat.lt_trans ha c) (Nat.lt_trans hb c), wb_and (Nat.lt_trans l1 c) (Nat.lt_trans p c), lN_0 (Nat.lt_trans l2 c)]
  constructor
  · intro z y
    have t : ((a &&& b) &&& 2 ^ s).testBit s = true := by
      rw [Nat.testBit_and, Nat.testBit_and, Nat.testBit_two_pow, y.1, y.2, decide_eq_true rfl]
      rfl
    rw [z, Nat.zero_testBit] at t
    exact Bool.noConfusion t
  · intro z
    apply Nat.eq_of_testBit_eq
    intro i
    rw [Nat.testBit_and, Nat.testBit_and, Nat.testBit_two_pow, Nat.zero_testBit]
    by_cases y : s = i
    · subst y
      cases h1 : a.testBit s
      · rfl
      · cases h2 : b.testBit s
        · rfl
        · exact absurd ⟨h1, h2⟩ z
    · rw [decide_eq_false y, Bool.and_false]
