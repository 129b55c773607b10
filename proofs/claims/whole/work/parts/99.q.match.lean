/-! 99.q: houses and hours: counts, the search for a place, and what it leaves -/
theorem ct_inj {p : Nat → Bool} {f : Nat → Nat} {m : Nat} : ∀ {n : Nat} {q : Nat → Bool}, (∀ i, i < n → p i = true → f i < m ∧ q (f i) = true) → (∀ i j, i < n → j < n → p i = true → p j = true → f i = f j → i = j) → fb_ct p n ≤ fb_ct q m
  | 0, _, _, _ => Nat.zero_le _
  | n + 1, q, h, k => by
    cases e : p n
    · rw [fb_ct_succ, e]
      exact ct_inj (fun i hi => h i (by omega)) (fun i j hi hj => k i j (by omega) (by omega))
    · rw [fb_ct_succ, e, if_pos rfl]
      have hn := h n (by omega) e
      have u := fb_ct_upd q false (i := f n) (n := m) hn.1
      rw [hn.2, if_pos rfl, if_neg (by decide)] at u
      have z : fb_ct p n ≤ fb_ct (fun x => if x = f n then false else q x) m := ct_inj (fun i hi pi => by
        have a := h i (by omega) pi
        refine ⟨a.1, ?_⟩
        rw [if_neg (fun e2 => by have := k i n (by omega) (by omega) pi e e2; omega)]
        exact a.2) (fun i j hi hj => k i j (by omega) (by omega))
      omega
/-- the hours that a set of houses has -/
def nbF (E : Nat → Nat → Bool) (S : Nat → Bool) (t : Nat) : Nat → Bool
  | 0 => false
  | k + 1 => nbF E S t k || (S k && E k t)
theorem nbF_iff {E : Nat → Nat → Bool} {S : Nat → Bool} {t : Nat} : ∀ {n : Nat}, nbF E S t n = true ↔ ∃ k, k < n ∧ S k = true ∧ E k t = true
  | 0 => ⟨fun h => Bool.noConfusion h, fun ⟨k, hk, _⟩ => absurd hk (Nat.not_lt_zero k)⟩
  | n + 1 => by
    show (nbF E S t n || (S n && E n t)) = true ↔ _
    rw [Bool.or_eq_true, Bool.and_eq_true, nbF_iff (n := n)]
    constructor
    · intro h
      rcases h with ⟨k, hk, h1⟩ | h1
      · exact ⟨k, by omega, h1⟩
      · exact ⟨n, by omega, h1⟩
    · intro ⟨k, hk, h1⟩
      by_cases e : k = n
      · subst e; exact Or.inr h1
      · exact Or.inl ⟨k, by omega, h1⟩
/-- D is by how much hours lack -/
def DF (E : Nat → Nat → Bool) (a n D : Nat) : Prop := (∀ S : Nat → Bool, (∀ k, S k = true → a ≤ k) → fb_ct S n ≤ fb_ct (fun t => nbF E S t n) 41 + D) ∧ ∃ S : Nat → Bool, (∀ k, S k = true → a ≤ k) ∧ fb_ct S n = fb_ct (fun t => nbF E S t n) 41 + D
theorem DF_one {E : Nat → Nat → Bool} {a n D1 D2 : Nat} (h1 : DF E a n D1) (h2 : DF E a n D2) : D1 = D2 := by
  obtain ⟨a1, S1, b1, c1⟩ := h1
  obtain ⟨a2, S2, b2, c2⟩ := h2
  have x := a1 S2 b2
  have y := a2 S1 b1
  omega
def mtc (E : Nat → Nat → Bool) (n : Nat) (m : Nat → Nat) : Prop := ∀ t, t < 41 → m t ≠ 0 → m t - 1 < n ∧ E (m t - 1) t = true
def mij (m : Nat → Nat) (V : Nat) : Prop := ∀ s t, s < 41 → t < 41 → V.testBit s = false → V.testBit t = false → m s ≠ 0 → m s = m t → s = t
def nok (m : Nat → Nat) (V k : Nat) : Prop := ∀ t, t < 41 → V.testBit t = false → m t ≠ k + 1
def kCl (E : Nat → Nat → Bool) (m : Nat → Nat) (C : Nat → Bool) : Prop := ∀ t, t < 41 → C t = true → m t ≠ 0 ∧ ∀ s, s < 41 → E (m t - 1) s = true → C s = true
def im (m : Nat → Nat) (V j : Nat) : Prop := ∃ t, t < 41 ∧ V.testBit t = false ∧ m t = j + 1
def kS (E : Nat → Nat → Bool) (n k : Nat) (m : Nat → Nat) (V : Nat) (m' : Nat → Nat) : Prop := mtc E n m' ∧ (∀ t, t < 41 → V.testBit t = true → m' t = m t) ∧ mij m' V ∧ (∀ j, im m' V j ↔ (j = k ∨ im m V j)) ∧ ∀ C, kCl E m C → (∀ t, t < 41 → C t = true → m' t = m t) ∧ ∃ s, s < 41 ∧ E k s = true ∧ C s = false
/-- the search has looked at the hours before t in vain -/
def kL (E : Nat → Nat → Bool) (k : Nat) (m : Nat → Nat) (V V1 t : Nat) : Prop := (∀ s, V.testBit s = true → V1.testBit s = true) ∧ (∀ s, s < t → s < 41 → E k s = true → V1.testBit s = true) ∧ ∀ s, s < 41 → V.testBit s = false → V1.testBit s = true → m s ≠ 0 ∧ ∀ r, r < 41 → E (m s - 1) r = true → V1.testBit r = true
theorem kL_0 (E : Nat → Nat → Bool) (k : Nat) (m : Nat → Nat) (V : Nat) : kL E k m V V 0 := ⟨fun _ h => h, fun s h => absurd h (Nat.not_lt_zero s), fun s _ h1 h2 => by rw [h1] at h2; exact Bool.noConfusion h2⟩
theorem kbit (V t s : Nat) : (V ||| 2 ^ t).testBit s = (V.testBit s || decide (t = s)) := by rw [Nat.testBit_or, Nat.testBit_two_pow]
theorem or_f {V t s : Nat} (h : (V ||| 2 ^ t).testBit s = false) : V.testBit s = false ∧ s ≠ t := by
  rw [kbit, Bool.or_eq_false_iff] at h
  exact ⟨h.1, fun e => of_decide_eq_false h.2 e.symm⟩
theorem or_t {V t s : Nat} (h : V.testBit s = true ∨ s = t) : (V ||| 2 ^ t).testBit s = true := by
  rw [kbit, Bool.or_eq_true]
  exact h.imp id (fun e => decide_eq_true e.symm)
theorem or_nf {V t s : Nat} (h : V.testBit s = false) (h2 : s ≠ t) : (V ||| 2 ^ t).testBit s = false := by
  rw [kbit, h, decide_eq_false (fun e => h2 e.symm)]
  rfl
/-- an hour that it may not take -/
theorem kL_no {E : Nat → Nat → Bool} {k : Nat} {m : Nat → Nat} {V V1 t : Nat} (h : kL E k m V V1 t) (e : E k t = true → V1.testBit t = true) : kL E k m V V1 (t + 1) := ⟨h.1, fun s hs h41 es => by
  by_cases q : s = t
  · subst q; exact e es
  · exact h.2.1 s (by omega) h41 es, h.2.2⟩
/-- the search from there failed -/
theorem kL_f {E : Nat → Nat → Bool} {k : Nat} {m : Nat → Nat} {V V1 V3 t : Nat} (h : kL E k m V V1 t) (m0 : m t ≠ 0) (f : kL E (m t - 1) m (V1 ||| 2 ^ t) V3 41) : kL E k m V V3 (t + 1) := by
  have up : ∀ s, V1.testBit s = true → V3.testBit s = true := fun s hs => f.1 s (or_t (Or.inl hs))
  have t3 : V3.testBit t = true := f.1 t (or_t (Or.inr rfl))
  refine ⟨fun s hs => up s (h.1 s hs), fun s hs h41 es => ?_, fun s h41 v0 v3 => ?_⟩
  · by_cases q : s = t
    · subst q; exact t3
    · exact up s (h.2.1 s (by omega) h41 es)
  · by_cases q : s = t
    · subst q
      exact ⟨m0, fun r hr er => f.2.1 r (by omega) hr er⟩
    · cases v1 : V1.testBit s
      · exact f.2.2 s h41 (or_nf v1 q) v3
      · have z := h.2.2 s h41 v0 v1
        exact ⟨z.1, fun r hr er => up r (z.2 r hr er)⟩
def put (m : Nat → Nat) (t k : Nat) : Nat → Nat := fun s => if s = t then k + 1 else m s
theorem put_t (m : Nat → Nat) (t k : Nat) : put m t k t = k + 1 := if_pos rfl
theorem put_n {m : Nat → Nat} {t k s : Nat} (h : s ≠ t) : put m t k s = m s := if_neg h
/-- a free hour -/
theorem kS_leaf {E : Nat → Nat → Bool} {n k : Nat} {m : Nat → Nat} {V V1 t : Nat} (L : kL E k m V V1 t) (ht : t < 41) (hk : k < n) (hm : mtc E n m) (hi : mij m V) (ho : nok m V k) (e : E k t = true) (v1 : V1.testBit t = false) (m0 : m t = 0) : kS E n k m V (put m t k) := by
  have v0 : V.testBit t = false := by
    cases q : V.testBit t
    · rfl
    · rw [L.1 t q] at v1; exact Bool.noConfusion v1
  refine ⟨fun s hs h0 => ?_, fun s hs vs => put_n (fun q => by rw [q, v0] at vs; exact Bool.noConfusion vs), fun s r hs hr vs vr h0 es => ?_, fun j => ⟨?_, ?_⟩, fun C c => ⟨fun s hs cs => put_n (fun q => ?_), t, ht, e, ?_⟩⟩
  · by_cases q : s = t
    · subst q
      rw [put_t]
      exact ⟨hk, e⟩
    · rw [put_n q] at h0 ⊢
      exact hm s hs h0
  · by_cases q : s = t
    · by_cases q2 : r = t
      · rw [q, q2]
      · rw [q, put_t, put_n q2] at es
        exact absurd es.symm (ho r hr vr)
    · by_cases q2 : r = t
      · rw [q2, put_t, put_n q] at es
        exact absurd es (ho s hs vs)
      · rw [put_n q] at h0 es
        rw [put_n q2] at es
        exact hi s r hs hr vs vr h0 es
  · intro ⟨s, hs, vs, es⟩
    by_cases q : s = t
    · rw [q, put_t] at es
      exact Or.inl (by omega)
    · rw [put_n q] at es
      exact Or.inr ⟨s, hs, vs, es⟩
  · intro h
    rcases h with h | ⟨s, hs, vs, es⟩
    · exact ⟨t, ht, v0, by rw [put_t, h]⟩
    · exact ⟨s, hs, vs, by rw [put_n (fun q => by rw [q, m0] at es; omega)]; exact es⟩
  · rw [q] at cs
    exact (c t ht cs).1 m0
  · cases q : C t
    · rfl
    · exact absurd m0 (c t ht q).1
/-- an hour whose house finds another -/
theorem kS_rec {E : Nat → Nat → Bool} {n k : Nat} {m m1 : Nat → Nat} {V V1 t : Nat} (L : kL E k m V V1 t) (ht : t < 41) (hk : k < n) (hi : mij m V) (ho : nok m V k) (e : E k t = true) (v1 : V1.testBit t = false) (m0 : m t ≠ 0) (r : kS E n (m t - 1) m (V1 ||| 2 ^ t) m1) : kS E n k m V (put m1 t k) := by
  obtain ⟨r1, r2, r3, r4, r5⟩ := r
  have v0 : V.testBit t = false := by
    cases q : V.testBit t
    · rfl
    · rw [L.1 t q] at v1; exact Bool.noConfusion v1
  have mt : m t = (m t - 1) + 1 := by omega
  have sub : ∀ s, (V1 ||| 2 ^ t).testBit s = false → V.testBit s = false := fun s h => by
    cases q : V.testBit s
    · rfl
    · have z := (or_f h).1
      rw [L.1 s q] at z
      exact Bool.noConfusion z
  -- a house of m1 among the hours not looked at was one of m's, beyond t
  have old : ∀ s h, s < 41 → (V1 ||| 2 ^ t).testBit s = false → m1 s = h + 1 → ∃ x, x < 41 ∧ V.testBit x = false ∧ m x = h + 1 ∧ (x = t ∨ (V1 ||| 2 ^ t).testBit x = false) := fun s h hs vs es => by
    rcases (r4 h).mp ⟨s, hs, vs, es⟩ with q | ⟨x, hx, vx, ex⟩
    · exact ⟨t, ht, v0, by rw [q]; exact mt, Or.inl rfl⟩
    · exact ⟨x, hx, sub x vx, ex, Or.inr vx⟩
  have nk : ∀ s, s < 41 → V.testBit s = false → s ≠ t → m1 s ≠ k + 1 := fun s hs vs q es => by
    cases v2 : (V1 ||| 2 ^ t).testBit s
    · obtain ⟨x, hx, vx, ex, -⟩ := old s k hs v2 es
      exact ho x hx vx ex
    · rw [r2 s hs v2] at es
      exact ho s hs vs es
  have mix : ∀ s x, s < 41 → x < 41 → V.testBit s = false → s ≠ t → (V1 ||| 2 ^ t).testBit s = true → (V1 ||| 2 ^ t).testBit x = false → m1 s ≠ 0 → m1 s = m1 x → False := fun s x hs hx vs q v2 vx h0 es => by
    rw [r2 s hs v2] at h0 es
    obtain ⟨y, hy, vy, ey, q3⟩ := old x (m s - 1) hx vx (by omega)
    have q4 := hi s y hs hy vs vy h0 (by omega)
    rcases q3 with q3 | q3
    · exact q (q4.trans q3)
    · rw [← q4, v2] at q3
      exact Bool.noConfusion q3
  refine ⟨fun s hs h0 => ?_, fun s hs vs => ?_, fun s x hs hx vs vx h0 es => ?_, fun j => ⟨?_, ?_⟩, fun C c => ?_⟩
  · by_cases q : s = t
    · subst q
      rw [put_t]
      exact ⟨hk, e⟩
    · rw [put_n q] at h0 ⊢
      exact r1 s hs h0
  · rw [put_n (fun q => by rw [q, v0] at vs; exact Bool.noConfusion vs)]
    exact r2 s hs (or_t (Or.inl (L.1 s vs)))
  · by_cases q : s = t
    · by_cases q2 : x = t
      · rw [q, q2]
      · rw [q, put_t, put_n q2] at es
        exact absurd es.symm (nk x hx vx q2)
    · by_cases q2 : x = t
      · rw [q2, put_t, put_n q] at es
        exact absurd es (nk s hs vs q)
      · rw [put_n q] at h0 es
        rw [put_n q2] at es
        cases a : (V1 ||| 2 ^ t).testBit s <;> cases b : (V1 ||| 2 ^ t).testBit x
        · exact r3 s x hs hx a b h0 es
        · exact (mix x s hx hs vx q2 b a (by rw [← es]; exact h0) es.symm).elim
        · exact (mix s x hs hx vs q a b h0 es).elim
        · rw [r2 s hs a] at h0 es
          rw [r2 x hx b] at es
          exact hi s x hs hx vs vx h0 es
  · intro ⟨s, hs, vs, es⟩
    by_cases q : s = t
    · rw [q, put_t] at es
      exact Or.inl (by omega)
    · rw [put_n q] at es
      cases a : (V1 ||| 2 ^ t).testBit s
      · obtain ⟨x, hx, vx, ex, -⟩ := old s j hs a es
        exact Or.inr ⟨x, hx, vx, ex⟩
      · rw [r2 s hs a] at es
        exact Or.inr ⟨s, hs, vs, es⟩
  · intro h
    rcases h with h | ⟨s, hs, vs, es⟩
    · exact ⟨t, ht, v0, by rw [put_t, h]⟩
    · have via : (∃ y, y < 41 ∧ (V1 ||| 2 ^ t).testBit y = false ∧ m1 y = j + 1) → im (put m1 t k) V j := fun ⟨y, hy, vy, ey⟩ => ⟨y, hy, sub y vy, by rw [put_n (or_f vy).2]; exact ey⟩
      by_cases q : s = t
      · rw [q] at es
        exact via ((r4 j).mpr (Or.inl (by omega)))
      · cases a : (V1 ||| 2 ^ t).testBit s
        · exact via ((r4 j).mpr (Or.inr ⟨s, hs, a, es⟩))
        · exact ⟨s, hs, vs, by rw [put_n q, r2 s hs a]; exact es⟩
  · obtain ⟨c1, s, hs, es, cs⟩ := r5 C c
    have ct : C t = false := by
      cases q : C t
      · rfl
      · rw [(c t ht q).2 s hs es] at cs; exact Bool.noConfusion cs
    exact ⟨fun x hx cx => by rw [put_n (fun q => by rw [q, ct] at cx; exact Bool.noConfusion cx)]; exact c1 x hx cx, t, ht, e, ct⟩
