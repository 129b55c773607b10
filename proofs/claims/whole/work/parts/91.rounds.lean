/-! 91: rounds joined: periods and rows of the class's -/
def lcA (a b m : Nat) : Bool := decide (1 ≤ m ∧ m ≤ b) && decide ((a * m) % b = 0) && decide (a * m = Nat.lcm a b)
def lcN (a b m : Nat) : Bool := decide (∀ i, i < m → 1 ≤ i → (a * i) % b ≠ 0)
def lcP (a b : Nat) : Bool := decide (360 % a ≠ 0) || decide (a = 0) || decide (b < 2) || (lcA a b (b / Nat.gcd a b) && lcN a b (b / Nat.gcd a b))
theorem lcP_t : ∀ a, a < 361 → ∀ b, b < 13 → lcP a b = true := by decide +kernel
theorem lc_dec (a : Nat) (ha : a < 361) (h0 : 0 < a) (hd : 360 % a = 0) (b : Nat) (hb : b < 13) (h2 : 2 ≤ b) : (1 ≤ b / Nat.gcd a b ∧ b / Nat.gcd a b ≤ b ∧ (a * (b / Nat.gcd a b)) % b = 0 ∧ a * (b / Nat.gcd a b) = Nat.lcm a b) ∧ ∀ i, i < b / Nat.gcd a b → 1 ≤ i → (a * i) % b ≠ 0 := by
  have z := lcP_t a ha b hb
  unfold lcP at z
  rw [decide_eq_false (show ¬ 360 % a ≠ 0 from fun q => q hd), decide_eq_false (show ¬ a = 0 by omega), decide_eq_false (show ¬ b < 2 by omega), Bool.false_or, Bool.false_or, Bool.false_or, Bool.and_eq_true] at z
  unfold lcA lcN at z
  rw [Bool.and_eq_true, Bool.and_eq_true] at z
  have y := of_decide_eq_true z.1.1.1
  exact ⟨⟨y.1, y.2, of_decide_eq_true z.1.1.2, of_decide_eq_true z.1.2⟩, of_decide_eq_true z.2⟩
theorem lc_7 : ∀ a, a < 361 → 0 < a → 360 % a = 0 → Nat.lcm (a * 1 * 1) 7 = a * 7 * 1 ∧ Nat.lcm (a * 7 * 1) 7 = a * 7 * 1 ∧ Nat.lcm (a * 1 * 11) 7 = a * 7 * 11 ∧ Nat.lcm (a * 7 * 11) 7 = a * 7 * 11 := by decide +kernel
theorem lc_11 : ∀ a, a < 361 → 0 < a → 360 % a = 0 → Nat.lcm (a * 1 * 1) 11 = a * 1 * 11 ∧ Nat.lcm (a * 7 * 1) 11 = a * 7 * 11 ∧ Nat.lcm (a * 1 * 11) 11 = a * 1 * 11 ∧ Nat.lcm (a * 7 * 11) 11 = a * 7 * 11 := by decide +kernel
def loA (a b l : Nat) : Bool := decide (0 < l ∧ 360 % l = 0 ∧ l < 361)
def loB (a b l : Nat) : Bool := decide (Nat.lcm (a * 1 * 1) b = l * 1 * 1 ∧ Nat.lcm (a * 7 * 1) b = l * 7 * 1 ∧ Nat.lcm (a * 1 * 11) b = l * 1 * 11 ∧ Nat.lcm (a * 7 * 11) b = l * 7 * 11)
def loP (a b : Nat) : Bool := decide (360 % a ≠ 0) || decide (a = 0) || decide (b < 2) || decide (b = 7) || decide (b = 11) || (loA a b (Nat.lcm a b) && loB a b (Nat.lcm a b))
theorem loP_t : ∀ a, a < 361 → ∀ b, b < 13 → loP a b = true := by decide +kernel
theorem lc_o (a : Nat) (ha : a < 361) (h0 : 0 < a) (hd : 360 % a = 0) (b : Nat) (hb : b < 13) (h2 : 2 ≤ b) (h7 : b ≠ 7) (h11 : b ≠ 11) : (0 < Nat.lcm a b ∧ 360 % Nat.lcm a b = 0 ∧ Nat.lcm a b < 361) ∧ Nat.lcm (a * 1 * 1) b = Nat.lcm a b * 1 * 1 ∧ Nat.lcm (a * 7 * 1) b = Nat.lcm a b * 7 * 1 ∧ Nat.lcm (a * 1 * 11) b = Nat.lcm a b * 1 * 11 ∧ Nat.lcm (a * 7 * 11) b = Nat.lcm a b * 7 * 11 := by
  have z := loP_t a ha b hb
  unfold loP at z
  rw [decide_eq_false (show ¬ 360 % a ≠ 0 from fun q => q hd), decide_eq_false (show ¬ a = 0 by omega), decide_eq_false (show ¬ b < 2 by omega), decide_eq_false h7, decide_eq_false h11, Bool.false_or, Bool.false_or, Bool.false_or, Bool.false_or, Bool.false_or, Bool.and_eq_true] at z
  exact ⟨of_decide_eq_true z.1, of_decide_eq_true z.2⟩
/-- the least common round of a set's first ones -/
def lcS (g : Nat → Nat) (s : Nat) : Nat → Nat
  | 0 => 1
  | i + 1 => if s.testBit i = true then Nat.lcm (lcS g s i) (g (27 + i)) else lcS g s i
/-- the class's three periods -/
def pS (g : Nat → Nat) (s : Nat) : Nat → Nat × Nat × Nat
  | 0 => (1, 1, 1)
  | i + 1 => if s.testBit i = true then (if g (27 + i) = 7 then ((pS g s i).1, 7, (pS g s i).2.2) else if g (27 + i) = 11 then ((pS g s i).1, (pS g s i).2.1, 11) else (Nat.lcm (pS g s i).1 (g (27 + i)), (pS g s i).2.1, (pS g s i).2.2)) else pS g s i
def pOK (p : Nat × Nat × Nat) (n : Nat) : Prop := (0 < p.1 ∧ p.1 < 361 ∧ 360 % p.1 = 0) ∧ (p.2.1 = 1 ∨ p.2.1 = 7) ∧ (p.2.2 = 1 ∨ p.2.2 = 11) ∧ p.1 * p.2.1 * p.2.2 = n
theorem pS_ok {g : Nat → Nat} {s : Nat} : ∀ i, (∀ v, v < i → s.testBit v = true → 2 ≤ g (27 + v) ∧ g (27 + v) ≤ 12) → pOK (pS g s i) (lcS g s i)
  | 0, _ => ⟨⟨Nat.zero_lt_one, show 1 < 361 by decide, show 360 % 1 = 0 by decide⟩, Or.inl rfl, Or.inl rfl, rfl⟩
  | i + 1, h => by
    obtain ⟨⟨a1, a2, a3⟩, a4, a5, a6⟩ := pS_ok (g := g) (s := s) i (fun v hv => h v (by omega))
    unfold pS lcS
    by_cases c : s.testBit i = true
    · rw [if_pos c, if_pos c]
      obtain ⟨r1, r2⟩ := h i (by omega) c
      by_cases c7 : g (27 + i) = 7
      · rw [if_pos c7, c7]
        obtain ⟨x1, x2, x3, x4⟩ := lc_7 _ a2 a1 a3
        refine ⟨⟨a1, a2, a3⟩, Or.inr rfl, a5, ?_⟩
        show (pS g s i).1 * 7 * (pS g s i).2.2 = _
        rw [← a6]
        rcases a4 with e4 | e4 <;> rcases a5 with e5 | e5 <;> rw [e4, e5]
        · exact x1.symm
        · exact x3.symm
        · exact x2.symm
        · exact x4.symm
      rw [if_neg c7]
      by_cases c11 : g (27 + i) = 11
      · rw [if_pos c11, c11]
        obtain ⟨x1, x2, x3, x4⟩ := lc_11 _ a2 a1 a3
        refine ⟨⟨a1, a2, a3⟩, a4, Or.inr rfl, ?_⟩
        show (pS g s i).1 * (pS g s i).2.1 * 11 = _
        rw [← a6]
        rcases a4 with e4 | e4 <;> rcases a5 with e5 | e5 <;> rw [e4, e5]
        · exact x1.symm
        · exact x3.symm
        · exact x2.symm
        · exact x4.symm
      rw [if_neg c11]
      obtain ⟨⟨y1, y2, y3⟩, x1, x2, x3, x4⟩ := lc_o _ a2 a1 a3 (g (27 + i)) (by omega) r1 c7 c11
      refine ⟨⟨y1, y3, y2⟩, a4, a5, ?_⟩
      show Nat.lcm (pS g s i).1 (g (27 + i)) * (pS g s i).2.1 * (pS g s i).2.2 = _
      rw [← a6]
      rcases a4 with e4 | e4 <;> rcases a5 with e5 | e5 <;> rw [e4, e5]
      · exact x1.symm
      · exact x3.symm
      · exact x2.symm
      · exact x4.symm
    · rw [if_neg c, if_neg c]
      exact ⟨⟨a1, a2, a3⟩, a4, a5, a6⟩
/-- each round goes into the period of its row -/
def pD (g : Nat → Nat) (p : Nat × Nat × Nat) (v : Nat) : Prop := if g (27 + v) = 7 then p.2.1 = 7 else if g (27 + v) = 11 then p.2.2 = 11 else g (27 + v) ∣ p.1
theorem pS_d {g : Nat → Nat} {s : Nat} : ∀ i v, v < i → s.testBit v = true → pD g (pS g s i) v
  | i + 1, v, hv, hs => by
    have ih : v < i → pD g (pS g s i) v := fun q => pS_d i v q hs
    unfold pS
    by_cases c : s.testBit i = true
    · rw [if_pos c]
      by_cases c7 : g (27 + i) = 7
      · rw [if_pos c7]
        by_cases e : v = i
        · subst e; unfold pD; rw [if_pos c7]
        · have z := ih (by omega)
          unfold pD at z ⊢
          split
          · rfl
          · rename_i q
            rw [if_neg q] at z
            exact z
      rw [if_neg c7]
      by_cases c11 : g (27 + i) = 11
      · rw [if_pos c11]
        by_cases e : v = i
        · subst e; unfold pD; rw [if_neg c7, if_pos c11]
        · have z := ih (by omega)
          unfold pD at z ⊢
          split
          · rename_i q; rw [if_pos q] at z; exact z
          · rename_i q
            rw [if_neg q] at z
            split
            · rfl
            · rename_i q2; rw [if_neg q2] at z; exact z
      rw [if_neg c11]
      by_cases e : v = i
      · subst e; unfold pD; rw [if_neg c7, if_neg c11]; exact Nat.dvd_lcm_right _ _
      · have z := ih (by omega)
        unfold pD at z ⊢
        split
        · rename_i q; rw [if_pos q] at z; exact z
        · rename_i q
          rw [if_neg q] at z
          split
          · rename_i q2; rw [if_pos q2] at z; exact z
          · rename_i q2; rw [if_neg q2] at z; exact Nat.dvd_trans z (Nat.dvd_lcm_left _ _)
    · rw [if_neg c]
      by_cases e : v = i
      · subst e; exact absurd hs c
      · exact ih (by omega)
theorem q_lc {a b : Nat} {K : Int32 → Wd → Prop} {w : Wd} (ha : a < 361) (h0 : 0 < a) (hd : 360 % a = 0) (hb : b < 13) (hb2 : 2 ≤ b) (hk : K (nI (Nat.lcm a b)) w) : w_X8_leastCommon (nI a) (nI b) K w := by
  obtain ⟨⟨m1, m2, m3, m4⟩, m5⟩ := lc_dec a ha h0 hd b hb hb2
  obtain ⟨m, hm⟩ : ∃ m, m = b / Nat.gcd a b := ⟨_, rfl⟩
  rw [← hm] at m1 m2 m3 m4 m5
  have ab : ∀ i, i ≤ 12 → a * i < 2 ^ 13 := fun i hi => by
    have : a * i ≤ 360 * 12 := Nat.mul_le_mul (by omega) hi
    omega
  have go : ∀ d i, i + d = m → 1 ≤ i → l_X8_leastCommon_4 K (d + 1) (nI a) (nI b) (nI (a * i)) (nI i) w := by
    intro d
    induction d with
    | zero =>
      intro i hi h1
      have : i = m := by omega
      subst this
      have := ab i (by omega)
      rw [m4]
      rw [m4] at m3 this
      refine ⟨fun _ => hk, fun _ => br_f (nI_ge (a := 0) (by omega) (by omega)) ⟨nI_ne0 (by omega) (by omega), br_t ?_ hk⟩⟩
      rw [show x_irem (nI (Nat.lcm a b)) (nI b) = nI (Nat.lcm a b % b) from pk_rem (by omega) (by omega) (by omega), m3]
      rfl
    | succ d ih =>
      intro i hi h1
      have := ab i (by omega)
      have ne := m5 i (by omega) h1
      have lt := Nat.mod_lt (a * i) (show 0 < b by omega)
      refine br_f (nI_ge (by omega) (by omega)) (br_f (nI_ge (a := 0) (by omega) (by omega)) ⟨nI_ne0 (by omega) (by omega), br_f ?_ ?_⟩)
      · rw [show x_irem (nI (a * i)) (nI b) = nI (a * i % b) from pk_rem (by omega) (by omega) (by omega)]
        exact nI_ne0 (by omega) (by omega)
      · rw [nI_add, nI_1, show a * i + a = a * (i + 1) from (Nat.mul_succ a i).symm]
        exact ih (i + 1) (by omega) (by omega)
  have z := go (m - 1) 1 (by omega) (Nat.le_refl _)
  rw [Nat.mul_one] at z
  exact ⟨m - 1 + 1, z⟩
def rdT (t : Nat) : Prop := 67 ≤ t ∧ t ≤ 70
/-- only the rows of rounds differ -/
def rd (w u : Wd) : Prop := eqW rdT w u ∧ wR u = wR w
theorem rd_refl (w : Wd) : rd w w := ⟨eqW_refl _ _, rfl⟩
theorem rd_uI {w u : Wd} {t k : Nat} {v : Int32} (h : rd w u) (ht : rdT t) : rd w (uI u t k v) := ⟨eqW_trans h.1 (eqW_uI ht), h.2⟩
theorem rd_x {w u : Wd} {B : Nat} {g : Nat → Nat} (I : INVx w B g) (h : rd w u) : INVx u B g := INVx_q (T := rdT) I (cx_eqW h.1) (fun t z => by unfold rdT at z; unfold cS; omega) (SH_e (cx_eqW h.1) h.2 I.1)
section RO
variable {w : Wd} {B : Nat} {g : Nat → Nat} {s : Nat}
theorem q_clear {t n : Nat} {u : Wd} {K : Wd → Prop} (ht : rdT t) (hn : n < 1000) (kt : isK u t 20) (nt : wn u t = n) (hk : ∀ u', eqW (fun r => r = t) u u' → wR u' = wR u → (∀ k, k < n → wI u' t k = 0) → K u') : w_X8_clear t K u := by
  have go : ∀ d i u', i + d = n → eqW (fun r => r = t) u u' → wR u' = wR u → (∀ k, k < i → wI u' t k = 0) → l_X8_clear_2 K (d + 1) t (nI i) u' := by
    intro d
    induction d with
    | zero =>
      intro i u' hi e hR hz
      have : i = n := by omega
      subst this
      refine ⟨Or.inr ((eqW_isK e).mpr kt), ?_⟩
      rw [eqW_wn e, nt]
      exact br_t (nI_le (Nat.le_refl _) (by omega)) (hk u' e hR hz)
    | succ d ih =>
      intro i u' hi e hR hz
      refine ⟨Or.inr ((eqW_isK e).mpr kt), ?_⟩
      rw [eqW_wn e, nt, nI_clamp (by omega), nI_1]
      refine br_f (nI_ge (by omega) (by omega)) ⟨(eqW_isK e).mpr kt, vp_in_nI (by omega) (by omega), ih (i + 1) _ (by omega) (eqW_trans e (eqW_uI rfl)) hR (fun k hk' => ?_)⟩
      rw [wI_uI]
      by_cases ek : k = i
      · rw [if_pos ek]
      · rw [if_neg ek]; exact hz k (by omega)
  exact ⟨n + 1, go n 0 u (by omega) (eqW_refl _ _) rfl (fun k hk' => absurd hk' (Nat.not_lt_zero k))⟩
theorem q_addTo {t n p v : Nat} {u : Wd} {f : Nat → Nat} {K : Wd → Prop} (I : INVx w B g) (hu : rd w u) (ht : 68 ≤ t ∧ t ≤ 70) (hn : n < 1000) (kt : isK u t 20) (nt : wn u t = n) (hp : p ≤ n) (hv : v < g 1) (hf : ∀ k, k < p → wI u t k = nI (f k)) (hk : ∀ u', rd w u' → eqW (fun r => r = t) u u' → (∀ k, k < p → wI u' t k = nI (f k + if upb g k v then 1 else 0)) → K u') : w_X8_addTo t (nI p) 92 (nI v) K u := by
  have hW := I.2.1
  have go : ∀ d i u', i + d = p → rd w u' → eqW (fun r => r = t) u u' → (∀ k, k < i → wI u' t k = nI (f k + if upb g k v then 1 else 0)) → (∀ k, i ≤ k → k < p → wI u' t k = nI (f k)) → l_X8_addTo_3 K (d + 1) t (nI p) 92 (nI v) (nI i) u' := by
    intro d
    induction d with
    | zero =>
      intro i u' hi hr e h1 h2
      have : i = p := by omega
      subst this
      exact br_t (nI_le (Nat.le_refl _) (by omega)) (hk u' hr e h1)
    | succ d ih =>
      intro i u' hi hr e h1 h2
      obtain ⟨h, Lx, -, -⟩ := x_P (rd_x I hr)
      refine br_f (nI_ge (by omega) (by omega)) ⟨Or.inr ((eqW_isK e).mpr kt), ?_⟩
      rw [eqW_wn e, nt]
      refine br_f (nI_ge (by omega) (by omega)) ⟨Lx.1.1.1.1, q_isAwakeIn Lx.1.1 hW.1 hW.2.2.1 hW.2.2.2.2 hv (by omega) ?_⟩
      rw [eqW_wn e, nt, nI_clamp (by omega), h2 i (Nat.le_refl _) (by omega), nI_1, nI_1]
      cases eb : upb g i v
      · refine br_t rfl (ih (i + 1) u' (by omega) hr e (fun k hk' => ?_) (fun k hk1 hk2 => h2 k (by omega) hk2))
        by_cases ek : k = i
        · subst ek; rw [eb]; exact h2 k (Nat.le_refl _) (by omega)
        · exact h1 k (by omega)
      · refine br_f (by decide) ⟨(eqW_isK e).mpr kt, vp_in_nI (by omega) (by omega), vp_in_nI (by omega) (by omega), ih (i + 1) _ (by omega) (rd_uI hr (by unfold rdT; omega)) (eqW_trans e (eqW_uI rfl)) (fun k hk' => ?_) (fun k hk1 hk2 => ?_)⟩
        · rw [wI_uI]
          by_cases ek : k = i
          · subst ek; rw [if_pos rfl, eb, if_pos rfl]
          · rw [if_neg ek]; exact h1 k (by omega)
        · rw [wI_uI, if_neg (by omega)]; exact h2 k (by omega) hk2
  exact ⟨p + 1, go p 0 u (by omega) hu (eqW_refl _ _) (fun k hk' => absurd hk' (Nat.not_lt_zero k)) (fun k _ hk' => hf k hk')⟩
end RO
