/-! 99.n: the snores heard: which rounds fit; both sides' tests of a round -/
def snA (r a s k : Nat) : Bool := decide ((k + s) % r < a)
def snF (v : Nat → Int64) (r a s : Nat) : Nat → Bool
  | 0 => true
  | k + 1 => snF v r a s k && (decide (v k = -1) || decide (v k = (b2i (snA r a s k)).toInt64))
theorem snF_no {v : Nat → Int64} {r a s k : Nat} (h : snF v r a s (k + 1) = false) : ∀ {m : Nat}, k < m → snF v r a s m = false
  | 0, z => absurd z (Nat.not_lt_zero k)
  | m + 1, z => by
    by_cases e : k = m
    · subst e; exact h
    · show (snF v r a s m && _) = false
      rw [snF_no h (m := m) (by omega)]
      rfl
def snO (v : Nat → Int64) (m : Nat) : Prop := 1 ≤ m ∧ m ≤ 24 ∧ ∀ k, k < m → v k = -1 ∨ v k = 0 ∨ v k = 1
theorem sn_ok {x : Int64} : (x = -1 ∨ x = 0 ∨ x = 1) ↔ (-1 ≤ x ∧ x ≤ 1) := by
  have a1 : (-1 : Int64).toInt = -1 := by decide
  have a2 : (0 : Int64).toInt = 0 := by decide
  have a3 : (1 : Int64).toInt = 1 := by decide
  rw [fa_eq64, fa_eq64, fa_eq64, fa_le64, fa_le64, a1, a2, a3]
  omega
def sn7 (t : Nat) : Prop := t = 71 ∨ t = 72
def sn1 (u : Wd) (m : Nat) (v : Nat → Int64) : Prop := wI u 71 0 = nI m ∧ wI u 71 1 = nI (mk (fun k => !decide (v k = -1)) m) ∧ wI u 71 2 = nI (mk (fun k => decide (v k = 1)) m)
section SN
variable {w : Wd}
theorem q_isAwakeAt {r a s k : Nat} {K : Int32 → Wd → Prop} (h0 : 0 < r) (hr : r < 100) (ha : a < 100) (hs : s < 100) (hk : k < 100) (h : K (b2i (snA r a s k)) w) : w_X9_isAwakeAt (nI r) (nI a) (nI s) (nI k) K w := by
  have lt := Nat.mod_lt (k + s) h0
  refine br_f (nI_ge (a := 0) h0 (by omega)) ⟨nI_ne0 h0 (by omega), ?_⟩
  rw [nI_add, show x_irem (nI (k + s)) (nI r) = nI ((k + s) % r) from pk_rem (by omega) h0 (by omega)]
  unfold snA at h
  by_cases c : (k + s) % r < a
  · rw [decide_eq_true c] at h
    exact br_f (nI_ge c (by omega)) h
  · rw [decide_eq_false c] at h
    exact br_t (nI_le (by omega) (by omega)) h
theorem p_heardIn {r a s k : Nat} {K : Int32 → Wd → Prop} (h0 : 0 < r) (hr : r < 100) (ha : a < 100) (hs : s < 100) (hk : k < 100) (h : K (b2i (snA r a s k)) w) : w_X12_heardIn (nI r) (nI a) (nI s) (nI k) K w := by
  have lt := Nat.mod_lt (k + s) h0
  refine ⟨nI_ne0 h0 (by omega), ?_⟩
  rw [nI_add, show x_irem (nI (k + s)) (nI r) = nI ((k + s) % r) from pk_rem (by omega) h0 (by omega)]
  unfold snA at h
  by_cases c : (k + s) % r < a
  · rw [decide_eq_true c] at h
    exact br_f (nI_ge c (by omega)) h
  · rw [decide_eq_false c] at h
    exact br_t (nI_le (by omega) (by omega)) h
theorem m27a (s : SH w) {i sv m : Nat} {b : Bool} {v : Nat → Int64} (hi : i < 4) (t : TRv w i b sv m v) : isK w (wR w 245 27) 20 ∧ vp_in (nI i) (wn w (wR w 245 27)) ∧ wI w (wR w 245 27) (nI i).toNatClampNeg = nI m := by
  rw [(m27 s).1, (m27 s).2.2, nI_clamp (by omega), t.2.2.2.2.1]
  exact ⟨(m27 s).2.1, vp_in_nI hi (by decide), rfl⟩
theorem m28a (s : SH w) {i sv m k : Nat} {b : Bool} {v : Nat → Int64} (hi : i < 4) (hk : k < 30) (t : TRv w i b sv m v) : isK w (wR w 245 28) 21 ∧ vp_in (30 * nI i + nI k) (wn w (wR w 245 28)) ∧ wL w (wR w 245 28) (30 * nI i + nI k).toNatClampNeg = v k := by
  rw [show (30 * nI i + nI k : Int32) = nI (30 * i + k) from by show nI 30 * nI i + nI k = _; rw [pk_mul, nI_add], (m28 s).1, (m28 s).2.2, nI_clamp (by omega), t.2.2.2.2.2 k hk]
  exact ⟨(m28 s).2.1, vp_in_nI (by omega) (by decide), rfl⟩
theorem p_fitsSeen {i sv m r a s : Nat} {b : Bool} {v : Nat → Int64} {K : Int32 → Wd → Prop} (S : SH w) (hi : i < 4) (t : TRv w i b sv m v) (h0 : 0 < r) (hr : r < 100) (ha : a < 100) (hs : s < 100) (h : K (b2i (snF v r a s m)) w) : w_X12_fitsSeen 245 (nI i) (nI r) (nI a) (nI s) K w := by
  have hm := t.2.1
  have M := S.2.2.2.2.2.2.2.2.2.2.1.1
  have m7 := m27a S hi t
  have go : ∀ d k, k + d = m → snF v r a s k = true → l_X12_fitsSeen_3 K (d + 1) 245 (nI i) (nI r) (nI a) (nI s) (nI k) w := by
    intro d
    induction d with
    | zero =>
      intro k hk f
      have : k = m := by omega
      subst this
      rw [f] at h
      refine ⟨M, m7.1, m7.2.1, ?_⟩
      rw [m7.2.2]
      exact br_t (nI_le (Nat.le_refl _) (by omega)) h
    | succ d ih =>
      intro k hk f
      have m8 := m28a (k := k) S hi (by omega) t
      have nx : (nI k + 1 : Int32) = nI (k + 1) := nI_add k 1
      refine ⟨M, m7.1, m7.2.1, ?_⟩
      rw [m7.2.2]
      refine br_f (nI_ge (by omega) (by omega)) ⟨m8.1, m8.2.1, ?_⟩
      rw [m8.2.2, nx]
      by_cases c : v k = -1
      · exact br_t ((lg_cmp_eq _ _).mpr c) (ih (k + 1) (by omega) (by show (snF v r a s k && _) = true; rw [f, decide_eq_true c]; rfl))
      · refine br_f (fun z => c ((lg_cmp_eq _ _).mp z)) (p_heardIn h0 hr ha hs (by omega) ?_)
        by_cases e : v k = (b2i (snA r a s k)).toInt64
        · exact br_t ((lg_cmp_eq _ _).mpr e) (ih (k + 1) (by omega) (by show (snF v r a s k && _) = true; rw [f, decide_eq_true e, Bool.or_true]; rfl))
        · refine br_f (fun z => e ((lg_cmp_eq _ _).mp z)) ?_
          have q : snF v r a s m = false := snF_no (k := k) (by show (snF v r a s k && _) = false; rw [f, decide_eq_false e, decide_eq_false c]; rfl) (by omega)
          rw [q] at h
          exact h
  exact ⟨m + 1, go m 0 (by omega) rfl⟩
theorem p_seenFault {i sv m : Nat} {v : Nat → Int64} {K : Int32 → Wd → Prop} (S : SH w) (hi : i < 4) (t : TRv w i true sv m v) (h1 : snO v m → K 0 w) (h2 : ¬ snO v m → K 3 w) : w_X12_seenFault 245 (nI i) K w := by
  have hm := t.2.1
  have M := S.2.2.2.2.2.2.2.2.2.2.1.1
  have m7 := m27a S hi t
  refine ⟨M, p_trayFault S hi t ?_⟩
  refine br_t (by rw [if_pos rfl]) ⟨M, m7.1, m7.2.1, ?_⟩
  rw [m7.2.2]
  refine p_withinI 1 24 (by decide) (by decide) ?_
  rw [nI_toInt (by omega)]
  by_cases c : (1 : Int) ≤ m ∧ (m : Int) ≤ 24
  · rw [decide_eq_true c]
    have go : ∀ d k, k + d = m → (∀ j, j < k → v j = -1 ∨ v j = 0 ∨ v j = 1) → l_X12_seenFault_33 K (d + 1) 245 (nI i) (nI k) w := by
      intro d
      induction d with
      | zero =>
        intro k hk f
        have : k = m := by omega
        subst this
        refine ⟨M, m7.1, m7.2.1, ?_⟩
        rw [m7.2.2]
        exact br_t (nI_le (Nat.le_refl _) (by omega)) (h1 ⟨by omega, by omega, f⟩)
      | succ d ih =>
        intro k hk f
        have m8 := m28a (k := k) S hi (by omega) t
        refine ⟨M, m7.1, m7.2.1, ?_⟩
        rw [m7.2.2]
        refine br_f (nI_ge (by omega) (by omega)) ⟨m8.1, m8.2.1, p_within ?_⟩
        rw [m8.2.2, show (nI k + 1 : Int32) = nI (k + 1) from nI_add k 1]
        by_cases e : -1 ≤ v k ∧ v k ≤ 1
        · rw [decide_eq_true e]
          refine br_f (by decide) (ih (k + 1) (by omega) (fun j hj => ?_))
          by_cases q : j = k
          · subst q; exact sn_ok.mpr e
          · exact f j (by omega)
        · rw [decide_eq_false e]
          exact br_t rfl (h2 (fun z => e (sn_ok.mp (z.2.2 k (by omega)))))
    exact br_f (by decide) ⟨m + 1, go m 0 (by omega) (fun j hj => absurd hj (Nat.not_lt_zero j))⟩
  · rw [decide_eq_false c]
    exact br_t rfl (h2 (fun z => c ⟨by have := z.1; omega, by have := z.2.1; omega⟩))
theorem q_canBeHeard {i sv m : Nat} {b : Bool} {v : Nat → Int64} {K : Int32 → Wd → Prop} (S : SH w) (hi : i < 4) (t : TRv w i b sv m v) (h1 : snO v m → K 1 w) (h2 : ¬ snO v m → K 0 w) : w_X9_canBeHeard (230 + 2 * i) K w := by
  have hm := t.2.1
  have TS := S.2.2.2.2.2.2.1 i hi
  refine ⟨TS.1, ?_⟩
  rw [t.2.2.1.2.1]
  by_cases c : 1 ≤ m
  · refine br_f (nI_nlt (b := 1) c (by omega)) ?_
    by_cases c2 : m ≤ 24
    · have go : ∀ d k, k + d = m → (∀ j, j < k → v j = -1 ∨ v j = 0 ∨ v j = 1) → l_X9_canBeHeard_21 K (d + 1) (230 + 2 * i) (nI k) w := by
        intro d
        induction d with
        | zero =>
          intro k hk f
          have : k = m := by omega
          subst this
          refine ⟨TS.1, ?_⟩
          rw [t.2.2.1.2.1]
          exact br_t (nI_le (Nat.le_refl _) (by omega)) (h1 ⟨c, c2, f⟩)
        | succ d ih =>
          intro k hk f
          refine ⟨TS.1, ?_⟩
          rw [t.2.2.1.2.1]
          refine br_f (nI_ge (by omega) (by omega)) (q_numberAt S hi t (by omega) ?_)
          by_cases e : -1 ≤ v k
          · refine br_f (fun z => lg_lt_not_le ((lg_cmp_lt _ _).mp z) e) ⟨TS.1, q_numberAt S hi t (by omega) ?_⟩
            rw [show (nI k + 1 : Int32) = nI (k + 1) from nI_add k 1]
            by_cases e2 : v k ≤ 1
            · refine br_t ((lg_cmp_le _ _).mpr e2) (ih (k + 1) (by omega) (fun j hj => ?_))
              by_cases q : j = k
              · subst q; exact sn_ok.mpr ⟨e, e2⟩
              · exact f j (by omega)
            · exact br_f (fun z => e2 ((lg_cmp_le _ _).mp z)) (h2 (fun z => e2 (sn_ok.mp (z.2.2 k (by omega))).2))
          · exact br_t ((lg_cmp_lt _ _).mpr (by rw [fa_lt64]; rw [fa_le64] at e; omega)) (h2 (fun z => e (sn_ok.mp (z.2.2 k (by omega))).1))
      exact br_t (nI_le (b := 24) c2 (by decide)) ⟨m + 1, go m 0 (by omega) (fun j hj => absurd hj (Nat.not_lt_zero j))⟩
    · exact br_f (nI_ge (a := 24) (by omega) (by omega)) (h2 (fun z => c2 z.2.1))
  · exact br_t (nI_lt (b := 1) (by omega) (by decide)) (h2 (fun z => c z.1))
theorem q_heardTray {x : Int32} {K : Nat → Wd → Prop} {X : String → Wd → Prop} (s : SH w) (T : ∀ i, i < 4 → TR w i) (h1 : ∀ i, i < 4 → x = nI i → ∀ sv m v, TRv w i true sv m v → snO v m → K (230 + 2 * i) w) (h2 : isB 4 x.toInt = false → ∀ N, wN w ≤ N → X "java/util/NoSuchElementException" (wJ w N)) (h3 : ∀ i, i < 4 → x = nI i → ∀ sv m v, TRv w i false sv m v → ∀ N, wN w ≤ N → X "java/lang/IllegalStateException" (wJ w N)) (h4 : ∀ i, i < 4 → x = nI i → ∀ sv m v, TRv w i true sv m v → ¬ snO v m → ∀ N, wN w ≤ N → X "java/lang/IllegalArgumentException" (wJ w N)) : w_X11_heardTray 3 18 64 x K X w :=
  ⟨s.1.1, ⟨by decide, by decide⟩, q_presentTray s T (fun i hi hx sv m v t => q_canBeHeard s hi t (fun o => br_f (by decide) (h1 i hi hx sv m v t o)) (fun o => br_t rfl ⟨⟨by decide, by decide⟩, h4 i hi hx sv m v t o⟩)) h2 h3⟩
theorem q_fits {m r a s : Nat} {v : Nat → Int64} {K : Int32 → Wd → Prop} (S : SH w) (n : sn1 w m v) (o : snO v m) (h0 : 0 < r) (hr : r < 100) (ha : a < 100) (hs : s < 100) (h : K (b2i (snF v r a s m)) w) : w_X9_fits 71 (nI r) (nI a) (nI s) K w := by
  have M := S.2.2.2.1.1
  have hm := o.2.1
  have bH := mk_le (fun k => !decide (v k = -1)) (n := m) (m := 24) hm
  have bA := mk_le (fun k => decide (v k = 1)) (n := m) (m := 24) hm
  have go : ∀ d k, k + d = m → snF v r a s k = true → l_X9_fits_3 K (d + 1) 71 (nI r) (nI a) (nI s) (nI k) w := by
    intro d
    induction d with
    | zero =>
      intro k hk f
      have : k = m := by omega
      subst this
      rw [f] at h
      refine ⟨M, ?_⟩
      rw [n.1]
      exact br_t (nI_le (Nat.le_refl _) (by omega)) h
    | succ d ih =>
      intro k hk f
      refine ⟨M, ?_⟩
      rw [n.1, n.2.1, show (nI k + 1 : Int32) = nI (k + 1) from nI_add k 1]
      refine br_f (nI_ge (by omega) (by omega)) (q_has (by omega) (by omega) ?_)
      rw [mk_bit, decide_eq_true (show k < m by omega), Bool.true_and]
      by_cases c : v k = -1
      · rw [decide_eq_true c]
        exact br_t rfl (ih (k + 1) (by omega) (by show (snF v r a s k && _) = true; rw [f, decide_eq_true c]; rfl))
      · rw [decide_eq_false c]
        refine br_f (by decide) (q_isAwakeAt h0 hr ha hs (by omega) ⟨M, ?_⟩)
        rw [n.2.2]
        refine q_has (by omega) (by omega) ?_
        rw [mk_bit, decide_eq_true (show k < m by omega), Bool.true_and]
        have e : v k = (b2i (decide (v k = 1))).toInt64 := by
          rcases o.2.2 k (by omega) with z | z | z
          · exact absurd z c
          · rw [z]; decide
          · rw [z]; decide
        by_cases q : snA r a s k = decide (v k = 1)
        · rw [q]
          refine br_t rfl (ih (k + 1) (by omega) ?_)
          show (snF v r a s k && _) = true
          rw [f, q, decide_eq_true e, Bool.or_true]
          rfl
        · refine br_f (fun z => q ?_) ?_
          · generalize snA r a s k = b1 at z
            generalize decide (v k = 1) = b2 at z
            revert z
            cases b1 <;> cases b2 <;> decide
          · have q2 : snF v r a s m = false := snF_no (k := k) (by
              show (snF v r a s k && _) = false
              rw [f, decide_eq_false c, decide_eq_false (fun z => q ?_)]
              · rfl
              · rw [e] at z
                generalize snA r a s k = b1 at z
                generalize decide (v k = 1) = b2 at z
                revert z
                cases b1 <;> cases b2 <;> decide) (by omega)
            rw [q2] at h
            exact h
  exact ⟨m + 1, go m 0 (by omega) rfl⟩
end SN
