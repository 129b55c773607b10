/-! 52: the reference's row, what only reads it -/
def sI (w : Wd) (t : Nat) (f : Nat → Int32) : Wd := (w.1, w.2.1, w.2.2.1, va_up w.2.2.2.1 t f, w.2.2.2.2)
theorem sI_uI (w : Wd) (t k : Nat) (v : Int32) : uI w t k v = sI w t (upd (wI w t) k v) := rfl
theorem sI_self (w : Wd) (t : Nat) : sI w t (wI w t) = w := by
  show (w.1, w.2.1, w.2.2.1, va_up w.2.2.2.1 t (w.2.2.2.1 t), w.2.2.2.2) = w
  rw [show va_up w.2.2.2.1 t (w.2.2.2.1 t) = w.2.2.2.1 from funext fun j => by unfold va_up; split <;> simp_all]
theorem sI_sI (w : Wd) (t : Nat) (f g : Nat → Int32) : sI (sI w t f) t g = sI w t g := by
  show (w.1, w.2.1, w.2.2.1, va_up (va_up w.2.2.2.1 t f) t g, w.2.2.2.2) = _
  rw [show va_up (va_up w.2.2.2.1 t f) t g = va_up w.2.2.2.1 t g from funext fun j => by unfold va_up; split <;> rfl]
  rfl
theorem wI_sI (w : Wd) (t : Nat) (f : Nat → Int32) : wI (sI w t f) t = f := va_up_self _ _ _
theorem wI_sIn {w : Wd} {t r : Nat} {f : Nat → Int32} (h : r ≠ t) : wI (sI w t f) r = wI w r := va_up_ne _ _ h
/-- what never changes of a reference that stands at M -/
def okM (w : Wd) (M : Nat) : Prop := isK w M 12 ∧ (wR w M 0 = M + 1 ∧ isK w (M + 1) 20 ∧ wn w (M + 1) = 1215) ∧ (wR w M 17 = M + 6 ∧ isK w (M + 6) 20 ∧ wn w (M + 6) = 64) ∧ (wR w M 18 = M + 7 ∧ isK w (M + 7) 20 ∧ wn w (M + 7) = 22) ∧ (wR w M 20 = M + 8 ∧ isK w (M + 8) 20 ∧ wn w (M + 8) = 10) ∧ (wR w M 21 = M + 9 ∧ isK w (M + 9) 21 ∧ wn w (M + 9) = 6) ∧ (wR w M 22 = M + 10 ∧ isK w (M + 10) 20 ∧ wn w (M + 10) = 41) ∧ (wR w M 23 = M + 11 ∧ isK w (M + 11) 20 ∧ wn w (M + 11) = 6) ∧ (wR w M 26 = M + 12 ∧ isK w (M + 12) 20 ∧ wn w (M + 12) = 4) ∧ (wR w M 27 = M + 13 ∧ isK w (M + 13) 20 ∧ wn w (M + 13) = 4) ∧ (wR w M 28 = M + 14 ∧ isK w (M + 14) 21 ∧ wn w (M + 14) = 120) ∧ (wR w M 1 = M + 2 ∧ isK w (M + 2) 20 ∧ wn w (M + 2) = 1215) ∧ (wR w M 2 = M + 3 ∧ isK w (M + 3) 20 ∧ wn w (M + 3) = 3645) ∧ (wR w M 3 = M + 4 ∧ isK w (M + 4) 23 ∧ wn w (M + 4) = 3) ∧ (wR w M 5 = M + 5 ∧ isK w (M + 5) 20 ∧ wn w (M + 5) = 900)
def rowAt (w : Wd) (t n : Nat) (g : Nat → Nat) : Prop := ∀ k, k < n → wI w t k = nI (g k)
/-- the row that a reference knows -/
def RS (w : Wd) (M : Nat) (g : Nat → Nat) : Prop := okM w M ∧ rowAt w (M + 1) 1215 g
theorem RSs {w : Wd} {M : Nat} {g : Nat → Nat} (h : RS w M g) {t : Nat} (ht : t ≠ M + 1) (f : Nat → Int32) : RS (sI w t f) M g := ⟨h.1, fun k hk => by rw [wI_sIn (fun e => ht e.symm)]; exact h.2 k hk⟩
/-- one read of the row at a constant -/
theorem p_rd {w : Wd} {M k : Nat} {g : Nat → Nat} (h : RS w M g) (hk : k < 1215) {P : Int32 → Prop} (hp : P (nI (g k))) : isK w (wR w M 0) 20 ∧ vp_in (nI k) (wn w (wR w M 0)) ∧ P (wI w (wR w M 0) (nI k).toNatClampNeg) := by
  rw [h.1.2.1.1, h.1.2.1.2.2, nI_clamp (by omega), h.2 k hk]
  exact ⟨h.1.2.1.2.1, vp_in_nI hk (by decide), hp⟩
theorem p_wells {w : Wd} {M : Nat} {g : Nat → Nat} (h : RS w M g) {K : Int32 → Wd → Prop} (hk : K (nI (g 1)) w) : w_X12_wells M K w := ⟨h.1.1, p_rd (k := 1) h (by decide) (P := fun z => K z w) hk⟩
def ph (g : Nat → Nat) (v n : Nat) : Nat := (g 26 + n + g (5 + v)) % g (27 + v)
def upb (g : Nat → Nat) (n v : Nat) : Bool := decide (ph g v n < g (37 + v))
def ups (g : Nat → Nat) (n : Nat) : Nat := mk (upb g n) (g 1)
/-- bounds of a row -/
def wfH (g : Nat → Nat) : Prop := (g 0 ≤ 900 ∧ g 1 ≤ 10 ∧ g 2 ≤ 6 ∧ g 3 ≤ 900 ∧ g 4 ≤ 10) ∧ (∀ v, v < g 1 → (2 ≤ g (27 + v) ∧ g (27 + v) ≤ 12 ∧ 1 ≤ g (37 + v) ∧ g (37 + v) ≤ g (27 + v)) ∧ 1 ≤ g (47 + v) ∧ g (47 + v) ≤ 99 ∧ g (57 + v) < 2 ^ g 1) ∧ ∀ h, h < g 2 → 1 ≤ g (67 + h) ∧ g (67 + h) ≤ 99 ∧ g (73 + h) < 2 ^ g 1
def wfS (g : Nat → Nat) (o B : Nat) : Prop := (∀ v, v < g 1 → g (o + v) < g (27 + v) ∧ g (o + 10 + v) ≤ g (47 + v)) ∧ g (o + 20) < 2 ^ g 1 ∧ g (o + 21) ≤ B
theorem p_phaseIn {w : Wd} {M : Nat} {g : Nat → Nat} {B : Nat} (h : RS w M g) (hh : wfH g) (hs : wfS g 5 B) (hB : B < 2 ^ 24) {v n : Nat} (hv : v < g 1) (hn : n < 2 ^ 24) {K : Int32 → Wd → Prop} (hk : K (nI (ph g v n)) w) : w_X12_phaseIn M (nI v) (nI n) K w := by
  have hv' : v < 10 := Nat.lt_of_lt_of_le hv hh.1.2.1
  obtain ⟨⟨h1, h2, h3, h4⟩, -⟩ := hh.2.1 v hv
  have h5 := (hs.1 v hv).1
  have h6 : g 26 ≤ B := hs.2.2
  obtain ⟨a1, a2, a3⟩ := p_rd (k := 26) h (by decide) (P := fun z => z = nI (g 26)) rfl
  obtain ⟨-, b2, b3⟩ := p_rd (k := 5 + v) h (by omega) (P := fun z => z = nI (g (5 + v))) rfl
  obtain ⟨-, c2, c3⟩ := p_rd (k := 27 + v) h (by omega) (P := fun z => z = nI (g (27 + v))) rfl
  rw [show nI (5 + v) = 5 + nI v from (nI_add 5 v).symm] at b2 b3
  rw [show nI (27 + v) = 27 + nI v from (nI_add 27 v).symm] at c2 c3
  refine ⟨h.1.1, a1, a2, b2, c2, ?_, ?_⟩
  · rw [c3]; exact nI_ne0 (by omega) (by omega)
  · rw [show wI w (wR w M 0) (26 : Int32).toNatClampNeg = nI (g 26) from a3, b3, c3, nI_add, nI_add]
    have e : x_irem (nI (g 26 + n + g (5 + v))) (nI (g (27 + v))) = nI (ph g v n) := pk_rem (by omega) (by omega) (by omega)
    rw [e]
    exact hk
theorem p_isUpIn {w : Wd} {M : Nat} {g : Nat → Nat} {B : Nat} (h : RS w M g) (hh : wfH g) (hs : wfS g 5 B) (hB : B < 2 ^ 24) {v n : Nat} (hv : v < g 1) (hn : n < 2 ^ 24) {K : Int32 → Wd → Prop} (hk : K (b2i (upb g n v)) w) : w_X12_isUpIn M (nI v) (nI n) K w := by
  have hv' : v < 10 := Nat.lt_of_lt_of_le hv hh.1.2.1
  obtain ⟨⟨h1, h2, h3, h4⟩, -⟩ := hh.2.1 v hv
  have h7 : ph g v n < g (27 + v) := Nat.mod_lt _ (by omega)
  refine ⟨h.1.1, p_phaseIn h hh hs hB hv hn ?_⟩
  obtain ⟨a1, a2, a3⟩ := p_rd (k := 37 + v) h (by omega) (P := fun z => z = nI (g (37 + v))) rfl
  rw [show nI (37 + v) = 37 + nI v from (nI_add 37 v).symm] at a2 a3
  refine ⟨h.1.1, a1, a2, ?_⟩
  rw [a3]
  by_cases hc : g (37 + v) ≤ ph g v n
  · refine br_t (nI_le hc (by omega)) ?_
    rw [show upb g n v = false from decide_eq_false (by omega)] at hk
    exact hk
  · refine br_f (nI_ge (by omega) (by omega)) ?_
    rw [show upb g n v = true from decide_eq_true (by omega)] at hk
    exact hk
theorem b2i_or (b : Bool) : b2i b = 0 ∨ b2i b = 1 := by cases b <;> decide
theorem p_isUp {w : Wd} {M : Nat} {g : Nat → Nat} {B : Nat} (h : RS w M g) (hh : wfH g) (hs : wfS g 5 B) (hB : B < 2 ^ 24) {v : Nat} (hv : v < g 1) {K : Int32 → Wd → Prop} (hk : K (b2i (upb g 0 v)) w) : w_X12_isUp M (nI v) K w := ⟨h.1.1, p_isUpIn h hh hs hB hv (n := 0) (by decide) ⟨b2i_or _, hk⟩⟩
theorem p_upIn {w : Wd} {M : Nat} {g : Nat → Nat} {B : Nat} (h : RS w M g) (hh : wfH g) (hs : wfS g 5 B) (hB : B < 2 ^ 24) {n : Nat} (hn : n < 2 ^ 24) {K : Int32 → Wd → Prop} (hk : K (nI (ups g n)) w) : w_X12_upIn M (nI n) K w := by
  have h10 := hh.1.2.1
  have go : ∀ d i, i + d = g 1 → l_X12_upIn_4 K (d + 1) M (nI n) (nI (mk (upb g n) i)) (nI i) w := by
    intro d
    induction d with
    | zero =>
      intro i hi
      have : i = g 1 := by omega
      subst this
      exact ⟨h.1.1, p_wells h (br_t (nI_le (Nat.le_refl _) (by omega)) hk)⟩
    | succ d ih =>
      intro i hi
      refine ⟨h.1.1, p_wells h (br_f (nI_ge (by omega) (by omega)) ⟨h.1.1, p_isUpIn h hh hs hB (by omega) hn ?_⟩)⟩
      have e := ih (i + 1) (by omega)
      rw [p_one (by omega), p_or0, p_or _ (by omega), nI_1]
      cases eb : upb g n i
      · refine br_t rfl ?_
        rw [show mk (upb g n) (i + 1) = mk (upb g n) i by show mk (upb g n) i + _ = _; rw [eb]; rfl] at e
        exact e
      · refine br_f (by decide) ?_
        rw [show mk (upb g n) (i + 1) = mk (upb g n) i + 2 ^ i by show mk (upb g n) i + _ = _; rw [eb]; rfl] at e
        exact e
  exact ⟨g 1 + 1, go (g 1) 0 (by omega)⟩
def wsum (g : Nat → Nat) : Nat → Nat
  | 0 => 0
  | n + 1 => wsum g n + g (15 + n)
theorem p_waterAll {w : Wd} {M : Nat} {g : Nat → Nat} (h : RS w M g) (hh : wfH g) {K : Int32 → Wd → Prop} (hk : K (nI (wsum g (g 1))) w) : w_X12_waterAll M K w := by
  have h10 := hh.1.2.1
  have go : ∀ d i, i + d = g 1 → l_X12_waterAll_4 K (d + 1) M (nI (wsum g i)) (nI i) w := by
    intro d
    induction d with
    | zero =>
      intro i hi
      have : i = g 1 := by omega
      subst this
      exact ⟨h.1.1, p_wells h (br_t (nI_le (Nat.le_refl _) (by omega)) hk)⟩
    | succ d ih =>
      intro i hi
      refine ⟨h.1.1, p_wells h (br_f (nI_ge (by omega) (by omega)) ⟨h.1.1, ?_⟩)⟩
      obtain ⟨a1, a2, a3⟩ := p_rd (k := 15 + i) h (by omega) (P := fun z => z = nI (g (15 + i))) rfl
      rw [show nI (15 + i) = 15 + nI i from (nI_add 15 i).symm] at a2 a3
      refine ⟨a1, a2, ?_⟩
      rw [a3, nI_add, nI_1]
      exact ih (i + 1) (by omega)
  exact ⟨g 1 + 1, go (g 1) 0 (by omega)⟩
theorem p_within {v a b : Int64} {K : Int32 → Wd → Prop} {w : Wd} (hk : K (b2i (decide (a ≤ v ∧ v ≤ b))) w) : w_X12_within v a b K w := by
  by_cases h1 : v < a
  · refine br_t ((lg_cmp_lt v a).mpr h1) ?_
    rw [show decide (a ≤ v ∧ v ≤ b) = false from decide_eq_false (fun h => lg_lt_not_le h1 h.1)] at hk
    exact hk
  · refine br_f (fun z => h1 ((lg_cmp_lt v a).mp z)) ?_
    by_cases h2 : b < v
    · refine br_t ((lg_cmp_gt v b).mpr h2) ?_
      rw [show decide (a ≤ v ∧ v ≤ b) = false from decide_eq_false (fun h => lg_lt_not_le h2 h.2)] at hk
      exact hk
    · refine br_f (fun z => h2 ((lg_cmp_gt v b).mp z)) ?_
      rw [show decide (a ≤ v ∧ v ≤ b) = true from decide_eq_true ⟨by rw [fa_le64]; rw [fa_lt64] at h1; omega, by rw [fa_le64]; rw [fa_lt64] at h2; omega⟩] at hk
      exact hk
/-- is a whole number one below n -/
def isB (n : Nat) (x : Int) : Bool := decide (0 ≤ x ∧ x < n)
theorem p_isWell {w : Wd} {M : Nat} {g : Nat → Nat} (h : RS w M g) (hh : wfH g) {x : Int64} {K : Int32 → Wd → Prop} (hk : K (b2i (isB (g 1) x.toInt)) w) : w_X12_isWell M x K w := by
  have h10 := hh.1.2.1
  refine ⟨h.1.1, p_wells h (p_within ⟨b2i_or _, ?_⟩)⟩
  have e1 : (nI (g 1) - 1).toInt64.toInt = (g 1 : Int) - 1 := by rw [Int32.toInt_toInt64]; exact pk_sub_toInt (a := g 1) (b := 1) (by omega) (by decide)
  have e : decide ((0 : Int64) ≤ x ∧ x ≤ (nI (g 1) - 1).toInt64) = isB (g 1) x.toInt := by
    unfold isB
    apply decide_eq_decide.mpr
    rw [fa_le64, fa_le64, e1]
    show (0 ≤ x.toInt ∧ _) ↔ _
    omega
  rw [e]
  exact hk
theorem p_isHouse {w : Wd} {M : Nat} {g : Nat → Nat} (h : RS w M g) (hh : wfH g) {x : Int32} {K : Int32 → Wd → Prop} (hk : K (b2i (isB (g 2) x.toInt)) w) : w_X12_isHouse M x K w := by
  have h10 := hh.1.2.2.1
  obtain ⟨a1, a2, a3⟩ := p_rd (k := 2) h (by decide) (P := fun z => z = nI (g 2)) rfl
  refine ⟨h.1.1, a1, a2, p_within ⟨b2i_or _, ?_⟩⟩
  rw [show wI w (wR w M 0) (2 : Int32).toNatClampNeg = nI (g 2) from a3]
  have e1 : (nI (g 2) - 1).toInt64.toInt = (g 2 : Int) - 1 := by rw [Int32.toInt_toInt64]; exact pk_sub_toInt (a := g 2) (b := 1) (by omega) (by decide)
  have e : decide ((0 : Int64) ≤ x.toInt64 ∧ x.toInt64 ≤ (nI (g 2) - 1).toInt64) = isB (g 2) x.toInt := by
    unfold isB
    apply decide_eq_decide.mpr
    rw [fa_le64, fa_le64, e1, Int32.toInt_toInt64]
    show (0 ≤ x.toInt ∧ _) ↔ _
    omega
  rw [e]
  exact hk
theorem p_isNoise {w : Wd} {x : Int32} {K : Int32 → Wd → Prop} (hk : K (b2i (isB 100 x.toInt)) w) : w_X12_isNoise x K w := by
  refine p_within ⟨b2i_or _, ?_⟩
  have e : decide ((0 : Int64) ≤ x.toInt64 ∧ x.toInt64 ≤ 99) = isB 100 x.toInt := by
    unfold isB
    apply decide_eq_decide.mpr
    rw [fa_le64, fa_le64, Int32.toInt_toInt64]
    show (0 ≤ x.toInt ∧ x.toInt ≤ 99) ↔ _
    omega
  rw [e]
  exact hk
