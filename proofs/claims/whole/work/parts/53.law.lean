/-! 53: a law as a stack machine on lists; the reference's isWoken -/
def mnL (a b : Int64) : Int64 := if b < a then b else a
def mxL (a b : Int64) : Int64 := if a < b then b else a
theorem p_min {a b : Int64} {K : Int64 → Wd → Prop} {w : Wd} (hk : K (mnL a b) w) : w_J9_min_f86c9 a b K w := by
  unfold mnL at hk
  by_cases h : b < a
  · rw [if_pos h] at hk
    exact br_t ((lg_cmp_gt a b).mpr h) hk
  · rw [if_neg h] at hk
    exact br_f (fun z => h ((lg_cmp_gt a b).mp z)) hk
theorem p_max {a b : Int64} {K : Int64 → Wd → Prop} {w : Wd} (hk : K (mxL a b) w) : w_J9_max_f86c9 a b K w := by
  unfold mxL at hk
  by_cases h : a < b
  · rw [if_pos h] at hk
    exact br_t ((lg_cmp_lt a b).mpr h) hk
  · rw [if_neg h] at hk
    exact br_f (fun z => h ((lg_cmp_lt a b).mp z)) hk
def bdF (v : Int64) : Int32 := (mxL (-1000000) (mnL 1000000 v)).toInt32
theorem p_bound {v : Int64} {K : Int32 → Wd → Prop} {w : Wd} (hk : K (bdF v) w) : w_X12_bound v K w := p_min (p_max hk)
def dnF (c : Int32) (a b : Int64) : Int32 :=
  if c = 10 then bdF (a + b) else if c = 11 then bdF (a - b) else if c = 12 then bdF (a * b) else if c = 13 then (if a = b then 1 else 0) else if c = 14 then (if a < b then 1 else 0) else if c = 15 then (if b < a then 1 else 0) else if c = 16 then (if 1 < a + b then 1 else 0) else if 0 < a + b then 1 else 0
theorem p_done {c : Int32} {a b : Int64} {K : Int32 → Wd → Prop} {w : Wd} (hk : K (dnF c a b) w) : w_X12_done c a b K w := by
  unfold dnF at hk
  by_cases h0 : c = 10
  · rw [if_pos h0] at hk; exact br_t h0 (p_bound hk)
  rw [if_neg h0] at hk; refine br_f h0 ?_
  by_cases h1 : c = 11
  · rw [if_pos h1] at hk; exact br_t h1 (p_bound hk)
  rw [if_neg h1] at hk; refine br_f h1 ?_
  by_cases h2 : c = 12
  · rw [if_pos h2] at hk; exact br_t h2 (p_bound hk)
  rw [if_neg h2] at hk; refine br_f h2 ?_
  by_cases h3 : c = 13
  · rw [if_pos h3] at hk; refine br_t h3 ?_
    by_cases e : a = b
    · rw [if_pos e] at hk; exact br_t ((lg_cmp_eq a b).mpr e) hk
    · rw [if_neg e] at hk; exact br_f (fun z => e ((lg_cmp_eq a b).mp z)) hk
  rw [if_neg h3] at hk; refine br_f h3 ?_
  by_cases h4 : c = 14
  · rw [if_pos h4] at hk; refine br_t h4 ?_
    by_cases e : a < b
    · rw [if_pos e] at hk; exact br_f (fun z => lg_lt_not_le e ((lg_cmp_ge a b).mp z)) hk
    · rw [if_neg e] at hk; exact br_t ((lg_cmp_ge a b).mpr (by rw [fa_le64]; rw [fa_lt64] at e; omega)) hk
  rw [if_neg h4] at hk; refine br_f h4 ?_
  by_cases h5 : c = 15
  · rw [if_pos h5] at hk; refine br_t h5 ?_
    by_cases e : b < a
    · rw [if_pos e] at hk; exact br_f (fun z => lg_lt_not_le e ((lg_cmp_le a b).mp z)) hk
    · rw [if_neg e] at hk; exact br_t ((lg_cmp_le a b).mpr (by rw [fa_le64]; rw [fa_lt64] at e; omega)) hk
  rw [if_neg h5] at hk; refine br_f h5 ?_
  by_cases h6 : c = 16
  · rw [if_pos h6] at hk; refine br_t h6 ?_
    by_cases e : 1 < a + b
    · rw [if_pos e] at hk; exact br_f (fun z => lg_lt_not_le e ((lg_cmp_le _ _).mp z)) hk
    · rw [if_neg e] at hk; exact br_t ((lg_cmp_le _ _).mpr (by rw [fa_le64]; rw [fa_lt64] at e; omega)) hk
  rw [if_neg h6] at hk; refine br_f h6 ?_
  by_cases e : 0 < a + b
  · rw [if_pos e] at hk; exact br_f (fun z => lg_lt_not_le e ((lg_cmp_le _ _).mp z)) hk
  · rw [if_neg e] at hk; exact br_t ((lg_cmp_le _ _).mpr (by rw [fa_le64]; rw [fa_lt64] at e; omega)) hk
/-- what stands for a name -/
def lEnv (g : Nat → Nat) (a b n k : Nat) : Nat := if k = 0 then g (47 + a) else if k = 1 then g (47 + b) else if k = 2 then g (15 + a) else if k = 3 then g (15 + b) else if k = 4 then n else if k = 5 then g 26 % 24 else if k = 6 then ph g b 0 else cb (g (57 + a))
def lStep (g : Nat → Nat) (a b n c : Nat) (l : List Int32) : List Int32 :=
  if 1000 ≤ c then nI (c - 1000) :: l else if 100 ≤ c then nI (lEnv g a b n (c - 100)) :: l else if c = 18 then (1 - l.headD 0) :: l.tail else dnF (nI c) (l.tail.headD 0).toInt64 (l.headD 0).toInt64 :: l.tail.tail
def lRun (g : Nat → Nat) (a b n : Nat) : Nat → Nat → List Int32 → List Int32
  | 0, _, l => l
  | d + 1, i, l => lRun g a b n d (i + 1) (lStep g a b n (g (299 + i)) l)
/-- a law that is well made: what lies on the stack, truths (true) and numbers -/
def okT (g : Nat → Nat) : Nat → Nat → List Bool → Prop
  | 0, _, t => t = [true]
  | d + 1, i, t => t.length ≤ 64 ∧ ((((1000 ≤ g (299 + i) ∧ g (299 + i) < 2000) ∨ (100 ≤ g (299 + i) ∧ g (299 + i) < 108)) ∧ t.length < 64 ∧ okT g d (i + 1) (false :: t)) ∨ (g (299 + i) = 18 ∧ ∃ r, t = true :: r ∧ okT g d (i + 1) (true :: r)) ∨ (10 ≤ g (299 + i) ∧ g (299 + i) ≤ 12 ∧ ∃ r, t = false :: false :: r ∧ okT g d (i + 1) (false :: r)) ∨ (13 ≤ g (299 + i) ∧ g (299 + i) ≤ 15 ∧ ∃ r, t = false :: false :: r ∧ okT g d (i + 1) (true :: r)) ∨ (16 ≤ g (299 + i) ∧ g (299 + i) ≤ 17 ∧ ∃ r, t = true :: true :: r ∧ okT g d (i + 1) (true :: r)))
/-- none is beside itself -/
def irr (g : Nat → Nat) : Prop := ∀ v, v < g 1 → (g (57 + v)).testBit v = false
theorem irr_of {g g' : Nat → Nat} (e1 : g' 1 = g 1) (e : ∀ v, v < g 1 → g' (57 + v) = g (57 + v)) (h : irr g) : irr g' := fun v hv => by
  rw [e1] at hv
  rw [e v hv]
  exact h v hv
def wfL (g : Nat → Nat) : Prop := (g 3 = 0 ∧ irr g) ∨ (okT g (g 3) 0 [] ∧ irr g)
theorem wfL_irr {g : Nat → Nat} (h : wfL g) : irr g := h.elim (fun z => z.2) (fun z => z.2)
def okX (b : Bool) (x : Int32) : Prop := if b then x = 0 ∨ x = 1 else -1000000 ≤ x.toInt ∧ x.toInt ≤ 1000000
def okV : List Bool → List Int32 → Prop
  | [], [] => True
  | b :: t, x :: l => okX b x ∧ okV t l
  | _, _ => False
theorem okV_len : ∀ {t : List Bool} {l : List Int32}, okV t l → l.length = t.length
  | [], [], _ => rfl
  | _ :: _, _ :: _, h => congrArg (· + 1) (okV_len h.2)
theorem okV_c {b : Bool} {t : List Bool} {l : List Int32} (h : okV (b :: t) l) : ∃ x l', l = x :: l' ∧ okX b x ∧ okV t l' := match l, h with
  | x :: l', h => ⟨x, l', rfl, h.1, h.2⟩
theorem bdF_ok (v : Int64) : okX false (bdF v) := by
  show -1000000 ≤ (bdF v).toInt ∧ (bdF v).toInt ≤ 1000000
  have h : -1000000 ≤ (mxL (-1000000) (mnL 1000000 v)).toInt ∧ (mxL (-1000000) (mnL 1000000 v)).toInt ≤ 1000000 := by
    have e1 : (-1000000 : Int64).toInt = -1000000 := by decide
    have e2 : (1000000 : Int64).toInt = 1000000 := by decide
    unfold mxL mnL
    split <;> split <;> simp_all only [fa_lt64] <;> omega
  have e : (bdF v).toInt = (mxL (-1000000) (mnL 1000000 v)).toInt := by
    unfold bdF
    rw [← Int32.toInt_toInt64, lg_i2l_l2i (by omega) (by omega)]
  rw [e]
  exact h
theorem dnF_num {c : Int32} (h : c = 10 ∨ c = 11 ∨ c = 12) (a b : Int64) : okX false (dnF c a b) := by
  rcases h with rfl | rfl | rfl
  · exact bdF_ok _
  · exact bdF_ok _
  · exact bdF_ok _
theorem dnF_tru {c : Int32} (h : ¬ c = 10 ∧ ¬ c = 11 ∧ ¬ c = 12) (a b : Int64) : okX true (dnF c a b) := by
  show dnF c a b = 0 ∨ dnF c a b = 1
  unfold dnF
  rw [if_neg h.1, if_neg h.2.1, if_neg h.2.2]
  repeat' split
  all_goals first | exact Or.inr rfl | exact Or.inl rfl
/-- the row of a stack -/
def stkR (f : Nat → Int32) : List Int32 → Prop
  | [] => True
  | x :: l => f l.length = x ∧ stkR f l
theorem stkR_up {f : Nat → Int32} {k : Nat} {z : Int32} : ∀ {l : List Int32}, l.length ≤ k → stkR f l → stkR (upd f k z) l
  | [], _, _ => trivial
  | x :: l, h, hs => ⟨by rw [pk_un (by simp at h; omega)]; exact hs.1, stkR_up (by simp at h; omega) hs.2⟩
theorem stkR_push {f : Nat → Int32} {z : Int32} {l : List Int32} (h : stkR f l) : stkR (upd f l.length z) (z :: l) := ⟨pk_us, stkR_up (Nat.le_refl _) h⟩
