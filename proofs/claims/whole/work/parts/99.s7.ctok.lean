/-! 99.s7: the class's tokens -/
def FCm (u z : Wd) : Prop := eqW (fun t => t = 238 ∨ t = 240) u z ∧ wR z = wR u
def TPc (u : Wd) (t : Nat → Nat) (n : Nat) : Prop := n ≤ 900 ∧ ∀ k, k < n → t k < 256 ∧ wI u 239 k = (nI (t k)).toInt8.toInt32
theorem b255 : ∀ v, v < 256 → ((nI v).toInt8.toInt32 &&& 255) = nI v := by decide +kernel
section CT
variable {u z : Wd} {t : Nat → Nat} {n p : Nat} {K : Int32 → Wd → Prop}
theorem FCm_M (M : RrS u) (h : FCm u z) : RrS z := RrS_cx (cx_eqW h.1) (congrFun h.2 238) M
theorem FCm_8 {k : Nat} {x : Int32} (h : FCm u z) : FCm u (uI z 238 k x) := ⟨eqW_trans h.1 (eqW_uI (Or.inl rfl)), h.2⟩
theorem FCm_0 {k : Nat} {x : Int32} (h : FCm u z) : FCm u (uI z 240 k x) := ⟨eqW_trans h.1 (eqW_uI (Or.inr rfl)), h.2⟩
theorem q_byte {q : Nat} (M : RrS u) (T : TPc u t n) (h : FCm u z) (h5 : wI z 238 5 = nI n) (hq : q ≤ n) (hk : K (if q < n then nI (t q) else -1) z) : w_X7_byteAt 238 (nI q) K z := by
  have Mz := FCm_M M h
  have hn := T.1
  unfold w_X7_byteAt
  rw [h5, Mz.2.1.1, Mz.2.1.2.2, nI_clamp (by omega)]
  refine br_f (nI_pos (by omega)) ⟨Mz.1, ?_⟩
  by_cases c : q < n
  · rw [if_pos c] at hk
    have tq := T.2 q c
    refine br_f (nI_ge c (by omega)) ⟨Mz.2.1.2.1, br_f (nI_ge (b := 900) (by omega) (by decide)) ⟨vp_in_nI (by omega) (by decide), ?_⟩⟩
    rw [(h.1.2.2.2 239 (by decide)).1, tq.2, b255 _ tq.1]
    exact hk
  · rw [if_neg c] at hk
    exact br_t (nI_le (by omega) (by omega)) hk
theorem q_blank {v : Nat} (hv : v < 256) (h : K (b2i (decide (v = 32) || decide (v = 10))) z) : w_X7_isBlank (nI v) K z := by
  by_cases c1 : v = 10
  · rw [decide_eq_true c1, Bool.or_true] at h
    exact br_t (by rw [c1]; rfl) h
  · refine br_f (nI_ne (by omega) (b := 10) (by decide) c1) ?_
    rw [decide_eq_false c1, Bool.or_false] at h
    by_cases c2 : v = 32
    · rw [decide_eq_true c2] at h
      exact br_t (by rw [c2]; rfl) h
    · rw [decide_eq_false c2] at h
      exact br_f (nI_ne (by omega) (b := 32) (by decide) c2) h
def kd28 (x : Int32) : Int32 := if x = -1 then 4 else if x = 40 then 3 else if x = 41 then 3 else if x = 42 then 3 else if x = 43 then 3 else if x = 45 then 3 else if x = 59 then 3 else if x = 60 then 3 else if x = 61 then 3 else if x = 62 then 3 else if x = 91 then 3 else if x = 93 then 3 else 0
def kdF (x : Int32) : Int32 := if x < 97 then (if x < 48 then kd28 x else if 57 < x then kd28 x else 1) else if 122 < x then (if x < 48 then kd28 x else if 57 < x then kd28 x else 1) else 2
def ckV (v : Nat) : Int32 := if 97 ≤ v ∧ v ≤ 122 then 2 else if 48 ≤ v ∧ v ≤ 57 then 1 else if cSg v then 3 else 0
theorem kdF_v : ∀ v, v < 256 → kdF (nI v) = ckV v := by decide +kernel
theorem j_kd {x : Int32} (h : K (kd28 x) z) : j_X7_kindOf_28 K x z := br_i _ h id (fun z => br_i _ z id (fun z => br_i _ z id (fun z => br_i _ z id (fun z => br_i _ z id (fun z => br_i _ z id (fun z => br_i _ z id (fun z => br_i _ z id (fun z => br_i _ z id (fun z => br_i _ z id (fun z => br_i _ z id (fun z => br_i _ z id id)))))))))))
theorem q_kindF {x : Int32} (h : K (kdF x) z) : w_X7_kindOf x K z := br_i _ h (fun z => br_i _ z j_kd (fun z => br_i _ z j_kd id)) (fun z => br_i _ z (fun z => br_i _ z j_kd (fun z => br_i _ z j_kd id)) id)
/-- the kind of what lies at a place -/
def ckP (t : Nat → Nat) (n q : Nat) : Int32 := if q < n then ckV (t q) else 4
theorem q_kindAt {q : Nat} (T : TPc u t n) (h : K (ckP t n q) z) : w_X7_kindOf (if q < n then nI (t q) else -1) K z := by
  unfold ckP at h
  by_cases c : q < n
  · rw [if_pos c] at h ⊢
    refine q_kindF ?_
    rw [kdF_v _ (T.2 q c).1]
    exact h
  · rw [if_neg c] at h ⊢
    exact q_kindF h
theorem ckV_le {v : Nat} : ckV v = 2 ↔ (97 ≤ v ∧ v ≤ 122) := by
  unfold ckV
  by_cases c : 97 ≤ v ∧ v ≤ 122
  · rw [if_pos c]; exact ⟨fun _ => c, fun _ => rfl⟩
  · rw [if_neg c]
    refine ⟨fun y => ?_, fun y => absurd y c⟩
    exfalso
    split at y
    · exact absurd y (by decide)
    · split at y
      · exact absurd y (by decide)
      · exact absurd y (by decide)
theorem ckV_di {v : Nat} : ckV v = 1 ↔ (48 ≤ v ∧ v ≤ 57) := by
  unfold ckV
  by_cases c : 97 ≤ v ∧ v ≤ 122
  · rw [if_pos c]; exact ⟨fun y => absurd y (by decide), fun y => by omega⟩
  · rw [if_neg c]
    by_cases c2 : 48 ≤ v ∧ v ≤ 57
    · rw [if_pos c2]; exact ⟨fun _ => c2, fun _ => rfl⟩
    · rw [if_neg c2]
      refine ⟨fun y => ?_, fun y => absurd y c2⟩
      exfalso
      split at y
      · exact absurd y (by decide)
      · exact absurd y (by decide)
theorem ckP_le {q : Nat} : ckP t n q = 2 ↔ (q < n ∧ cLe t q = true) := by
  unfold ckP cLe
  rw [decide_eq_true_iff]
  by_cases c : q < n
  · rw [if_pos c, ckV_le]; exact ⟨fun y => ⟨c, y⟩, fun y => y.2⟩
  · rw [if_neg c]; exact ⟨fun y => absurd y (by decide), fun y => absurd y.1 c⟩
theorem ckP_di {q : Nat} : ckP t n q = 1 ↔ (q < n ∧ cDi t q = true) := by
  unfold ckP cDi
  rw [decide_eq_true_iff]
  by_cases c : q < n
  · rw [if_pos c, ckV_di]; exact ⟨fun y => ⟨c, y⟩, fun y => y.2⟩
  · rw [if_neg c]; exact ⟨fun y => absurd y (by decide), fun y => absurd y.1 c⟩
/-- the reader's row: what its tokens don't touch, and where it is -/
def co (u : Wd) (f r2 : Nat → Int32) (z : Wd) (b e : Nat) : Prop := FCm u z ∧ wI z 240 = r2 ∧ (∀ k, k ≠ 6 → k ≠ 7 → k ≠ 8 → k ≠ 9 → wI z 238 k = f k) ∧ wI z 238 6 = nI b ∧ wI z 238 7 = nI e
theorem co_6 {f r2 : Nat → Int32} {b b' e : Nat} (h : co u f r2 z b e) : co u f r2 (uI z 238 6 (nI b')) b' e := ⟨FCm_8 h.1, by rw [wI_uI_ne (by decide)]; exact h.2.1, fun k k1 k2 k3 k4 => by rw [wI_uI, if_neg k1]; exact h.2.2.1 k k1 k2 k3 k4, by rw [wI_uI, if_pos rfl], by rw [wI_uI, if_neg (by decide)]; exact h.2.2.2.2⟩
theorem co_7 {f r2 : Nat → Int32} {b e e' : Nat} (h : co u f r2 z b e) : co u f r2 (uI z 238 7 (nI e')) b e' := ⟨FCm_8 h.1, by rw [wI_uI_ne (by decide)]; exact h.2.1, fun k k1 k2 k3 k4 => by rw [wI_uI, if_neg k2]; exact h.2.2.1 k k1 k2 k3 k4, by rw [wI_uI, if_neg (by decide)]; exact h.2.2.2.1, by rw [wI_uI, if_pos rfl]⟩
theorem co_k {f r2 : Nat → Int32} {b e k : Nat} {x : Int32} (hk : k = 8 ∨ k = 9) (h : co u f r2 z b e) : co u f r2 (uI z 238 k x) b e := ⟨FCm_8 h.1, by rw [wI_uI_ne (by decide)]; exact h.2.1, fun j k1 k2 k3 k4 => by rw [wI_uI, if_neg (by omega)]; exact h.2.2.1 j k1 k2 k3 k4, by rw [wI_uI, if_neg (by omega)]; exact h.2.2.2.1, by rw [wI_uI, if_neg (by omega)]; exact h.2.2.2.2⟩
theorem co_5 {f r2 : Nat → Int32} {b e : Nat} (f5 : f 5 = nI n) (h : co u f r2 z b e) : wI z 238 5 = nI n := (h.2.2.1 5 (by decide) (by decide) (by decide) (by decide)).trans f5
theorem q_skip {f r2 : Nat → Int32} {E : Nat → Wd → Prop} {b e : Nat} (M : RrS u) (T : TPc u t n) (f5 : f 5 = nI n) (hE : ∀ z, co u f r2 z b e → E 238 z) : ∀ d q i z, q + d = n → i ≤ q → rE (cBl t) n q = b → co u f r2 z q e → l_X7_advance_10 E K (d + 1) 238 (nI i) z := by
  have hn := T.1
  intro d
  induction d with
  | zero =>
    intro q i z hq hi er h
    have Mz := FCm_M M h.1
    rw [rE_n (by omega)] at er
    subst er
    refine ⟨fun _ => hE z h, fun _ => ⟨Mz.1, ?_⟩⟩
    rw [h.2.2.2.1]
    refine q_byte M T h.1 (co_5 f5 h) (by omega) ?_
    rw [if_neg (by omega)]
    exact br_f (by decide) (br_f (by decide) (br_t rfl (hE z h)))
  | succ d ih =>
    intro q i z hq hi er h
    have Mz := FCm_M M h.1
    have tq := (T.2 q (by omega)).1
    refine br_f (nI_ge (b := 900) (by omega) (by decide)) ⟨Mz.1, ?_⟩
    rw [h.2.2.2.1, show (nI i + 1 : Int32) = nI (i + 1) from nI_add i 1]
    refine q_byte M T h.1 (co_5 f5 h) (by omega) ?_
    rw [if_pos (by omega)]
    refine q_blank tq ?_
    rw [h.2.2.2.1, show (nI q + 1 : Int32) = nI (q + 1) from nI_add q 1]
    cases c : (decide (t q = 32) || decide (t q = 10))
    · have y := rE_n (P := cBl t) (n := n) (p := q) (fun z => by have := z.2; unfold cBl at this; rw [c] at this; exact Bool.noConfusion this)
      have e' := y.symm.trans er
      subst e'
      exact br_t rfl (hE z h)
    · have y := rE_y (P := cBl t) (n := n) (p := q) (by omega) c
      exact br_f (by decide) ⟨Mz.1, ih (q + 1) (i + 1) _ (by omega) (by omega) (y.symm.trans er) (co_6 h)⟩
theorem q_letters {f r2 : Nat → Int32} {E : Nat → Wd → Prop} {b e : Nat} (M : RrS u) (T : TPc u t n) (f5 : f 5 = nI n) (hE : ∀ z, co u f r2 z b e → wI z 238 8 = 2 → wI z 238 9 = 0 → E 238 z) : ∀ d q i z, q + d = n → i ≤ q → rE (cLe t) n q = e → co u f r2 z b q → wI z 238 8 = 2 → wI z 238 9 = 0 → l_X7_advance_105 E K (d + 1) 238 900 (nI i) z := by
  have hn := T.1
  intro d
  induction d with
  | zero =>
    intro q i z hq hi er h h8 h9
    have Mz := FCm_M M h.1
    have y : rE (cLe t) n q = q := rE_n (by omega)
    have e' := y.symm.trans er
    subst e'
    refine ⟨fun _ => hE z h h8 h9, fun _ => ⟨Mz.1, ?_⟩⟩
    rw [h8, h.2.2.2.2]
    refine br_f (by decide) (q_byte M T h.1 (co_5 f5 h) (by omega) (q_kindAt T ⟨Mz.1, ?_⟩))
    rw [h8]
    exact br_f (fun z => by have := (ckP_le.mp z).1; omega) (hE z h h8 h9)
  | succ d ih =>
    intro q i z hq hi er h h8 h9
    have Mz := FCm_M M h.1
    refine br_f (nI_ge (b := 900) (by omega) (by decide)) ⟨Mz.1, ?_⟩
    rw [h8, h.2.2.2.2, show (nI i + 1 : Int32) = nI (i + 1) from nI_add i 1]
    refine br_f (by decide) (q_byte M T h.1 (co_5 f5 h) (by omega) (q_kindAt T ⟨Mz.1, ?_⟩))
    rw [h8]
    cases c : cLe t q
    · have y := rE_n (P := cLe t) (n := n) (p := q) (fun z => by rw [z.2] at c; exact Bool.noConfusion c)
      have e' := y.symm.trans er
      subst e'
      exact br_f (fun z => by have := (ckP_le.mp z).2; rw [this] at c; exact Bool.noConfusion c) (hE z h h8 h9)
    · have y := rE_y (P := cLe t) (n := n) (p := q) (by omega) c
      refine br_t (ckP_le.mpr ⟨by omega, c⟩) (br_f (by decide) ?_)
      rw [wI_uI, if_neg (by decide), h.2.2.2.2, show (nI q + 1 : Int32) = nI (q + 1) from nI_add q 1]
      exact ih (q + 1) (i + 1) _ (by omega) (by omega) (y.symm.trans er) (co_7 (co_k (by decide) h)) (by rw [wI_uI, if_neg (by decide), wI_uI, if_neg (by decide)]; exact h8) (by rw [wI_uI, if_neg (by decide), wI_uI, if_pos rfl])
theorem nI_dg2 (v c : Nat) (h : 48 ≤ c) : ((nI v * 10) + nI c - 48 : Int32) = nI (10 * v + (c - 48)) := by
  have e1 : (nI v * 10 : Int32) = nI (v * 10) := (Int32.ofNat_mul v 10).symm
  rw [e1, show nI (v * 10) + nI c = nI (v * 10 + c) from nI_add _ _, show (nI (v * 10 + c) - 48 : Int32) = nI (v * 10 + c - 48) from pk_sub (a := v * 10 + c) (b := 48) (by omega), show v * 10 + c - 48 = 10 * v + (c - 48) by omega]
theorem q_digits {f r2 : Nat → Int32} {E : Nat → Wd → Prop} {b e : Nat} (M : RrS u) (T : TPc u t n) (f5 : f 5 = nI n) (he : rE (cDi t) n b = e) (hE : ∀ q z, co u f r2 z b q → wI z 238 8 = 1 → (e ≤ b + 3 ∧ q = e ∧ wI z 238 9 = nI (vD t b (e - b)) ∨ b + 3 < e ∧ q = b + 4) → E 238 z) : ∀ d i z, i + d = 4 → b + i ≤ n → rE (cDi t) n (b + i) = e → co u f r2 z b (b + i) → wI z 238 8 = 1 → wI z 238 9 = nI (vD t b i) → l_X7_advance_105 E K (d + 1) 238 4 (nI i) z := by
  have hn := T.1
  intro d
  induction d with
  | zero =>
    intro i z hi hb er h h8 h9
    have : i = 4 := by omega
    subst this
    have g := rE_in (P := cDi t) (n := n) (n - (b + 4)) (b + 4) (by omega)
    exact br_t (by decide) (hE (b + 4) z h h8 (Or.inr ⟨by omega, rfl⟩))
  | succ d ih =>
    intro i z hi hb er h h8 h9
    have Mz := FCm_M M h.1
    refine br_f (nI_ge (b := 4) (by omega) (by decide)) ⟨Mz.1, ?_⟩
    rw [h8, h.2.2.2.2, show (nI i + 1 : Int32) = nI (i + 1) from nI_add i 1]
    refine br_f (by decide) (q_byte M T h.1 (co_5 f5 h) (by omega) (q_kindAt T ⟨Mz.1, ?_⟩))
    rw [h8]
    by_cases c : b + i < n ∧ cDi t (b + i) = true
    · have y := rE_y (P := cDi t) (n := n) (p := b + i) c.1 c.2
      have tc := of_decide_eq_true c.2
      refine br_t (ckP_di.mpr c) (br_t rfl ?_)
      rw [h.2.2.2.2]
      refine q_byte M T h.1 (co_5 f5 h) (by omega) ?_
      rw [if_pos c.1, h9, nI_dg2 _ _ tc.1, wI_uI, if_neg (by decide), h.2.2.2.2, show (nI (b + i) + 1 : Int32) = nI (b + (i + 1)) from nI_add (b + i) 1]
      exact ⟨Mz.1, ih (i + 1) _ (by omega) (by omega) (y.symm.trans er) (co_7 (co_k (by decide) h)) (by rw [wI_uI, if_neg (by decide), wI_uI, if_neg (by decide)]; exact h8) (by rw [wI_uI, if_neg (by decide), wI_uI, if_pos rfl]; rfl)⟩
    · have y := rE_n (P := cDi t) (n := n) (p := b + i) c
      have e' := y.symm.trans er
      refine br_f (fun z => c (ckP_di.mp z)) (hE (b + i) z h h8 (Or.inl ⟨by omega, e', ?_⟩))
      rw [h9, show e - b = i by omega]
def ckI (k : Nat) : Int32 := if k = 0 then 4 else if k = 1 then 2 else if k = 2 then 1 else 3
theorem q_tok {f r2 : Nat → Int32} {b0 : Nat} (M : RrS u) (T : TPc u t n) (f5 : f 5 = nI n) (hp : p ≤ n) (h : co u f r2 z b0 p) (hy : txK t n p ≠ 3 → ∀ z', co u f r2 z' (txB t n p) (txE t n p) → wI z' 238 8 = ckI (txK t n p) → wI z' 238 9 = (if txK t n p = 2 then nI (txV t n p) else 0) → K 1 z') (hx : txK t n p = 3 → ∀ z', FCm u z' → wI z' 240 = r2 → (∀ k, k ≠ 1 → k ≠ 2 → k ≠ 6 → k ≠ 7 → k ≠ 8 → k ≠ 9 → wI z' 238 k = f k) → wI z' 238 1 = 1 → wI z' 238 2 = nI (txB t n p) → K 0 z') : w_X7_advance 238 K z := by
  have hn := T.1
  have tb := txB_in (t := t) hp
  have Mz0 := FCm_M M h.1
  unfold w_X7_advance
  rw [h.2.2.2.2]
  refine ⟨Mz0.1, n - p + 1, q_skip M T f5 (b := txB t n p) (e := p) (fun z h => ?_) (n - p) p 0 _ (by omega) (Nat.zero_le _) rfl (co_6 h)⟩
  have Mz := FCm_M M h.1
  have bad : ∀ z e, co u f r2 z (txB t n p) e → txK t n p = 3 → w_X7_refuse 238 1 (fun r39 w40 => (r39 = 0 ∨ r39 = 1) ∧ K r39 w40) z := fun z e h k => by
    have w6 : wI (uI z 238 1 1) 238 6 = nI (txB t n p) := by rw [wI_uI, if_neg (by decide)]; exact h.2.2.2.1
    unfold w_X7_refuse
    rw [w6]
    refine ⟨(FCm_M M h.1).1, Or.inl rfl, hx k _ (FCm_8 (FCm_8 h.1)) (by rw [wI_uI_ne (by decide), wI_uI_ne (by decide)]; exact h.2.1) (fun j j1 j2 j3 j4 j5 j6 => by rw [wI_uI, if_neg j2, wI_uI, if_neg j1]; exact h.2.2.1 j j3 j4 j5 j6) (by rw [wI_uI, if_neg (by decide), wI_uI, if_pos rfl]) (by rw [wI_uI, if_pos rfl])⟩
  have h1 : co u f r2 (uI z 238 7 (nI (txB t n p))) (txB t n p) (txB t n p) := co_7 h
  unfold j_X7_advance_47
  rw [h.2.2.2.1]
  refine ⟨Mz.1, ?_⟩
  obtain ⟨z1, hz1⟩ : ∃ z1, z1 = uI z 238 7 (nI (txB t n p)) := ⟨_, rfl⟩
  rw [← hz1] at h1 ⊢
  have M1 := FCm_M M h1.1
  rw [h1.2.2.2.1]
  refine q_byte M T h1.1 (co_5 f5 h1) (by omega) (q_kindAt T ⟨M1.1, ?_⟩)
  have h2 : ∀ x, co u f r2 (uI (uI z1 238 8 x) 238 9 0) (txB t n p) (txB t n p) ∧ wI (uI (uI z1 238 8 x) 238 9 0) 238 8 = x ∧ wI (uI (uI z1 238 8 x) 238 9 0) 238 9 = 0 := fun x => ⟨co_k (by decide) (co_k (by decide) h1), by rw [wI_uI, if_neg (by decide), wI_uI, if_pos rfl], by rw [wI_uI, if_pos rfl]⟩
  rw [(h2 _).2.1]
  by_cases c : txB t n p < n
  · have tq := (T.2 _ c).1
    have eK : txK t n p = _ := if_pos c
    have eE : txE t n p = _ := if_pos c
    have kk : ckP t n (txB t n p) = ckV (t (txB t n p)) := if_pos c
    by_cases c1 : 97 ≤ t (txB t n p) ∧ t (txB t n p) ≤ 122
    · have c1' : cLe t (txB t n p) = true := decide_eq_true c1
      rw [c1', if_pos rfl] at eK eE
      have k2 : ckP t n (txB t n p) = 2 := ckP_le.mpr ⟨c, c1'⟩
      rw [k2]
      refine br_t rfl ⟨n - txB t n p + 1, q_letters M T f5 (b := txB t n p) (fun z3 h3 h38 h39 => ?_) (n - txB t n p) (txB t n p) 0 _ (by omega) (Nat.zero_le _) eE.symm (h2 2).1 (h2 2).2.1 (h2 2).2.2⟩
      have M3 := FCm_M M h3.1
      refine ⟨M3.1, ?_⟩
      rw [h38]
      refine br_f (by decide) ⟨M3.1, ?_⟩
      rw [h38]
      exact br_f (by decide) (br_t rfl (hy (by omega) z3 h3 (by rw [h38, eK]; rfl) (by rw [if_neg (by omega)]; exact h39)))
    · have c1' : cLe t (txB t n p) = false := decide_eq_false c1
      rw [c1', if_neg bft] at eK eE
      have nk2 : ¬ ckP t n (txB t n p) = 2 := fun y => by rw [(ckP_le.mp y).2] at c1'; exact Bool.noConfusion c1'
      refine br_f nk2 ?_
      by_cases c2 : 48 ≤ t (txB t n p) ∧ t (txB t n p) ≤ 57
      · have c2' : cDi t (txB t n p) = true := decide_eq_true c2
        rw [c2', if_pos rfl] at eK eE
        have eE' : txE t n p = rE (cDi t) n (txB t n p) := eE
        have eK' : txK t n p = if rE (cDi t) n (txB t n p) ≤ txB t n p + 3 then 2 else 3 := eK
        have k1 : ckP t n (txB t n p) = 1 := ckP_di.mpr ⟨c, c2'⟩
        have dz := rE_in (P := cDi t) (n := n) (n - txB t n p) (txB t n p) (by omega)
        rw [k1]
        refine br_t rfl ⟨5, q_digits M T f5 (b := txB t n p) (e := rE (cDi t) n (txB t n p)) rfl (fun q z3 h3 h38 h3q => ?_) 4 0 _ rfl (by omega) rfl (h2 1).1 (h2 1).2.1 (h2 1).2.2⟩
        have M3 := FCm_M M h3.1
        refine ⟨M3.1, ?_⟩
        rw [h38, h3.2.2.2.1, h3.2.2.2.2]
        rcases h3q with ⟨l, e, v⟩ | ⟨l, e⟩
        · subst e
          rw [if_pos l] at eK'
          rw [pk_sub dz.1]
          refine br_t rfl (br_t (nI_le (b := 3) (by omega) (by decide)) ⟨M3.1, ?_⟩)
          rw [h38]
          refine br_f (by decide) (br_t rfl (hy (by omega) z3 (by rw [eE']; exact h3) (by rw [h38, eK']; rfl) ?_))
          rw [if_pos eK', v]
          unfold txV
          rw [eE']
        · subst e
          rw [if_neg (by omega)] at eK'
          rw [pk_sub (a := txB t n p + 4) (b := txB t n p) (by omega)]
          refine br_t rfl (br_f (nI_ge (a := 3) (b := txB t n p + 4 - txB t n p) (by omega) (by omega)) ⟨M3.1, ?_⟩)
          rw [h38]
          exact br_f (by decide) (br_f (by decide) (bad z3 _ h3 eK'))
      · have c2' : cDi t (txB t n p) = false := decide_eq_false c2
        rw [c2', if_neg bft] at eK eE
        have nk1 : ¬ ckP t n (txB t n p) = 1 := fun y => by rw [(ckP_di.mp y).2] at c2'; exact Bool.noConfusion c2'
        refine br_f nk1 ⟨2, ?_⟩
        have k0 : ckP t n (txB t n p) = if cSg (t (txB t n p)) then 3 else 0 := by
          rw [kk]
          unfold ckV
          rw [if_neg c1, if_neg c2]
        obtain ⟨x, hx0⟩ : ∃ x, x = ckP t n (txB t n p) := ⟨_, rfl⟩
        rw [← hx0] at nk1 nk2 k0 ⊢
        have n4 : ¬ x = 4 := by
          rw [k0]
          split <;> decide
        obtain ⟨a1, a2, a3⟩ := h2 x
        obtain ⟨z2, hz2⟩ : ∃ z2, z2 = uI (uI z1 238 8 x) 238 9 0 := ⟨_, rfl⟩
        rw [← hz2] at a1 a2 a3 ⊢
        have M2 := FCm_M M a1.1
        refine br_f (by decide) ⟨M2.1, ?_⟩
        rw [a2, a1.2.2.2.2]
        refine br_f n4 (q_byte M T a1.1 (co_5 f5 a1) (by omega) (q_kindAt T ⟨M2.1, ?_⟩))
        rw [a2, ← hx0]
        refine br_t rfl (br_f nk1 (br_t (by decide) ?_))
        rw [wI_uI, if_neg (by decide), a1.2.2.2.2, show (nI (txB t n p) + 1 : Int32) = nI (txB t n p + 1) from nI_add _ 1]
        have b1 : co u f r2 (uI (uI z2 238 9 0) 238 7 (nI (txB t n p + 1))) (txB t n p) (txB t n p + 1) := co_7 (co_k (by decide) a1)
        have b2 : wI (uI (uI z2 238 9 0) 238 7 (nI (txB t n p + 1))) 238 8 = x := by rw [wI_uI, if_neg (by decide), wI_uI, if_neg (by decide)]; exact a2
        have b3 : wI (uI (uI z2 238 9 0) 238 7 (nI (txB t n p + 1))) 238 9 = 0 := by rw [wI_uI, if_neg (by decide), wI_uI, if_pos rfl]
        have M4 := FCm_M M b1.1
        refine ⟨M4.1, ?_⟩
        rw [b2]
        refine br_f nk1 ⟨M4.1, ?_⟩
        rw [b2]
        cases c3 : cSg (t (txB t n p))
        · rw [c3, if_neg bft] at eK k0
          exact br_t k0 (bad _ _ b1 eK)
        · rw [c3, if_pos rfl] at eK k0
          have := cSg_40 _ tq c3
          refine br_f (by rw [k0]; decide) (br_t rfl (hy (by omega) _ (by rw [eE]; exact b1) ?_ (by rw [if_neg (by omega)]; exact b3)))
          rw [b2, k0]
          unfold ckI
          rw [if_neg (by omega), if_neg (by omega), if_neg (by omega)]
  · have eK : txK t n p = 0 := if_neg c
    have eE : txE t n p = txB t n p := if_neg c
    have k4 : ckP t n (txB t n p) = 4 := if_neg c
    rw [k4]
    obtain ⟨a1, a2, a3⟩ := h2 4
    have M2 := FCm_M M a1.1
    refine br_f (by decide) (br_f (by decide) ⟨1, br_f (by decide) ⟨M2.1, ?_⟩⟩)
    rw [a2]
    refine br_t rfl ⟨M2.1, ?_⟩
    rw [a2]
    refine br_f (by decide) ⟨M2.1, ?_⟩
    rw [a2]
    exact br_f (by decide) (br_t rfl (hy (by omega) _ (by rw [eE]; exact a1) (by rw [a2, eK]; rfl) (by rw [if_neg (by omega)]; exact a3)))
end CT
