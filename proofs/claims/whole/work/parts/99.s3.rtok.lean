/-! 99.s3: the reference's tokens -/
def FRm (u z : Wd) : Prop := eqW (fun t => t = 245 ∨ t = 247) u z ∧ wR z = wR u
def TPt (u : Wd) (t : Nat → Nat) (n : Nat) : Prop := n ≤ 900 ∧ ∀ k, k < n → t k < 256 ∧ wI u 250 k = nI (t k)
theorem okM_tape {w : Wd} (M : okM w 245) : wR w 245 5 = 250 ∧ isK w 250 20 ∧ wn w 250 = 900 := M.2.2.2.2.2.2.2.2.2.2.2.2.2.2
theorem okM_tell {w : Wd} (M : okM w 245) : wR w 245 1 = 247 ∧ isK w 247 20 ∧ wn w 247 = 1215 := M.2.2.2.2.2.2.2.2.2.2.2.1
section RT
variable {u z : Wd} {t : Nat → Nat} {n p : Nat} {K : Wd → Prop}
theorem FRm_M (M : okM u 245) (h : FRm u z) : okM z 245 := okM_cx (cx_eqW h.1) (congrFun h.2 245) M
theorem FRm_5 {k : Nat} {x : Int32} (h : FRm u z) : FRm u (uI z 245 k x) := ⟨eqW_trans h.1 (eqW_uI (Or.inl rfl)), h.2⟩
theorem FRm_7 {k : Nat} {x : Int32} (h : FRm u z) : FRm u (uI z 247 k x) := ⟨eqW_trans h.1 (eqW_uI (Or.inr rfl)), h.2⟩
theorem FRm_t (h : FRm u z) (T : TPt u t n) {k : Nat} (hk : k < n) : wI z 250 k = nI (t k) := by
  rw [(h.1.2.2.2 250 (by decide)).1]
  exact (T.2 k hk).2
def ro (u : Wd) (f r2 : Nat → Int32) (z : Wd) (q : Nat) : Prop := FRm u z ∧ wI z 247 = r2 ∧ (∀ k, k ≠ 8 → k ≠ 9 → k ≠ 10 → k ≠ 11 → wI z 245 k = f k) ∧ wI z 245 8 = nI q
theorem ro_8 {f r2 : Nat → Int32} {q q' : Nat} (h : ro u f r2 z q) : ro u f r2 (uI z 245 8 (nI q')) q' := ⟨FRm_5 h.1, by rw [wI_uI_ne (by decide)]; exact h.2.1, fun k k1 k2 k3 k4 => by rw [wI_uI, if_neg k1]; exact h.2.2.1 k k1 k2 k3 k4, by rw [wI_uI, if_pos rfl]⟩
theorem ro_k {f r2 : Nat → Int32} {q k : Nat} {x : Int32} (hk : k = 9 ∨ k = 10 ∨ k = 11) (h : ro u f r2 z q) : ro u f r2 (uI z 245 k x) q := ⟨FRm_5 h.1, by rw [wI_uI_ne (by decide)]; exact h.2.1, fun j k1 k2 k3 k4 => by rw [wI_uI, if_neg (by omega)]; exact h.2.2.1 j k1 k2 k3 k4, by rw [wI_uI, if_neg (by omega)]; exact h.2.2.2⟩
theorem p_isLetter {v : Nat} {K : Int32 → Wd → Prop} (hv : v < 256) (h : K (b2i (decide (97 ≤ v ∧ v ≤ 122))) z) : w_X12_isLetter (nI v) K z := by
  by_cases c1 : v < 97
  · rw [decide_eq_false (by omega)] at h
    exact br_t (nI_lt (b := 97) c1 (by decide)) h
  · refine br_f (nI_nlt (b := 97) (by omega) (by omega)) ?_
    by_cases c2 : 122 < v
    · rw [decide_eq_false (by omega)] at h
      exact br_t (nI_lt (a := 122) c2 (by omega)) h
    · rw [decide_eq_true (by omega)] at h
      exact br_f (nI_nlt (a := 122) (by omega) (by decide)) h
theorem p_isDigit {v : Nat} {K : Int32 → Wd → Prop} (hv : v < 256) (h : K (b2i (decide (48 ≤ v ∧ v ≤ 57))) z) : w_X12_isDigit (nI v) K z := by
  by_cases c1 : v < 48
  · rw [decide_eq_false (by omega)] at h
    exact br_t (nI_lt (b := 48) c1 (by decide)) h
  · refine br_f (nI_nlt (b := 48) (by omega) (by omega)) ?_
    by_cases c2 : 57 < v
    · rw [decide_eq_false (by omega)] at h
      exact br_t (nI_lt (a := 57) c2 (by omega)) h
    · rw [decide_eq_true (by omega)] at h
      exact br_f (nI_nlt (a := 57) (by omega) (by decide)) h
def sg35 (x s : Int32) : Int32 := if s = 0 then (if x = 59 then 1 else if x = 43 then 1 else if x = 45 then 1 else if x = 42 then 1 else if x = 40 then 1 else if x = 41 then 1 else 0) else 1
def sgF (x : Int32) : Int32 := if x = 91 then sg35 x 1 else if x = 93 then sg35 x 1 else if x = 61 then sg35 x 1 else if x = 60 then sg35 x 1 else if x = 62 then sg35 x 1 else sg35 x 0
theorem sgF_v : ∀ v, v < 256 → sgF (nI v) = b2i (cSg v) := by decide +kernel
theorem j_sg {x s : Int32} {K : Int32 → Wd → Prop} (h : K (sg35 x s) z) : j_X12_isSignByte_35 K x s z := br_i _ h (fun z => br_i _ z id (fun z => br_i _ z id (fun z => br_i _ z id (fun z => br_i _ z id (fun z => br_i _ z id (fun z => br_i _ z id id)))))) id
theorem p_isSignByte {v : Nat} {K : Int32 → Wd → Prop} (hv : v < 256) (h : K (b2i (cSg v)) z) : w_X12_isSignByte (nI v) K z := by
  rw [← sgF_v v hv] at h
  exact br_i _ h j_sg (fun z => br_i _ z j_sg (fun z => br_i _ z j_sg (fun z => br_i _ z j_sg (fun z => br_i _ z j_sg j_sg))))
theorem p_see {f r2 : Nat → Int32} {q : Nat} {K : Int32 → Wd → Prop} (M : okM u 245) (T : TPt u t n) (f7 : f 7 = nI n) (hq : q ≤ n) (h : ro u f r2 z q) (hk : K (if q < n then nI (t q) else 0) z) : w_X12_see 245 (nI q) K z := by
  have Mz := FRm_M M h.1
  have m5 := okM_tape Mz
  have hn := T.1
  have h7 : wI z 245 7 = nI n := (h.2.2.1 7 (by decide) (by decide) (by decide) (by decide)).trans f7
  unfold w_X12_see
  rw [h7, m5.1, m5.2.2, nI_clamp (by omega)]
  by_cases c : q < n
  · rw [if_pos c] at hk
    refine ⟨Mz.1, br_f (nI_ge c (by omega)) ⟨m5.2.1, vp_in_nI (by omega) (by decide), ?_⟩⟩
    rw [FRm_t h.1 T c]
    exact hk
  · rw [if_neg c] at hk
    exact ⟨Mz.1, br_t (nI_le (by omega) (by omega)) hk⟩
theorem p_skip {f r2 : Nat → Int32} {E : Nat → Wd → Prop} {b : Nat} (M : okM u 245) (T : TPt u t n) (f7 : f 7 = nI n) (hE : ∀ z, ro u f r2 z b → E 245 z) : ∀ d q z, q + d = n → rE (cBl t) n q = b → ro u f r2 z q → l_X12_readsOn_0 E K (d + 1) 245 z := by
  have hn := T.1
  intro d
  induction d with
  | zero =>
    intro q z hq e h
    have Mz := FRm_M M h.1
    rw [rE_n (by omega)] at e
    subst e
    have h7 : wI z 245 7 = nI n := (h.2.2.1 7 (by decide) (by decide) (by decide) (by decide)).trans f7
    unfold l_X12_readsOn_0
    rw [h7, h.2.2.2]
    exact ⟨Mz.1, br_t (nI_le (by omega) (by omega)) (hE z h)⟩
  | succ d ih =>
    intro q z hq e h
    have Mz := FRm_M M h.1
    have m5 := okM_tape Mz
    have h7 : wI z 245 7 = nI n := (h.2.2.1 7 (by decide) (by decide) (by decide) (by decide)).trans f7
    have tq := (T.2 q (by omega)).1
    unfold l_X12_readsOn_0
    rw [h7, h.2.2.2, m5.1, m5.2.2, nI_clamp (by omega), FRm_t h.1 T (show q < n by omega), show (nI q + 1 : Int32) = nI (q + 1) from nI_add q 1]
    refine ⟨Mz.1, br_f (nI_ge (by omega) (by omega)) ⟨m5.2.1, vp_in_nI (by omega) (by decide), ?_⟩⟩
    by_cases c1 : t q = 32
    · have y := rE_y (P := cBl t) (n := n) (p := q) (by omega) (by unfold cBl; rw [decide_eq_true c1]; rfl)
      exact br_t (by rw [c1]; rfl) (ih (q + 1) _ (by omega) (y.symm.trans e) (ro_8 h))
    · refine br_f (nI_ne (by omega) (b := 32) (by decide) c1) ⟨vp_in_nI (by omega) (by decide), ?_⟩
      by_cases c2 : t q = 10
      · have y := rE_y (P := cBl t) (n := n) (p := q) (by omega) (by unfold cBl; rw [decide_eq_true c2, Bool.or_true])
        exact br_t (by rw [c2]; rfl) (ih (q + 1) _ (by omega) (y.symm.trans e) (ro_8 h))
      · have y := rE_n (P := cBl t) (n := n) (p := q) (fun z => by have := z.2; unfold cBl at this; rw [decide_eq_false c1, decide_eq_false c2] at this; exact Bool.noConfusion this)
        have e' : q = b := y.symm.trans e
        subst e'
        exact br_f (nI_ne (by omega) (b := 10) (by decide) c2) (hE z h)
theorem p_letters {f r2 : Nat → Int32} {b e : Nat} (M : okM u 245) (T : TPt u t n) (f7 : f 7 = nI n) (hK : ∀ z, ro u f r2 z e → wI z 245 9 = nI b → wI z 245 10 = 1 → K z) : ∀ d q z, q + d = n → rE (cLe t) n q = e → ro u f r2 z q → wI z 245 9 = nI b → l_X12_readsOn_94 K (d + 1) 245 z := by
  have hn := T.1
  have fin : ∀ z, ro u f r2 z e → wI z 245 9 = nI b → K (uI z 245 10 1) := fun z h h9 => hK _ (ro_k (by decide) h) (by rw [wI_uI, if_neg (by decide)]; exact h9) (by rw [wI_uI, if_pos rfl])
  intro d
  induction d with
  | zero =>
    intro q z hq e h h9
    have Mz := FRm_M M h.1
    rw [rE_n (by omega)] at e
    subst e
    unfold l_X12_readsOn_94
    rw [h.2.2.2]
    refine ⟨Mz.1, p_see M T f7 (by omega) h ?_⟩
    rw [if_neg (by omega)]
    exact p_isLetter (v := 0) (by decide) (br_t rfl ⟨Mz.1, fin z h h9⟩)
  | succ d ih =>
    intro q z hq e h h9
    have Mz := FRm_M M h.1
    have tq := (T.2 q (by omega)).1
    unfold l_X12_readsOn_94
    rw [h.2.2.2]
    refine ⟨Mz.1, p_see M T f7 (by omega) h ?_⟩
    rw [if_pos (by omega)]
    refine p_isLetter tq ?_
    rw [h.2.2.2, show (nI q + 1 : Int32) = nI (q + 1) from nI_add q 1]
    by_cases c : 97 ≤ t q ∧ t q ≤ 122
    · have y := rE_y (P := cLe t) (n := n) (p := q) (by omega) (decide_eq_true c)
      rw [decide_eq_true c]
      exact br_f (by decide) ⟨Mz.1, ih (q + 1) _ (by omega) (y.symm.trans e) (ro_8 h) (by rw [wI_uI, if_neg (by decide)]; exact h9)⟩
    · have y := rE_n (P := cLe t) (n := n) (p := q) (fun z => c (of_decide_eq_true z.2))
      have e' := y.symm.trans e
      subst e'
      rw [decide_eq_false c]
      exact br_t rfl ⟨Mz.1, fin z h h9⟩
theorem nI_dg (v c : Nat) (h : 48 ≤ c) : ((10 * nI v) + nI c - 48 : Int32) = nI (10 * v + (c - 48)) := by
  have e1 : (10 * nI v : Int32) = nI (10 * v) := (Int32.ofNat_mul 10 v).symm
  rw [e1, show nI (10 * v) + nI c = nI (10 * v + c) from nI_add _ _, show (nI (10 * v + c) - 48 : Int32) = nI (10 * v + c - 48) from pk_sub (a := 10 * v + c) (b := 48) (by omega), show 10 * v + c - 48 = 10 * v + (c - 48) by omega]
theorem p_digits {f r2 : Nat → Int32} {E : Nat → Wd → Prop} {b e : Nat} (M : okM u 245) (T : TPt u t n) (f7 : f 7 = nI n) (hE : ∀ z, ro u f r2 z e → wI z 245 9 = nI b → (e ≤ b + 3 → wI z 245 11 = nI (vD t b (e - b))) → E 245 z) : ∀ d q z, q + d = n → b ≤ q → rE (cDi t) n q = e → ro u f r2 z q → wI z 245 9 = nI b → (q ≤ b + 3 → wI z 245 11 = nI (vD t b (q - b))) → l_X12_readsOn_141 E K (d + 1) 245 z := by
  have hn := T.1
  intro d
  induction d with
  | zero =>
    intro q z hq hb e h h9 h11
    have Mz := FRm_M M h.1
    rw [rE_n (by omega)] at e
    subst e
    unfold l_X12_readsOn_141
    rw [h.2.2.2]
    refine ⟨Mz.1, p_see M T f7 (by omega) h ?_⟩
    rw [if_neg (by omega)]
    exact p_isDigit (v := 0) (by decide) (br_t rfl (hE z h h9 h11))
  | succ d ih =>
    intro q z hq hb e h h9 h11
    have Mz := FRm_M M h.1
    have m5 := okM_tape Mz
    have tq := (T.2 q (by omega)).1
    unfold l_X12_readsOn_141
    rw [h.2.2.2]
    refine ⟨Mz.1, p_see M T f7 (by omega) h ?_⟩
    rw [if_pos (by omega)]
    refine p_isDigit tq ?_
    by_cases c : 48 ≤ t q ∧ t q ≤ 57
    · have y := rE_y (P := cDi t) (n := n) (p := q) (by omega) (decide_eq_true c)
      have y' := y.symm.trans e
      rw [decide_eq_true c]
      refine br_f (by decide) ⟨Mz.1, ?_⟩
      rw [h.2.2.2, h9, pk_sub hb]
      by_cases c3 : q < b + 3
      · rw [h11 (by omega), m5.1, m5.2.2, nI_clamp (by omega), FRm_t h.1 T (show q < n by omega), nI_dg _ _ c.1]
        refine br_f (nI_ge (b := 3) (by omega) (by decide)) ⟨m5.2.1, vp_in_nI (by omega) (by decide), ?_⟩
        rw [wI_uI, if_neg (by decide), h.2.2.2, show (nI q + 1 : Int32) = nI (q + 1) from nI_add q 1]
        refine ih (q + 1) _ (by omega) (by omega) y' (ro_8 (ro_k (by decide) h)) (by rw [wI_uI, if_neg (by decide), wI_uI, if_neg (by decide)]; exact h9) (fun _ => ?_)
        rw [wI_uI, if_neg (by decide), wI_uI, if_pos rfl, show q + 1 - b = (q - b) + 1 by omega]
        show _ = nI (10 * vD t b (q - b) + (t (b + (q - b)) - 48))
        rw [show b + (q - b) = q by omega]
      · refine br_t (nI_le (a := 3) (by omega) (by omega)) ?_
        rw [wI_uI, if_neg (by decide), h.2.2.2, show (nI q + 1 : Int32) = nI (q + 1) from nI_add q 1]
        exact ih (q + 1) _ (by omega) (by omega) y' (ro_8 (ro_k (by decide) h)) (by rw [wI_uI, if_neg (by decide), wI_uI, if_neg (by decide)]; exact h9) (fun z => by omega)
    · have y := rE_n (P := cDi t) (n := n) (p := q) (fun z => c (of_decide_eq_true z.2))
      have e' := y.symm.trans e
      subst e'
      rw [decide_eq_false c]
      exact br_t rfl (hE z h h9 h11)
/-- one token -/
theorem p_token {f r2 : Nat → Int32} (M : okM u 245) (T : TPt u t n) (f7 : f 7 = nI n) (hp : p ≤ n) (h : ro u f r2 z p) (hK : ∀ z, ro u f r2 z (txE t n p) → wI z 245 9 = nI (txB t n p) → wI z 245 10 = nI (txK t n p) → (txK t n p = 2 → wI z 245 11 = nI (txV t n p)) → K z) : w_X12_readsOn 245 K z := by
  have hn := T.1
  have tb := txB_in (t := t) hp
  refine ⟨n - p + 1, p_skip M T f7 (b := txB t n p) (fun z h => ?_) (n - p) p z (by omega) rfl h⟩
  have Mz := FRm_M M h.1
  have m5 := okM_tape Mz
  have h7 : wI z 245 7 = nI n := (h.2.2.1 7 (by decide) (by decide) (by decide) (by decide)).trans f7
  unfold j_X12_readsOn_52
  rw [h.2.2.2]
  have h1 : ro u f r2 (uI z 245 9 (nI (txB t n p))) (txB t n p) := ro_k (by decide) h
  have h19 : wI (uI z 245 9 (nI (txB t n p))) 245 9 = nI (txB t n p) := by rw [wI_uI, if_pos rfl]
  have h17 : wI (uI z 245 9 (nI (txB t n p))) 245 7 = nI n := by rw [wI_uI, if_neg (by decide)]; exact h7
  have tp1 : ∀ k, k < n → wI (uI z 245 9 (nI (txB t n p))) 250 k = nI (t k) := fun k hk => FRm_t h1.1 T hk
  refine ⟨Mz.1, ?_⟩
  obtain ⟨z1, hz1⟩ : ∃ z1, z1 = uI z 245 9 (nI (txB t n p)) := ⟨_, rfl⟩
  rw [← hz1] at h1 h19 h17 tp1 ⊢
  have M1 := FRm_M M h1.1
  rw [h1.2.2.2, h17, m5.1, m5.2.2, nI_clamp (by omega)]
  by_cases c : txB t n p < n
  · have tq := (T.2 _ c).1
    have eK : txK t n p = _ := if_pos c
    have eE : txE t n p = _ := if_pos c
    rw [tp1 _ c]
    refine br_t (nI_lt c (by omega)) ⟨m5.2.1, vp_in_nI (by omega) (by decide), p_isLetter tq ?_⟩
    by_cases c1 : 97 ≤ t (txB t n p) ∧ t (txB t n p) ≤ 122
    · have c1' : cLe t (txB t n p) = true := decide_eq_true c1
      rw [c1', if_pos rfl] at eK eE
      rw [decide_eq_true c1]
      refine br_f (by decide) ⟨n - txB t n p + 1, p_letters M T f7 (fun z2 h2 h29 h2t => ?_) (n - txB t n p) (txB t n p) z1 (by omega) eE.symm h1 h19⟩
      exact hK z2 h2 h29 (by rw [h2t, eK]; rfl) (fun y => by omega)
    · have c1' : cLe t (txB t n p) = false := decide_eq_false c1
      rw [c1', if_neg (by decide)] at eK eE
      rw [decide_eq_false c1]
      refine br_t rfl (p_isDigit tq ?_)
      by_cases c2 : 48 ≤ t (txB t n p) ∧ t (txB t n p) ≤ 57
      · have c2' : cDi t (txB t n p) = true := decide_eq_true c2
        rw [c2', if_pos rfl] at eK eE
        rw [decide_eq_true c2]
        refine br_f (by decide) ⟨M1.1, n - txB t n p + 1, p_digits M T f7 (b := txB t n p) (fun z2 h2 h29 h2v => ?_) (n - txB t n p) (txB t n p) _ (by omega) (Nat.le_refl _) rfl (ro_k (by decide) h1) (by rw [wI_uI, if_neg (by decide)]; exact h19) (fun _ => by rw [wI_uI, if_pos rfl, Nat.sub_self]; rfl)⟩
        have M2 := FRm_M M h2.1
        have dz := rE_in (P := cDi t) (n := n) (n - txB t n p) (txB t n p) (by omega)
        have e2 : txE t n p = rE (cDi t) n (txB t n p) := eE
        have eK2 : txK t n p = if rE (cDi t) n (txB t n p) ≤ txB t n p + 3 then 2 else 3 := eK
        rw [h2.2.2.2, h29, pk_sub dz.1]
        refine ⟨M2.1, ?_⟩
        rw [e2] at hK
        by_cases c3 : rE (cDi t) n (txB t n p) ≤ txB t n p + 3
        · rw [if_pos c3] at eK2
          refine br_t (nI_le (b := 3) (by omega) (by decide)) (hK _ (ro_k (by decide) h2) (by rw [wI_uI, if_neg (by decide)]; exact h29) (by rw [wI_uI, if_pos rfl, eK2]; rfl) (fun _ => ?_))
          rw [wI_uI, if_neg (by decide), h2v c3]
          unfold txV
          rw [e2]
        · rw [if_neg c3] at eK2
          exact br_f (nI_ge (a := 3) (by omega) (by omega)) (hK _ (ro_k (by decide) h2) (by rw [wI_uI, if_neg (by decide)]; exact h29) (by rw [wI_uI, if_pos rfl, eK2]; rfl) (fun y => by omega))
      · have c2' : cDi t (txB t n p) = false := decide_eq_false c2
        rw [c2', if_neg (by decide)] at eK eE
        rw [decide_eq_false c2]
        refine br_t rfl (p_isSignByte tq ?_)
        have w8 : ∀ x : Int32, wI (uI z1 245 10 x) 245 8 = nI (txB t n p) := fun x => by rw [wI_uI, if_neg (by decide)]; exact h1.2.2.2
        rw [w8, w8, show (nI (txB t n p) + 1 : Int32) = nI (txB t n p + 1) from nI_add _ 1]
        rw [eE] at hK
        cases c3 : cSg (t (txB t n p))
        · rw [c3, if_neg (by decide)] at eK
          exact br_t rfl ⟨M1.1, hK _ (ro_8 (ro_k (by decide) h1)) (by rw [wI_uI, if_neg (by decide), wI_uI, if_neg (by decide)]; exact h19) (by rw [wI_uI, if_neg (by decide), wI_uI, if_pos rfl, eK]; rfl) (fun y => by omega)⟩
        · rw [c3, if_pos rfl] at eK
          have := cSg_40 _ tq c3
          exact br_f (by decide) ⟨M1.1, hK _ (ro_8 (ro_k (by decide) h1)) (by rw [wI_uI, if_neg (by decide), wI_uI, if_neg (by decide)]; exact h19) (by rw [wI_uI, if_neg (by decide), wI_uI, if_pos rfl, eK]) (fun y => by omega)⟩
  · have eK : txK t n p = 0 := if_neg c
    have eE : txE t n p = txB t n p := if_neg c
    rw [eE] at hK
    exact br_f (nI_nlt (by omega) (by omega)) (hK _ (ro_k (by decide) h1) (by rw [wI_uI, if_neg (by decide)]; exact h19) (by rw [wI_uI, if_pos rfl, eK]; rfl) (fun y => by omega))
end RT
