/-! 99.s4: the reference's small steps in reading -/
def RZ (u z : Wd) (t : Nat → Nat) (n : Nat) (s : pst) : Prop := FRm u z ∧ (wI z 245 4 = 0 ∧ wI z 245 6 = 0 ∧ wI z 245 7 = nI n) ∧ (psB s ≤ 4 ∧ wI z 245 12 = nI (psB s)) ∧ wI z 245 16 = nI (psD s) ∧ (∀ k, k < 1215 → wI z 247 k = nI (psG s k)) ∧ (psB s = 0 → psP s ≤ n ∧ wI z 245 8 = nI (txE t n (psP s)) ∧ wI z 245 9 = nI (txB t n (psP s)) ∧ wI z 245 10 = nI (txK t n (psP s)) ∧ (txK t n (psP s) = 2 → wI z 245 11 = nI (txV t n (psP s)))) ∧ (psB s ≠ 0 → wI z 245 13 = nI (psL s))
section RY
variable {u z : Wd} {t : Nat → Nat} {n : Nat} {s : pst} {K : Wd → Prop}
theorem txK_lt (T : TPt u t n) (p : Nat) : txK t n p < 256 := by
  unfold txK
  split
  · rename_i c
    have := (T.2 _ c).1
    split
    · omega
    · split
      · split <;> omega
      · split <;> omega
  · omega
theorem RZ_b (R : RZ u z t n s) : wI z 245 12 = 0 ↔ psB s = 0 := by
  have h := R.2.2.1
  rw [h.2, show (0 : Int32) = nI 0 from rfl, nI_eq (by omega) (by decide)]
theorem RZ_K (T : TPt u t n) (R : RZ u z t n s) (b : psB s = 0) {c : Nat} (hc : c < 256) : wI z 245 10 = nI c ↔ txK t n (psP s) = c := by
  have h := (R.2.2.2.2.2.1 b).2.2.2.1
  have := txK_lt (n := n) T (psP s)
  rw [h, nI_eq (by omega) (by omega)]
theorem RZ_M (M : okM u 245) (R : RZ u z t n s) : okM z 245 := FRm_M M R.1
theorem RZ_1 (M : okM u 245) (R : RZ u z t n s) : isK z 245 12 := (RZ_M M R).1
/-- a token read, from its place -/
theorem r_tok {p : Nat} {pl d : Nat} {g : Nat → Nat} (M : okM u 245) (T : TPt u t n) (hp : p ≤ n) (F : FRm u z) (h4 : wI z 245 4 = 0 ∧ wI z 245 6 = 0 ∧ wI z 245 7 = nI n) (h8 : wI z 245 8 = nI p) (h12 : wI z 245 12 = 0) (h16 : wI z 245 16 = nI d) (hg : ∀ k, k < 1215 → wI z 247 k = nI (g k)) (hk : ∀ z', RZ u z' t n (p, 0, pl, d, g) → K z') : w_X12_readsOn 245 K z := by
  refine p_token M T (f := wI z 245) (r2 := wI z 247) h4.2.2 hp ⟨F, rfl, fun _ _ _ _ _ => rfl, h8⟩ (fun z' r h9 h10 h11 => hk z' ?_)
  have rr := r.2.2.1
  refine ⟨r.1, ⟨(rr 4 (by decide) (by decide) (by decide) (by decide)).trans h4.1, (rr 6 (by decide) (by decide) (by decide) (by decide)).trans h4.2.1, (rr 7 (by decide) (by decide) (by decide) (by decide)).trans h4.2.2⟩, ⟨Nat.zero_le _, (rr 12 (by decide) (by decide) (by decide) (by decide)).trans h12⟩, (rr 16 (by decide) (by decide) (by decide) (by decide)).trans h16, fun k hk => ?_, fun _ => ⟨hp, r.2.2.2, h9, h10, h11⟩, fun y => absurd rfl y⟩
  rw [r.2.1]
  exact hg k hk
theorem r_rd (M : okM u 245) (T : TPt u t n) (R : RZ u z t n s) (b : psB s = 0) (hk : ∀ z', RZ u z' t n (rdS t n s) → K z') : w_X12_readsOn 245 K z := by
  have L := R.2.2.2.2.2.1 b
  have te := txE_in (t := t) L.1
  refine r_tok M T (pl := psL s) te.2.1 R.1 R.2.1 L.2.1 ((RZ_b R).mpr b) R.2.2.2.1 R.2.2.2.2.1 (fun z' R' => hk z' ?_)
  have e : rdS t n s = (txE t n (psP s), 0, psL s, psD s, psG s) := by
    show (txE t n (psP s), s.2) = _
    rw [show s.2 = (psB s, psL s, psD s, psG s) from rfl, b]
  rw [e]
  exact R'
theorem r_blm {k : Nat} (M : okM u 245) (T : TPt u t n) (R : RZ u z t n s) (hk4 : k ≤ 4) (hk : ∀ z', RZ u z' t n (blm t n k s) → K z') : w_X12_blames 245 (nI k) K z := by
  refine ⟨RZ_1 M R, ?_⟩
  by_cases b : psB s = 0
  · refine br_t ((RZ_b R).mpr b) ?_
    have L := R.2.2.2.2.2.1 b
    have go : ∀ x, x ≤ 4 → RZ u (uI (uI z 245 12 (nI x)) 245 13 (nI (txB t n (psP s)))) t n (psP s, x, txB t n (psP s), psD s, psG s) := fun x hx => by
      have w : ∀ k, k ≠ 12 → k ≠ 13 → wI (uI (uI z 245 12 (nI x)) 245 13 (nI (txB t n (psP s)))) 245 k = wI z 245 k := fun k h1 h2 => by rw [wI_uI, if_neg h2, wI_uI, if_neg h1]
      refine ⟨FRm_5 (FRm_5 R.1), ⟨(w 4 (by decide) (by decide)).trans R.2.1.1, (w 6 (by decide) (by decide)).trans R.2.1.2.1, (w 7 (by decide) (by decide)).trans R.2.1.2.2⟩, ⟨hx, by rw [wI_uI, if_neg (by decide), wI_uI, if_pos rfl]; rfl⟩, (w 16 (by decide) (by decide)).trans R.2.2.2.1, fun k hk => ?_, fun _ => ⟨L.1, (w 8 (by decide) (by decide)).trans L.2.1, (w 9 (by decide) (by decide)).trans L.2.2.1, (w 10 (by decide) (by decide)).trans L.2.2.2.1, fun y => (w 11 (by decide) (by decide)).trans (L.2.2.2.2 y)⟩, fun _ => by rw [wI_uI, if_pos rfl]; rfl⟩
      rw [wI_uI_ne (by decide), wI_uI_ne (by decide)]
      exact R.2.2.2.2.1 k hk
    have e9 : ∀ x : Int32, wI (uI z 245 12 x) 245 9 = nI (txB t n (psP s)) := fun x => by rw [wI_uI, if_neg (by decide)]; exact L.2.2.1
    rw [e9, e9]
    unfold blm at hk
    rw [if_pos b] at hk
    by_cases c : txK t n (psP s) = 3
    · rw [if_pos c] at hk
      exact br_t ((RZ_K T R b (by decide)).mpr c) (hk _ (go 1 (by decide)))
    · rw [if_neg c] at hk
      exact br_f (fun y => c ((RZ_K T R b (c := 3) (by decide)).mp y)) (hk _ (go k hk4))
  · rw [blm_d b] at hk
    exact br_f (fun y => b ((RZ_b R).mp y)) (hk z R)
theorem r_sg {c : Nat} {K : Int32 → Wd → Prop} (M : okM u 245) (T : TPt u t n) (R : RZ u z t n s) (hc : c < 256) (h : K (b2i (isSg t n c s)) z) : w_X12_isSign 245 (nI c) K z := by
  refine ⟨RZ_1 M R, ?_⟩
  unfold isSg at h
  by_cases b : psB s = 0
  · refine br_t ((RZ_b R).mpr b) ?_
    rw [decide_eq_true b, Bool.true_and] at h
    by_cases k : txK t n (psP s) = c
    · rw [decide_eq_true k] at h
      exact br_t ((RZ_K T R b hc).mpr k) h
    · rw [decide_eq_false k] at h
      exact br_f (fun y => k ((RZ_K T R b hc).mp y)) h
  · rw [decide_eq_false b, Bool.false_and] at h
    exact br_f (fun y => b ((RZ_b R).mp y)) h
theorem wl_sm : ∀ a, a < 35 → wlN a ≤ 22 := by decide
theorem r_wloop {a : Nat} {K : Int32 → Wd → Prop} (M : okM u 245) (T : TPt u t n) (R : RZ u z t n s) (b : psB s = 0) (ha : 2 ≤ a ∧ a < 35) (hl : txB t n (psP s) + wlN a ≤ n) : ∀ d k, k + d = wlN a → K (b2i (eqr t (txB t n (psP s)) a d k)) z → l_X12_isWord_39 K (d + 2) 245 a 1 (nI k) z := by
  have Mz := RZ_M M R
  have m5 := okM_tape Mz
  have L := R.2.2.2.2.2.1 b
  have wl := wl_sm a ha.2
  have hn := T.1
  have z0 : ∀ d x, K 0 z → l_X12_isWord_39 K (d + 1) 245 a 0 x z := fun d x h => br_t rfl ⟨Or.inl rfl, h⟩
  intro d
  induction d with
  | zero =>
    intro k hk h
    have e : k = wlN a := by omega
    subst e
    exact br_f (by decide) ⟨ha, br_t (nI_le (Nat.le_refl _) (by omega)) ⟨Or.inr rfl, h⟩⟩
  | succ d ih =>
    intro k hk h
    have kl : k < wlN a := by omega
    refine br_f (by decide) ⟨ha, br_f (nI_ge (a := k) (b := wlN a) kl (by omega)) ⟨Mz.1, ?_⟩⟩
    rw [m5.1, m5.2.2, L.2.2.1, show (nI (txB t n (psP s)) + nI k : Int32) = nI (txB t n (psP s) + k) from nI_add _ _, nI_clamp (by omega), FRm_t R.1 T (show txB t n (psP s) + k < n by omega), show (nI k + 1 : Int32) = nI (k + 1) from nI_add k 1]
    refine ⟨m5.2.1, vp_in_nI (by omega) (by decide), ha, vp_in_nI kl (show wlN a < 2 ^ 31 by omega), ?_⟩
    rw [nI_clamp (by omega)]
    have h' : K (b2i (decide (nI (t (txB t n (psP s) + k)) = wcN a k) && eqr t (txB t n (psP s)) a d (k + 1))) z := h
    by_cases c : nI (t (txB t n (psP s) + k)) = wcN a k
    · rw [decide_eq_true c, Bool.true_and] at h'
      exact br_t c (ih (k + 1) (by omega) h')
    · rw [decide_eq_false c, Bool.false_and] at h'
      exact br_f c (z0 (d + 1) _ h')
theorem r_wd {a : Nat} {K : Int32 → Wd → Prop} (M : okM u 245) (T : TPt u t n) (R : RZ u z t n s) (ha : 2 ≤ a ∧ a < 35) (h : K (b2i (isWd t n a s)) z) : w_X12_isWord 245 a K z := by
  have z0 : K 0 z → ∃ m, l_X12_isWord_39 K m 245 a 0 0 z := fun h => ⟨1, br_t rfl ⟨Or.inl rfl, h⟩⟩
  have wl := wl_sm a ha.2
  have hn := T.1
  refine ⟨RZ_1 M R, ?_⟩
  unfold isWd at h
  by_cases b : psB s = 0
  · refine br_t ((RZ_b R).mpr b) ?_
    rw [decide_eq_true b, Bool.true_and] at h
    have L := R.2.2.2.2.2.1 b
    have te := txE_in (t := t) L.1
    unfold isW at h
    by_cases k : txK t n (psP s) = 1
    · rw [decide_eq_true k, Bool.true_and] at h
      refine br_t ((RZ_K T R b (c := 1) (by decide)).mpr k) ⟨ha, ?_⟩
      rw [L.2.1, L.2.2.1, pk_sub te.1]
      by_cases l : txE t n (psP s) - txB t n (psP s) = wlN a
      · rw [decide_eq_true l, Bool.true_and] at h
        exact br_t (congrArg nI l) ⟨wlN a + 2, r_wloop M T R b ha (by omega) (wlN a) 0 (by omega) h⟩
      · rw [decide_eq_false l, Bool.false_and] at h
        exact br_f (nI_ne (a := txE t n (psP s) - txB t n (psP s)) (b := wlN a) (by omega) (by omega) l) (z0 h)
    · rw [decide_eq_false k, Bool.false_and] at h
      exact br_f (fun y => k ((RZ_K T R b (c := 1) (by decide)).mp y)) (z0 h)
  · rw [decide_eq_false b, Bool.false_and] at h
    exact br_f (fun y => b ((RZ_b R).mp y)) (z0 h)
theorem r_took {a : Nat} {K : Int32 → Wd → Prop} (M : okM u 245) (T : TPt u t n) (R : RZ u z t n s) (ha : 2 ≤ a ∧ a < 35) (h1 : isWd t n a s = true → ∀ z', RZ u z' t n (rdS t n s) → K 1 z') (h0 : isWd t n a s = false → K 0 z) : w_X12_took 245 a K z := by
  refine ⟨RZ_1 M R, r_wd M T R ha ?_⟩
  cases c : isWd t n a s
  · exact br_t rfl ⟨Or.inl rfl, h0 c⟩
  · exact br_f (by decide) ⟨RZ_1 M R, r_rd M T R (isWd_T c).1 (fun z' R' => ⟨Or.inr rfl, h1 c z' R'⟩)⟩
theorem r_mS {c : Nat} (M : okM u 245) (T : TPt u t n) (R : RZ u z t n s) (hc : c < 256) (hk : ∀ z', RZ u z' t n (mS t n c s) → K z') : w_X12_mustSign 245 (nI c) K z := by
  refine ⟨RZ_1 M R, ?_⟩
  by_cases b : psB s = 0
  · unfold mS at hk
    rw [if_pos b] at hk
    by_cases k : txK t n (psP s) = c
    · rw [if_pos k] at hk
      exact br_t ((RZ_K T R b hc).mpr k) (br_t ((RZ_b R).mpr b) (r_rd M T R b hk))
    · rw [if_neg k] at hk
      refine br_f (fun y => k ((RZ_K T R b hc).mp y)) (r_blm (k := 2) M T R (by decide) (fun z' R' => ⟨RZ_1 M R', ?_⟩))
      exact br_f (fun y => blm_B (t := t) (n := n) (s := s) (k := 2) (by decide) ((RZ_b R').mp y)) (hk z' R')
  · rw [mS_d b] at hk
    have nb : ¬ wI z 245 12 = 0 := fun y => b ((RZ_b R).mp y)
    by_cases k : wI z 245 10 = nI c
    · exact br_t k (br_f nb (hk z R))
    · refine br_f k (r_blm (k := 2) M T R (by decide) (fun z' R' => ⟨RZ_1 M R', ?_⟩))
      rw [blm_d b] at R'
      exact br_f (fun y => b ((RZ_b R').mp y)) (hk z' R')
theorem r_num {lo hi : Nat} {x y : Int32} {K : Int32 → Wd → Prop} (M : okM u 245) (T : TPt u t n) (R : RZ u z t n s) (hx : x = nI lo) (hlo : lo < 1000) (hy : y.toInt = (hi : Int) - 1) (hk : ∀ z', RZ u z' t n (numS t n lo hi s) → K (nI (numV t n lo hi s)) z') : w_X12_number 245 x y K z := by
  subst hx
  have dead : ∀ z' s', psB s' ≠ 0 → RZ u z' t n s' → K (nI lo) z' → j_X12_number_36 K 245 (nI lo) z' := fun z' s' b R' h => ⟨RZ_1 M R', br_f (fun q => b ((RZ_b R').mp q)) (br_f (fun q => b ((RZ_b R').mp q)) h)⟩
  refine ⟨RZ_1 M R, ?_⟩
  by_cases b : psB s = 0
  · have L := R.2.2.2.2.2.1 b
    by_cases k : txK t n (psP s) = 2
    · have v := txK_2 k
      refine br_t ((RZ_K T R b (c := 2) (by decide)).mpr k) ?_
      refine p_withinI (x := wI z 245 11) (lo : Int) ((hi : Int) - 1) (by rw [Int32.toInt_toInt64]; exact nI_toInt (by omega)) (by rw [Int32.toInt_toInt64]; exact hy) ?_
      have e11 : (wI z 245 11).toInt = (txV t n (psP s) : Int) := by rw [L.2.2.2.2 k]; exact nI_toInt (by omega)
      by_cases c : lo ≤ txV t n (psP s) ∧ txV t n (psP s) < hi
      · have eS : numS t n lo hi s = rdS t n s := by unfold numS; rw [if_pos b, if_pos k, if_pos c]
        have eV : numV t n lo hi s = txV t n (psP s) := by unfold numV; exact if_pos ⟨b, k, c⟩
        rw [eS, eV] at hk
        rw [decide_eq_true (show (lo : Int) ≤ (wI z 245 11).toInt ∧ (wI z 245 11).toInt ≤ (hi : Int) - 1 by omega)]
        refine br_f (by decide) ⟨RZ_1 M R, br_t ((RZ_b R).mpr b) (r_rd M T R b (fun z' R' => ⟨RZ_1 M R', br_t ((RZ_b R').mpr b) ?_⟩))⟩
        rw [L.2.2.2.2 k]
        exact hk z' R'
      · have eS : numS t n lo hi s = blm t n 3 s := by unfold numS; rw [if_pos b, if_pos k, if_neg c]
        have eV : numV t n lo hi s = lo := by unfold numV; exact if_neg (fun q => c q.2.2)
        rw [eS, eV] at hk
        rw [decide_eq_false (show ¬ ((lo : Int) ≤ (wI z 245 11).toInt ∧ (wI z 245 11).toInt ≤ (hi : Int) - 1) by omega)]
        exact br_t rfl ⟨RZ_1 M R, r_blm (k := 3) M T R (by decide) (fun z' R' => dead z' _ (blm_B (by decide)) R' (hk z' R'))⟩
    · have eS : numS t n lo hi s = blm t n 2 s := by unfold numS; rw [if_pos b, if_neg k]
      have eV : numV t n lo hi s = lo := by unfold numV; exact if_neg (fun q => k q.2.1)
      rw [eS, eV] at hk
      exact br_f (fun q => k ((RZ_K T R b (c := 2) (by decide)).mp q)) (r_blm (k := 2) M T R (by decide) (fun z' R' => dead z' _ (blm_B (by decide)) R' (hk z' R')))
  · have eS : numS t n lo hi s = s := by unfold numS; rw [if_neg b]
    have eV : numV t n lo hi s = lo := by unfold numV; exact if_neg (fun q => b q.1)
    rw [eS, eV] at hk
    by_cases k : wI z 245 10 = 2
    · refine br_t k (p_withinI (x := wI z 245 11) (lo : Int) ((hi : Int) - 1) (by rw [Int32.toInt_toInt64]; exact nI_toInt (by omega)) (by rw [Int32.toInt_toInt64]; exact hy) ?_)
      cases (decide ((lo : Int) ≤ (wI z 245 11).toInt ∧ (wI z 245 11).toInt ≤ (hi : Int) - 1))
      · refine br_t rfl ⟨RZ_1 M R, r_blm (k := 3) M T R (by decide) (fun z' R' => ?_)⟩
        rw [blm_d b] at R'
        exact dead z' _ b R' (hk z' R')
      · exact br_f (by decide) (dead z _ b R (hk z R))
    · refine br_f k (r_blm (k := 2) M T R (by decide) (fun z' R' => ?_))
      rw [blm_d b] at R'
      exact dead z' _ b R' (hk z' R')
theorem r_lay {c : Nat} (M : okM u 245) (R : RZ u z t n s) (h3 : psB s = 0 → psG s 3 ≤ 915) (hk : ∀ z', RZ u z' t n (lay c s) → K z') : w_X12_laysStep 245 (nI c) K z := by
  have Mz := RZ_M M R
  have m1 := okM_tell Mz
  unfold w_X12_laysStep
  refine ⟨Mz.1, ?_⟩
  by_cases b : psB s = 0
  · refine br_t ((RZ_b R).mpr b) ?_
    have g3 := h3 b
    have t3 : wI z 247 3 = nI (psG s 3) := R.2.2.2.2.1 3 (by decide)
    rw [m1.1, m1.2.2, show (3 : Int32).toNatClampNeg = 3 from rfl, t3, show (299 + nI (psG s 3) : Int32) = nI (299 + psG s 3) from nI_add 299 _, nI_clamp (by omega), wI_uI, if_neg (by omega), t3, show (nI (psG s 3) + 1 : Int32) = nI (psG s 3 + 1) from nI_add _ 1]
    refine ⟨m1.2.1, vp_in_nI (n := 3) (by decide) (by decide), vp_in_nI (by omega) (by decide), vp_in_nI (n := 3) (by decide) (by decide), vp_in_nI (n := 3) (by decide) (by decide), hk _ ?_⟩
    rw [lay_l b]
    have w5 : wI (uI (uI z 247 (299 + psG s 3) (nI c)) 247 3 (nI (psG s 3 + 1))) 245 = wI z 245 := by rw [wI_uI_ne (by decide), wI_uI_ne (by decide)]
    refine ⟨FRm_7 (FRm_7 R.1), by rw [w5]; exact R.2.1, by rw [w5]; exact R.2.2.1, by rw [w5]; exact R.2.2.2.1, fun k hk => ?_, by rw [w5]; exact R.2.2.2.2.2.1, by rw [w5]; exact R.2.2.2.2.2.2⟩
    show _ = nI (layG c (psG s) k)
    unfold layG
    rw [wI_uI]
    by_cases k3 : k = 3
    · rw [if_pos k3, if_pos k3]
    · rw [if_neg k3, if_neg k3, wI_uI]
      by_cases kc : k = 299 + psG s 3
      · rw [if_pos kc, if_pos kc]
      · rw [if_neg kc, if_neg kc]
        exact R.2.2.2.2.1 k hk
  · rw [lay_d b] at hk
    exact br_f (fun y => b ((RZ_b R).mp y)) (hk z R)
theorem RZ_deep {d : Nat} (R : RZ u z t n s) : RZ u (uI z 245 16 (nI d)) t n (deepS d s) := by
  have w : ∀ k, k ≠ 16 → wI (uI z 245 16 (nI d)) 245 k = wI z 245 k := fun k h => by rw [wI_uI, if_neg h]
  refine ⟨FRm_5 R.1, ⟨(w 4 (by decide)).trans R.2.1.1, (w 6 (by decide)).trans R.2.1.2.1, (w 7 (by decide)).trans R.2.1.2.2⟩, ⟨R.2.2.1.1, (w 12 (by decide)).trans R.2.2.1.2⟩, by rw [wI_uI, if_pos rfl]; rfl, fun k hk => ?_, fun b => ?_, fun b => (w 13 (by decide)).trans (R.2.2.2.2.2.2 b)⟩
  · rw [wI_uI_ne (by decide)]
    exact R.2.2.2.2.1 k hk
  · have L := R.2.2.2.2.2.1 b
    exact ⟨L.1, (w 8 (by decide)).trans L.2.1, (w 9 (by decide)).trans L.2.2.1, (w 10 (by decide)).trans L.2.2.2.1, fun y => (w 11 (by decide)).trans (L.2.2.2.2 y)⟩
theorem RZ_out (R : RZ u z t n s) (h : 1 ≤ psD s) : RZ u (uI z 245 16 (wI z 245 16 - 1)) t n (outD s) := by
  rw [R.2.2.2.1, show (nI (psD s) - 1 : Int32) = nI (psD s - 1) from pk_sub (a := psD s) (b := 1) h]
  exact RZ_deep R
theorem r_gin (M : okM u 245) (T : TPt u t n) (R : RZ u z t n s) (hd : psD s ≤ 6) (hk : ∀ z', RZ u z' t n (gin t n s) → K z') : w_X12_goesIn 245 K z := by
  have nx : ∀ z' s', psD s' = psD s → RZ u z' t n s' → wI z' 245 16 + 1 = nI (psD s + 1) := fun z' s' e R' => by
    rw [R'.2.2.2.1, e]
    exact nI_add _ 1
  refine ⟨RZ_1 M R, ?_⟩
  unfold gin at hk
  by_cases c : psD s = 6
  · rw [if_pos c] at hk
    refine br_t (by rw [R.2.2.2.1, c]; rfl) (r_blm (k := 4) M T R (by decide) (fun z' R' => ?_))
    have R2 := RZ_deep (d := psD s + 1) R'
    unfold j_X12_goesIn_14
    rw [nx z' _ blm_D R']
    exact ⟨RZ_1 M R', br_f (fun y => blm_B (t := t) (n := n) (s := s) (k := 4) (by decide) ((RZ_b R2).mp y)) (hk _ R2)⟩
  · rw [if_neg c] at hk
    have R2 := RZ_deep (d := psD s + 1) R
    refine br_f (fun y => c ?_) ?_
    · rw [R.2.2.2.1] at y
      exact (nI_eq (a := psD s) (b := 6) (by omega) (by decide)).mp y
    · unfold j_X12_goesIn_14
      rw [nx z s rfl R]
      refine ⟨RZ_1 M R, ?_⟩
      by_cases b : psB s = 0
      · rw [if_pos b] at hk
        exact br_t ((RZ_b R2).mpr b) (r_rd M T R2 b hk)
      · rw [if_neg b] at hk
        exact br_f (fun y => b ((RZ_b R2).mp y)) (hk _ R2)
theorem isWd_l {a : Nat} (b : psB s = 0) : isWd t n a s = isW t n (psP s) a := by
  unfold isWd
  rw [decide_eq_true b, Bool.true_and]
theorem r_name {K : Int32 → Wd → Prop} (M : okM u 245) (T : TPt u t n) (R : RZ u z t n s) (b : psB s = 0) (h1 : nmW t n (psP s) < 8 → ∀ z', RZ u z' t n (rdS t n s) → K (nI (nmW t n (psP s))) z') (h0 : ¬ nmW t n (psP s) < 8 → K (-1) z) : w_X12_lawWord 245 K z := by
  unfold nmW at h1 h0
  have st : ∀ (a : Nat) (K : Int32 → Wd → Prop), (2 ≤ a ∧ a < 35) → (isW t n (psP s) a = true → ∀ z', RZ u z' t n (rdS t n s) → K 1 z') → (isW t n (psP s) a = false → K 0 z) → w_X12_took 245 a K z := fun a K ha k1 k0 => r_took M T R ha (fun c => k1 (by rw [← isWd_l b]; exact c)) (fun c => k0 (by rw [← isWd_l b]; exact c))
  have M1 := RZ_1 M R
  refine ⟨M1, st 14 _ (by decide) (fun c z' R' => br_f (by decide) ?_) (fun c1 => br_t rfl ⟨M1, st 15 _ (by decide) (fun c z' R' => br_f (by decide) ?_) (fun c2 => br_t rfl ⟨M1, st 16 _ (by decide) (fun c z' R' => br_f (by decide) ?_) (fun c3 => br_t rfl ⟨M1, st 17 _ (by decide) (fun c z' R' => br_f (by decide) ?_) (fun c4 => br_t rfl ⟨M1, st 18 _ (by decide) (fun c z' R' => br_f (by decide) ?_) (fun c5 => br_t rfl ⟨M1, st 19 _ (by decide) (fun c z' R' => br_f (by decide) ?_) (fun c6 => br_t rfl ⟨M1, st 20 _ (by decide) (fun c z' R' => br_f (by decide) ?_) (fun c7 => br_t rfl ⟨M1, st 21 _ (by decide) (fun c z' R' => br_f (by decide) ?_) (fun c8 => br_t rfl ?_)⟩)⟩)⟩)⟩)⟩)⟩)⟩)⟩
  · rw [c, if_pos rfl] at h1; exact h1 (by decide) z' R'
  · rw [c1, c, if_neg (by decide), if_pos rfl] at h1; exact h1 (by decide) z' R'
  · rw [c1, c2, c, if_neg (by decide), if_neg (by decide), if_pos rfl] at h1; exact h1 (by decide) z' R'
  · rw [c1, c2, c3, c, if_neg (by decide), if_neg (by decide), if_neg (by decide), if_pos rfl] at h1; exact h1 (by decide) z' R'
  · rw [c1, c2, c3, c4, c, if_neg (by decide), if_neg (by decide), if_neg (by decide), if_neg (by decide), if_pos rfl] at h1; exact h1 (by decide) z' R'
  · rw [c1, c2, c3, c4, c5, c, if_neg (by decide), if_neg (by decide), if_neg (by decide), if_neg (by decide), if_neg (by decide), if_pos rfl] at h1; exact h1 (by decide) z' R'
  · rw [c1, c2, c3, c4, c5, c6, c, if_neg (by decide), if_neg (by decide), if_neg (by decide), if_neg (by decide), if_neg (by decide), if_neg (by decide), if_pos rfl] at h1; exact h1 (by decide) z' R'
  · rw [c1, c2, c3, c4, c5, c6, c7, c, if_neg (by decide), if_neg (by decide), if_neg (by decide), if_neg (by decide), if_neg (by decide), if_neg (by decide), if_neg (by decide), if_pos rfl] at h1; exact h1 (by decide) z' R'
  · rw [c1, c2, c3, c4, c5, c6, c7, c8, if_neg (by decide), if_neg (by decide), if_neg (by decide), if_neg (by decide), if_neg (by decide), if_neg (by decide), if_neg (by decide), if_neg (by decide)] at h0; exact h0 (by decide)
end RY
