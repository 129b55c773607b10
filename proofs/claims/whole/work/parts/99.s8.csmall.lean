/-! 99.s8: the class's small steps in reading -/
def CTk (u z : Wd) (t : Nat → Nat) (n p : Nat) : Prop := FCm u z ∧ (wI z 238 0 = 0 ∧ wI z 238 1 = 0 ∧ wI z 238 2 = -1) ∧ wI z 238 5 = nI n ∧ p ≤ n ∧ txK t n p ≠ 3 ∧ wI z 238 6 = nI (txB t n p) ∧ wI z 238 7 = nI (txE t n p) ∧ wI z 238 8 = ckI (txK t n p) ∧ wI z 238 9 = (if txK t n p = 2 then nI (txV t n p) else 0)
def CCd (z : Wd) (g : Nat → Nat) : Prop := wI z 238 12 = nI (g 3) ∧ ∀ k, k < g 3 → wI z 240 k = nI (cvS (g (299 + k)))
def CFa (u z : Wd) (k pl : Nat) : Prop := FCm u z ∧ wI z 238 0 = 0 ∧ wI z 238 1 = nI k ∧ wI z 238 2 = nI pl
def CZ (u z : Wd) (t : Nat → Nat) (n : Nat) (s : pst) : Prop := psB s = 0 ∧ CTk u z t n (psP s) ∧ CCd z (psG s)
def DDp (t : Nat → Nat) (n : Nat) (s : pst) (k pl : Nat) : Prop := (psB s = k ∧ k ≠ 0 ∧ psL s = pl) ∨ (psB s = 0 ∧ txK t n (psP s) = 3 ∧ k = 1 ∧ pl = txB t n (psP s))
section CS
variable {u z : Wd} {t : Nat → Nat} {n p : Nat} {s : pst} {K : Int32 → Wd → Prop}
theorem txK_4 (T : TPc u t n) (p : Nat) : txK t n p = 0 ∨ txK t n p = 1 ∨ txK t n p = 2 ∨ txK t n p = 3 ∨ (40 ≤ txK t n p ∧ txK t n p < 256) := by
  unfold txK
  split
  · rename_i c
    have tq := (T.2 _ c).1
    split
    · omega
    · split
      · split <;> omega
      · split
        · rename_i c3
          have := cSg_40 _ tq c3
          omega
        · omega
  · omega
theorem ct_adv (M : RrS u) (T : TPc u t n) (C : CTk u z t n p) (hy : txK t n (txE t n p) ≠ 3 → ∀ z', CTk u z' t n (txE t n p) → wI z' 238 10 = wI z 238 10 → wI z' 238 12 = wI z 238 12 → wI z' 240 = wI z 240 → K 1 z') (hx : txK t n (txE t n p) = 3 → ∀ z', CFa u z' 1 (txB t n (txE t n p)) → K 0 z') : w_X7_advance 238 K z := by
  obtain ⟨c1, c2, c3, c4, c5, c6, c7, c8, c9⟩ := C
  have te := txE_in (t := t) c4
  refine q_tok M T (f := wI z 238) (r2 := wI z 240) c3 te.2.1 ⟨c1, rfl, fun _ _ _ _ _ => rfl, c6, c7⟩ (fun k z' h h8 h9 => ?_) (fun k z' h h2 hf h1 h3 => ?_)
  · have hf := h.2.2.1
    exact hy k z' ⟨h.1, ⟨(hf 0 (by decide) (by decide) (by decide) (by decide)).trans c2.1, (hf 1 (by decide) (by decide) (by decide) (by decide)).trans c2.2.1, (hf 2 (by decide) (by decide) (by decide) (by decide)).trans c2.2.2⟩, (hf 5 (by decide) (by decide) (by decide) (by decide)).trans c3, te.2.1, k, h.2.2.2.1, h.2.2.2.2, h8, h9⟩ (hf 10 (by decide) (by decide) (by decide) (by decide)) (hf 12 (by decide) (by decide) (by decide) (by decide)) h.2.1
  · exact hx k z' ⟨h, (hf 0 (by decide) (by decide) (by decide) (by decide) (by decide) (by decide)).trans c2.1, h1, h3⟩
theorem ct_ref {k : Nat} (M : RrS u) (C : CTk u z t n p) (h : ∀ z', CFa u z' k (txB t n p) → K 0 z') : w_X7_refuse 238 (nI k) K z := by
  have w6 : wI (uI z 238 1 (nI k)) 238 6 = nI (txB t n p) := by rw [wI_uI, if_neg (by decide)]; exact C.2.2.2.2.2.1
  unfold w_X7_refuse
  rw [w6]
  exact ⟨(FCm_M M C.1).1, h _ ⟨FCm_8 (FCm_8 C.1), by rw [wI_uI, if_neg (by decide), wI_uI, if_neg (by decide)]; exact C.2.1.1, by rw [wI_uI, if_neg (by decide), wI_uI, if_pos rfl], by rw [wI_uI, if_pos rfl]⟩⟩
theorem ct_ref1 {k : Nat} (M : RrS u) (C : CTk u z t n p) (h : ∀ z', CFa u z' k (txB t n p) → K 0 z') : w_X7_refuse 238 (nI k) (fun r w => (r = 0 ∨ r = 1) ∧ K r w) z := ct_ref M C (fun z' F => ⟨Or.inl rfl, h z' F⟩)
theorem ct_sg {c : Nat} (M : RrS u) (T : TPc u t n) (C : CTk u z t n p) (h40 : 40 ≤ c) (hc : c < 256) (h : K (b2i (decide (txK t n p = c))) z) : w_X7_isSign 238 (nI c) K z := by
  obtain ⟨c1, c2, c3, c4, c5, c6, c7, c8, c9⟩ := C
  refine ⟨(FCm_M M c1).1, ?_⟩
  rw [c8, c6]
  have k4 := txK_4 T p
  by_cases k : 40 ≤ txK t n p
  · have sg := txK_sg k
    refine br_t (by unfold ckI; rw [if_neg (by omega), if_neg (by omega), if_neg (by omega)]) (q_byte M T c1 c3 (by omega) ?_)
    rw [if_pos sg.1, sg.2.1]
    by_cases e : txK t n p = c
    · rw [decide_eq_true e] at h
      exact br_t (congrArg nI e) h
    · rw [decide_eq_false e] at h
      exact br_f (nI_ne (by omega) (by omega) e) h
  · rw [decide_eq_false (show ¬ txK t n p = c by omega)] at h
    refine br_f ?_ h
    unfold ckI
    split
    · decide
    · split
      · decide
      · rw [if_pos (by omega)]; decide
theorem ct_wloop {a : Nat} (M : RrS u) (T : TPc u t n) (C : CTk u z t n p) (ha : 2 ≤ a ∧ a < 35) (hl : txB t n p + wlN a ≤ n) : ∀ d k, k + d = wlN a → K (b2i (eqr t (txB t n p) a d k)) z → l_X7_isWord_28 K (d + 1) 238 a (nI k) z := by
  obtain ⟨c1, c2, c3, c4, c5, c6, c7, c8, c9⟩ := C
  have wl := wl_sm a ha.2
  have hn := T.1
  intro d
  induction d with
  | zero =>
    intro k hk h
    have e : k = wlN a := by omega
    subst e
    exact ⟨ha, br_t (nI_le (Nat.le_refl _) (by omega)) h⟩
  | succ d ih =>
    intro k hk h
    have kl : k < wlN a := by omega
    refine ⟨ha, br_f (nI_ge (a := k) (b := wlN a) kl (by omega)) ⟨(FCm_M M c1).1, ?_⟩⟩
    rw [c6, show (nI (txB t n p) + nI k : Int32) = nI (txB t n p + k) from nI_add _ _, show (nI k + 1 : Int32) = nI (k + 1) from nI_add k 1]
    refine q_byte M T c1 c3 (by omega) ?_
    rw [if_pos (by omega)]
    refine ⟨ha, vp_in_nI kl (show wlN a < 2 ^ 31 by omega), ?_⟩
    rw [nI_clamp (by omega)]
    have h' : K (b2i (decide (nI (t (txB t n p + k)) = wcN a k) && eqr t (txB t n p) a d (k + 1))) z := h
    by_cases c : nI (t (txB t n p + k)) = wcN a k
    · rw [decide_eq_true c, Bool.true_and] at h'
      exact br_t c (ih (k + 1) (by omega) h')
    · rw [decide_eq_false c, Bool.false_and] at h'
      exact br_f c h'
theorem ckI_2 {k : Nat} : ckI k = 2 ↔ k = 1 := by
  unfold ckI
  by_cases k0 : k = 0
  · rw [if_pos k0]; exact ⟨fun y => absurd y (by decide), fun y => by omega⟩
  · rw [if_neg k0]
    by_cases k1 : k = 1
    · rw [if_pos k1]; exact ⟨fun _ => k1, fun _ => rfl⟩
    · rw [if_neg k1]
      refine ⟨fun y => ?_, fun y => absurd y k1⟩
      split at y
      · exact absurd y (by decide)
      · exact absurd y (by decide)
theorem ckI_1 {k : Nat} : ckI k = 1 ↔ k = 2 := by
  unfold ckI
  by_cases k0 : k = 0
  · rw [if_pos k0]; exact ⟨fun y => absurd y (by decide), fun y => by omega⟩
  · rw [if_neg k0]
    by_cases k1 : k = 1
    · rw [if_pos k1]; exact ⟨fun y => absurd y (by decide), fun y => by omega⟩
    · rw [if_neg k1]
      by_cases k2 : k = 2
      · rw [if_pos k2]; exact ⟨fun _ => k2, fun _ => rfl⟩
      · rw [if_neg k2]; exact ⟨fun y => absurd y (by decide), fun y => absurd y k2⟩
theorem ckI_4 {k : Nat} : ckI k = 4 ↔ k = 0 := by
  unfold ckI
  by_cases k0 : k = 0
  · rw [if_pos k0]; exact ⟨fun _ => k0, fun _ => rfl⟩
  · rw [if_neg k0]
    refine ⟨fun y => ?_, fun y => absurd y k0⟩
    split at y
    · exact absurd y (by decide)
    · split at y
      · exact absurd y (by decide)
      · exact absurd y (by decide)
theorem ct_wd {a : Nat} (M : RrS u) (T : TPc u t n) (C : CTk u z t n p) (ha : 2 ≤ a ∧ a < 35) (h : K (b2i (isW t n p a)) z) : w_X7_isWord 238 a K z := by
  have C' := C
  obtain ⟨c1, c2, c3, c4, c5, c6, c7, c8, c9⟩ := C
  have wl := wl_sm a ha.2
  have hn := T.1
  have te := txE_in (t := t) c4
  refine ⟨(FCm_M M c1).1, ?_⟩
  rw [c8]
  unfold isW at h
  by_cases k : txK t n p = 1
  · rw [decide_eq_true k, Bool.true_and] at h
    refine br_t (ckI_2.mpr k) ⟨ha, ?_⟩
    rw [c6, c7, pk_sub te.1]
    by_cases l : txE t n p - txB t n p = wlN a
    · rw [decide_eq_true l, Bool.true_and] at h
      exact br_t (congrArg nI l) ⟨wlN a + 1, ct_wloop M T C' ha (by omega) (wlN a) 0 (by omega) h⟩
    · rw [decide_eq_false l, Bool.false_and] at h
      exact br_f (nI_ne (a := txE t n p - txB t n p) (b := wlN a) (by omega) (by omega) l) h
  · rw [decide_eq_false k, Bool.false_and] at h
    exact br_f (fun y => k (ckI_2.mp y)) h
/-! in a law -/
theorem CZ_1 (M : RrS u) (C : CZ u z t n s) : isK z 238 7 := (FCm_M M C.2.1.1).1
theorem cz_adv (M : RrS u) (T : TPc u t n) (C : CZ u z t n s) (hy : txK t n (psP (rdS t n s)) ≠ 3 → ∀ z', CZ u z' t n (rdS t n s) → K 1 z') (hx : ∀ k pl, DDp t n (rdS t n s) k pl → ∀ z', CFa u z' k pl → K 0 z') : w_X7_advance 238 K z := ct_adv M T C.2.1 (fun k z' C' _ h12 h240 => hy k z' ⟨C.1, C', by unfold CCd; rw [h12, h240]; exact C.2.2⟩) (fun k z' F => hx 1 _ (Or.inr ⟨C.1, k, rfl, rfl⟩) z' F)
theorem cz_emit {c : Nat} {K : Wd → Prop} (M : RrS u) (C : CZ u z t n s) (h3 : psG s 3 < 900) (hk : ∀ z', CZ u z' t n (lay c s) → K z') : w_X7_emit 238 (nI (cvS c)) K z := by
  have Mz := FCm_M M C.2.1.1
  unfold w_X7_emit
  rw [C.2.2.1, Mz.2.2.1, Mz.2.2.2.2, nI_clamp (by omega), wI_uI_ne (by decide), C.2.2.1, show (nI (psG s 3) + 1 : Int32) = nI (psG s 3 + 1) from nI_add _ 1]
  refine ⟨Mz.1, br_f (nI_pos (by omega)) ⟨Mz.2.2.2.1, br_f (nI_ge (b := 900) h3 (by decide)) ⟨vp_in_nI h3 (by decide), hk _ ?_⟩⟩⟩
  rw [lay_l C.1]
  obtain ⟨c1, c2, c3, c4, c5, c6, c7, c8, c9⟩ := C.2.1
  have w : ∀ k, k ≠ 12 → wI (uI (uI z 240 (psG s 3) (nI (cvS c))) 238 12 (nI (psG s 3 + 1))) 238 k = wI z 238 k := fun k hk => by rw [wI_uI, if_neg hk, wI_uI_ne (by decide)]
  refine ⟨C.1, ⟨FCm_8 (FCm_0 c1), ⟨(w 0 (by decide)).trans c2.1, (w 1 (by decide)).trans c2.2.1, (w 2 (by decide)).trans c2.2.2⟩, (w 5 (by decide)).trans c3, c4, c5, (w 6 (by decide)).trans c6, (w 7 (by decide)).trans c7, (w 8 (by decide)).trans c8, (w 9 (by decide)).trans c9⟩, ?_, fun k hk => ?_⟩
  · rw [wI_uI, if_pos rfl]
    show _ = nI (layG c (psG s) 3)
    rw [show layG c (psG s) 3 = psG s 3 + 1 from if_pos rfl]
  · have hk' : k < psG s 3 + 1 := by
      have hk2 : k < layG c (psG s) 3 := hk
      rw [show layG c (psG s) 3 = psG s 3 + 1 from if_pos rfl] at hk2
      exact hk2
    show _ = nI (cvS (layG c (psG s) (299 + k)))
    rw [wI_uI_ne (by decide), wI_uI]
    unfold layG
    rw [if_neg (show ¬ 299 + k = 3 by omega)]
    by_cases e : k = psG s 3
    · rw [if_pos e, if_pos (show 299 + k = 299 + psG s 3 by omega)]
    · rw [if_neg e, if_neg (show ¬ 299 + k = 299 + psG s 3 by omega)]
      exact C.2.2.2 k (by omega)
theorem DD_blm {k : Nat} (b : psB s = 0) (h : txK t n (psP s) ≠ 3) (hk : k ≠ 0) : DDp t n (blm t n k s) k (txB t n (psP s)) := by
  unfold blm
  rw [if_pos b, if_neg h]
  exact Or.inl ⟨rfl, hk, rfl⟩
theorem DD_lay {c k pl : Nat} (D : DDp t n s k pl) : DDp t n (lay c s) k pl := by
  rcases D with ⟨d1, d2, d3⟩ | ⟨d1, d2, d3⟩
  · rw [lay_d (by omega)]; exact Or.inl ⟨d1, d2, d3⟩
  · rw [lay_l d1]; exact Or.inr ⟨d1, d2, d3⟩
theorem DD_out {k pl : Nat} (D : DDp t n s k pl) : DDp t n (outD s) k pl := D
theorem DD_mS {c k pl : Nat} (hc : c ≠ 3) (D : DDp t n s k pl) : DDp t n (mS t n c s) k pl := by
  rcases D with ⟨d1, d2, d3⟩ | ⟨d1, d2, d3, d4⟩
  · rw [mS_d (by omega)]; exact Or.inl ⟨d1, d2, d3⟩
  · unfold mS
    rw [if_pos d1, if_neg (by omega)]
    have z := blm_1 (k := 2) d1 d2
    exact Or.inl ⟨z.1.trans d3.symm, by omega, z.2.trans d4.symm⟩
theorem DD_lpX {tst : pst → Bool} {opc : pst → Nat} {P : pst → pst} {F k pl : Nat} (hT : ∀ s, tst s = true → psB s = 0 ∧ txK t n (psP s) ≠ 3) (D : DDp t n s k pl) : DDp t n (lpX t n tst opc P F s) k pl := by
  have e : tst s = false := by
    cases c : tst s
    · rfl
    · obtain ⟨h1, h2⟩ := hT s c
      rcases D with ⟨d1, d2, d3⟩ | ⟨d1, d2, d3, d4⟩
      · omega
      · exact absurd d2 h2
  rw [lpX_d e]
  exact D
theorem DD_aG {f q k pl : Nat} (hq : q < 3) (V : IVs n s) (h : fuA s q f) (D : DDp t n s k pl) : DDp t n (aG t n f q s) k pl := by
  rcases D with ⟨d1, d2, d3⟩ | ⟨d1, d2, d3, d4⟩
  · rw [aG_d (by omega)]; exact Or.inl ⟨d1, d2, d3⟩
  · have v := V.2 d1
    have z := ((aG_G f q s hq v.2.1 v.1 (fuA_G hq h d1)).2.2 d1).1 d2
    exact Or.inl ⟨z.1.trans d3.symm, by omega, z.2.trans d4.symm⟩
theorem DD_uG {f q k pl : Nat} (hq : q < 3) (V : IVs n s) (h : fuU s q f) (D : DDp t n s k pl) : DDp t n (uG t n f q s) k pl := by
  rcases D with ⟨d1, d2, d3⟩ | ⟨d1, d2, d3, d4⟩
  · rw [uG_d (by omega)]; exact Or.inl ⟨d1, d2, d3⟩
  · have v := V.2 d1
    have z := ((uG_G f q s hq v.2.1 v.1 (fuU_G h d1)).2.2 d1).1 d2
    exact Or.inl ⟨z.1.trans d3.symm, by omega, z.2.trans d4.symm⟩
theorem sg_T3 {c : Nat} (hc : c ≠ 3) (h : isSg t n c s = true) : psB s = 0 ∧ txK t n (psP s) ≠ 3 := by
  have z := Bool.and_eq_true_iff.mp h
  have y := of_decide_eq_true z.2
  exact ⟨of_decide_eq_true z.1, by omega⟩
theorem wd_T3 {a : Nat} (h : isWd t n a s = true) : psB s = 0 ∧ txK t n (psP s) ≠ 3 := by
  have z := Bool.and_eq_true_iff.mp h
  have y := isW_1 z.2
  exact ⟨of_decide_eq_true z.1, by omega⟩
theorem isSg_l {c : Nat} (b : psB s = 0) : isSg t n c s = decide (txK t n (psP s) = c) := by
  unfold isSg
  rw [decide_eq_true b, Bool.true_and]
/-- may one go in deeper? then the token is taken -/
theorem cz_gin {K2 : Int32 → Wd → Prop} (M : RrS u) (T : TPc u t n) (C : CZ u z t n s) (hd : psD s ≤ 6) (hy : psB (gin t n s) = 0 → txK t n (psP (gin t n s)) ≠ 3 → ∀ z', CZ u z' t n (gin t n s) → K2 1 z') (hx2 : ∀ k pl, DDp t n (gin t n s) k pl → ∀ z', CFa u z' k pl → K2 0 z') (hx : ∀ k pl, DDp t n (gin t n s) k pl → ∀ z', CFa u z' k pl → K 0 z') : w_X7_mayNest 238 (nI (psD s)) (fun r19 w20 => ((r19 = 0 → K 0 w20) ∧ (¬ r19 = 0 → isK w20 238 7 ∧ w_X7_advance 238 K2 w20))) z := by
  by_cases c : psD s = 6
  · refine br_f (nI_nlt (b := 6) (by omega) (by omega)) ⟨CZ_1 M C, ct_ref (k := 4) M C.2.1 (fun z' F => br_t rfl (br_t rfl (hx 4 _ ?_ z' F)))⟩
    unfold gin
    rw [if_pos c]
    exact DD_blm C.1 C.2.1.2.2.2.2.1 (by decide)
  · have e : gin t n s = rdS t n (deepS (psD s + 1) s) := by
      unfold gin
      rw [if_neg c, if_pos C.1]
    rw [e] at hy hx2
    refine br_t (nI_lt (b := 6) (by omega) (by decide)) (br_f (by decide) ⟨CZ_1 M C, cz_adv (s := deepS (psD s + 1) s) M T C (fun k z' C' => hy C.1 k z' C') hx2⟩)
theorem cz_exs {c : Nat} (M : RrS u) (T : TPc u t n) (C : CZ u z t n s) (h40 : 40 ≤ c) (hc : c < 256) (hy : psB (mS t n c s) = 0 → txK t n (psP (mS t n c s)) ≠ 3 → ∀ z', CZ u z' t n (mS t n c s) → K 1 z') (hx : ∀ k pl, DDp t n (mS t n c s) k pl → ∀ z', CFa u z' k pl → K 0 z') : w_X7_expectSign 238 (nI c) K z := by
  refine ⟨CZ_1 M C, ct_sg M T C.2.1 h40 hc ?_⟩
  unfold mS at hy hx
  rw [if_pos C.1] at hy hx
  by_cases k : txK t n (psP s) = c
  · rw [if_pos k] at hy hx
    rw [decide_eq_true k]
    exact br_f (by decide) ⟨CZ_1 M C, cz_adv M T C (fun k z' C' => ⟨Or.inr rfl, hy C.1 k z' C'⟩) (fun k pl D z' F => ⟨Or.inl rfl, hx k pl D z' F⟩)⟩
  · rw [if_neg k] at hy hx
    rw [decide_eq_false k]
    exact br_t rfl ⟨CZ_1 M C, ct_ref1 (k := 2) M C.2.1 (fun z' F => hx 2 _ (DD_blm C.1 C.2.1.2.2.2.2.1 (by decide)) z' F)⟩
theorem cz_name (M : RrS u) (T : TPc u t n) (C : CZ u z t n s) (h : K (if nmW t n (psP s) < 8 then nI (1000 + nmW t n (psP s)) else -1) z) : w_X7_nameHere 238 K z := by
  unfold nmW at h
  have st : ∀ (a : Nat) (K : Int32 → Wd → Prop), (2 ≤ a ∧ a < 35) → K (b2i (isW t n (psP s) a)) z → w_X7_isWord 238 a K z := fun a K ha k => ct_wd M T C.2.1 ha k
  have M1 := CZ_1 M C
  refine ⟨M1, st 14 _ (by decide) ?_⟩
  cases c1 : isW t n (psP s) 14
  case true => rw [c1, if_pos rfl] at h; exact br_f (by decide) h
  refine br_t rfl ⟨M1, st 15 _ (by decide) ?_⟩
  rw [c1, if_neg bft] at h
  cases c2 : isW t n (psP s) 15
  case true => rw [c2, if_pos rfl] at h; exact br_f (by decide) h
  refine br_t rfl ⟨M1, st 16 _ (by decide) ?_⟩
  rw [c2, if_neg bft] at h
  cases c3 : isW t n (psP s) 16
  case true => rw [c3, if_pos rfl] at h; exact br_f (by decide) h
  refine br_t rfl ⟨M1, st 17 _ (by decide) ?_⟩
  rw [c3, if_neg bft] at h
  cases c4 : isW t n (psP s) 17
  case true => rw [c4, if_pos rfl] at h; exact br_f (by decide) h
  refine br_t rfl ⟨M1, st 18 _ (by decide) ?_⟩
  rw [c4, if_neg bft] at h
  cases c5 : isW t n (psP s) 18
  case true => rw [c5, if_pos rfl] at h; exact br_f (by decide) h
  refine br_t rfl ⟨M1, st 19 _ (by decide) ?_⟩
  rw [c5, if_neg bft] at h
  cases c6 : isW t n (psP s) 19
  case true => rw [c6, if_pos rfl] at h; exact br_f (by decide) h
  refine br_t rfl ⟨M1, st 20 _ (by decide) ?_⟩
  rw [c6, if_neg bft] at h
  cases c7 : isW t n (psP s) 20
  case true => rw [c7, if_pos rfl] at h; exact br_f (by decide) h
  refine br_t rfl ⟨M1, st 21 _ (by decide) ?_⟩
  rw [c7, if_neg bft] at h
  cases c8 : isW t n (psP s) 21
  case true => rw [c8, if_pos rfl] at h; exact br_f (by decide) h
  rw [c8, if_neg bft] at h
  exact br_t rfl h
theorem cz_cmp (M : RrS u) (T : TPc u t n) (C : CZ u z t n s) (h : K (if txK t n (psP s) = 61 then 2003 else if txK t n (psP s) = 60 then 2004 else if txK t n (psP s) = 62 then 2005 else 0) z) : w_X7_comparisonHere 238 K z := by
  have M1 := CZ_1 M C
  refine ⟨M1, ct_sg (c := 61) M T C.2.1 (by decide) (by decide) ?_⟩
  by_cases c1 : txK t n (psP s) = 61
  · rw [if_pos c1] at h
    rw [decide_eq_true c1]
    exact br_f (by decide) h
  rw [if_neg c1] at h
  rw [decide_eq_false c1]
  refine br_t rfl ⟨M1, ct_sg (c := 60) M T C.2.1 (by decide) (by decide) ?_⟩
  by_cases c2 : txK t n (psP s) = 60
  · rw [if_pos c2] at h
    rw [decide_eq_true c2]
    exact br_f (by decide) h
  rw [if_neg c2] at h
  rw [decide_eq_false c2]
  refine br_t rfl ⟨M1, ct_sg (c := 62) M T C.2.1 (by decide) (by decide) ?_⟩
  by_cases c3 : txK t n (psP s) = 62
  · rw [if_pos c3] at h
    rw [decide_eq_true c3]
    exact br_f (by decide) h
  rw [if_neg c3] at h
  rw [decide_eq_false c3]
  exact br_t rfl h
end CS
