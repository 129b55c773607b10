/-! 65: the class's law: the same stack machine -/
theorem q_j129 {v : Int64} {K : Int32 → Wd → Prop} {w : Wd} (hk : K (bdF v) w) : j_X4_joinTwo_129 K v w := by
  unfold bdF mxL mnL at hk
  have e1 : (-1000000 : Int64).toInt = -1000000 := by decide
  have e2 : (1000000 : Int64).toInt = 1000000 := by decide
  by_cases c : v ≤ 1000000
  · refine br_t ((lg_cmp_le _ _).mpr c) ?_
    by_cases c2 : -1000000 ≤ v
    · refine br_t ((lg_cmp_ge _ _).mpr c2) ?_
      by_cases c3 : v < 1000000
      · rw [if_pos c3] at hk
        by_cases c4 : -1000000 < v
        · rw [if_pos c4] at hk; exact hk
        · rw [if_neg c4] at hk
          have e : v = -1000000 := by rw [fa_eq64]; rw [fa_lt64] at c4; rw [fa_le64] at c2; omega
          rw [e]; exact hk
      · rw [if_neg c3] at hk
        have e : v = 1000000 := by rw [fa_eq64]; rw [fa_lt64] at c3; rw [fa_le64] at c; omega
        rw [if_pos (by decide)] at hk
        rw [e]; exact hk
    · refine br_f (fun z => c2 ((lg_cmp_ge _ _).mp z)) ?_
      rw [if_pos (show v < 1000000 by rw [fa_lt64]; rw [fa_le64] at c2; omega), if_neg (show ¬ -1000000 < v by rw [fa_lt64]; rw [fa_le64] at c2; omega)] at hk
      exact hk
  · refine br_f (fun z => c ((lg_cmp_le _ _).mp z)) ?_
    rw [if_neg (show ¬ v < 1000000 by rw [fa_lt64]; rw [fa_le64] at c; omega), if_pos (by decide)] at hk
    exact hk
theorem q_01 {b : Prop} [Decidable b] {K : Int32 → Wd → Prop} {w : Wd} (hk : K (if b then 1 else 0) w) : (b → j_X4_joinTwo_129 K 1 w) ∧ (¬ b → j_X4_joinTwo_129 K 0 w) := by
  refine ⟨fun h => q_j129 ?_, fun h => q_j129 ?_⟩
  · rw [if_pos h] at hk; exact hk
  · rw [if_neg h] at hk; exact hk
theorem q_join {c : Nat} {x y : Int32} (hc : 10 ≤ c ∧ c ≤ 17) (ht : 16 ≤ c → okX true x ∧ okX true y) {K : Int32 → Wd → Prop} {w : Wd} (hk : K (dnF (nI c) x.toInt64 y.toInt64) w) : w_X4_joinTwo (nI (c + 1990)) x.toInt64 y.toInt64 K w := by
  have e : c = 10 ∨ c = 11 ∨ c = 12 ∨ c = 13 ∨ c = 14 ∨ c = 15 ∨ c = 16 ∨ c = 17 := by omega
  rcases e with rfl | rfl | rfl | rfl | rfl | rfl | rfl | rfl
  · exact br_t rfl (q_j129 hk)
  · exact br_f (by decide) (br_t rfl (q_j129 hk))
  · exact br_f (by decide) (br_f (by decide) (br_t rfl (q_j129 hk)))
  · have q := q_01 (b := x.toInt64 = y.toInt64) hk
    exact br_f (by decide) (br_f (by decide) (br_f (by decide) (br_t rfl ⟨fun z => q.1 ((lg_cmp_eq _ _).mp z), fun z => q.2 (fun e => z ((lg_cmp_eq _ _).mpr e))⟩)))
  · have q := q_01 (b := x.toInt64 < y.toInt64) hk
    exact br_f (by decide) (br_f (by decide) (br_f (by decide) (br_f (by decide) (br_t rfl ⟨fun z => q.2 (fun e => lg_lt_not_le e ((lg_cmp_ge _ _).mp z)), fun z => q.1 (by rw [fa_lt64]; have : ¬ y.toInt64 ≤ x.toInt64 := fun e => z ((lg_cmp_ge _ _).mpr e); rw [fa_le64] at this; omega)⟩))))
  · have q := q_01 (b := y.toInt64 < x.toInt64) hk
    exact br_f (by decide) (br_f (by decide) (br_f (by decide) (br_f (by decide) (br_f (by decide) (br_t rfl ⟨fun z => q.2 (fun e => lg_lt_not_le e ((lg_cmp_le _ _).mp z)), fun z => q.1 (by rw [fa_lt64]; have : ¬ x.toInt64 ≤ y.toInt64 := fun e => z ((lg_cmp_le _ _).mpr e); rw [fa_le64] at this; omega)⟩)))))
  · obtain ⟨h1, h2⟩ := ht (by decide)
    refine br_f (by decide) (br_f (by decide) (br_f (by decide) (br_f (by decide) (br_f (by decide) (br_f (by decide) (br_t rfl (q_j129 ?_)))))))
    rcases h1 with rfl | rfl <;> rcases h2 with rfl | rfl <;> exact hk
  · obtain ⟨h1, h2⟩ := ht (by decide)
    refine br_f (by decide) (br_f (by decide) (br_f (by decide) (br_f (by decide) (br_f (by decide) (br_f (by decide) (br_f (by decide) (q_j129 ?_)))))))
    rcases h1 with rfl | rfl <;> rcases h2 with rfl | rfl <;> exact hk
/-- the shape of a noise at q -/
def NS (w : Wd) (q : Nat) : Prop := isK w q 4 ∧ (wR w q 2 = q + 1 ∧ isK w (q + 1) 20 ∧ wn w (q + 1) = 10) ∧ (wR w q 3 = q + 2 ∧ isK w (q + 2) 20 ∧ wn w (q + 2) = 10) ∧ (wR w q 4 = q + 3 ∧ isK w (q + 3) 20 ∧ wn w (q + 3) = 8) ∧ (wR w q 5 = q + 4 ∧ isK w (q + 4) 20 ∧ wn w (q + 4) = 64)
theorem q_lawRun {w : Wd} {q t : Nat} {g : Nat → Nat} {B : Nat} (N : NS w q) (hW : WF g B) (hl : arr w t (g 3) (fun i => cvS (g (299 + i)))) (hq : t ≠ q + 4) {a b n : Nat} (ha : a < g 1) (hb : b < g 1) (hn : n ≤ 99) (hnm : ∀ k, k < 8 → wI w (q + 3) k = nI (lEnv g a b n k)) {E : Nat → Int32 → Wd → Prop} {K : Int32 → Wd → Prop} : ∀ d i f tt l, i + d = g 3 → okT g d i tt → okV tt l → stkR f l → (∀ f' l', l' = lRun g a b n d i l → okV [true] l' → stkR f' l' → E q (nI l'.length) (sI w (q + 4) f')) → l_X4_lawHolds_139 E K (d + 1) q t (nI l.length) (nI i) (sI w (q + 4) f) := by
  have h9 := hW.1.1.2.2.2.1
  have hs := hW.2.2.1
  intro d
  induction d with
  | zero =>
    intro i f tt l hi ht hv hst hE
    have e : i = g 3 := by omega
    subst e
    have ht' : tt = [true] := ht
    subst ht'
    refine ⟨Or.inr hl.1, br_t ?_ (hE f l rfl hv hst)⟩
    rw [show wn (sI w (q + 4) f) t = g 3 from hl.2.1]
    exact nI_le (Nat.le_refl _) (by omega)
  | succ d ih =>
    intro i f tt l hi ht hv hst hE
    have hlen := okV_len hv
    have k5 : wR (sI w (q + 4) f) q 5 = q + 4 := N.2.2.2.2.1
    have k20 : isK (sI w (q + 4) f) (q + 4) 20 := N.2.2.2.2.2.1
    have k64 : wn (sI w (q + 4) f) (q + 4) = 64 := N.2.2.2.2.2.2
    have kt : wn (sI w (q + 4) f) t = g 3 := hl.2.1
    have kc : wI (sI w (q + 4) f) t (nI i).toNatClampNeg = nI (cvS (g (299 + i))) := by rw [nI_clamp (by omega), wI_sIn hq]; exact hl.2.2 i (by omega)
    have key : ∀ f' l' t', okT g d (i + 1) t' → okV t' l' → stkR f' l' → lStep g a b n (g (299 + i)) l = l' → l_X4_lawHolds_139 E K (d + 1) q t (nI l'.length) (nI i + 1) (sI w (q + 4) f') := fun f' l' t' q1 q2 q3 q4 => by
      rw [nI_1]
      exact ih (i + 1) f' t' l' (by omega) q1 q2 q3 (fun f'' l'' e => hE f'' l'' (by rw [e, ← q4]; rfl))
    refine ⟨Or.inr hl.1, br_f ?_ ⟨hl.1, ?_⟩⟩
    · rw [kt]; exact nI_ge (by omega) (by omega)
    rw [kt, kc, k5, k64]
    refine ⟨vp_in_nI (by omega) (by omega), ?_⟩
    obtain ⟨hT, hT2⟩ := ht
    rcases hT2 with ⟨hc, hl', hk⟩ | ⟨hc, r, rfl, hk⟩ | ⟨c1, c2, r, rfl, hk⟩ | ⟨c1, c2, r, rfl, hk⟩ | ⟨c1, c2, r, rfl, hk⟩
    · by_cases hc1 : 1000 ≤ g (299 + i)
      · have ec : cvS (g (299 + i)) = g (299 + i) - 1000 := if_pos hc1
        rw [ec]
        refine br_f (nI_ge (b := 2000) (by omega) (by decide)) ⟨N.1, k20, br_f (nI_ge (b := 64) (by omega) (by decide)) (br_f (nI_ge (b := 1000) (by omega) (by decide)) ⟨vp_in_nI (by omega) (by decide), ?_⟩)⟩
        rw [sI_uI, sI_sI, wI_sI, nI_clamp (by omega), nI_1]
        exact key _ (nI (g (299 + i) - 1000) :: l) _ hk ⟨okX_nI (by omega), hv⟩ (stkR_push hst) (if_pos hc1)
      · have ec : cvS (g (299 + i)) = g (299 + i) + 900 := by unfold cvS; rw [if_neg hc1, if_pos (by omega)]
        rw [ec]
        refine br_f (nI_ge (b := 2000) (by omega) (by decide)) ⟨N.1, k20, br_f (nI_ge (b := 64) (by omega) (by decide)) (br_t (nI_le (a := 1000) (by omega) (by omega)) ?_)⟩
        rw [show (nI (g (299 + i) + 900) - 1000 : Int32) = nI (g (299 + i) - 100) from (pk_sub (b := 1000) (by omega)).trans (congrArg nI (by omega))]
        have k4 : wR (sI w (q + 4) f) q 4 = q + 3 := N.2.2.2.1.1
        have k8 : wn (sI w (q + 4) f) (q + 3) = 8 := N.2.2.2.1.2.2
        unfold w_X4_valueOf
        rw [k4, k8, nI_clamp (n := g (299 + i) - 100) (by omega), wI_sIn (r := q + 3) (by omega), hnm _ (by omega)]
        refine br_f (nI_pos (by omega)) ⟨N.1, N.2.2.2.1.2.1, br_f (nI_ge (b := 8) (by omega) (by decide)) ⟨vp_in_nI (by omega) (by decide), k20, by rw [k64]; exact vp_in_nI (by omega) (by decide), ?_⟩⟩
        rw [sI_uI, sI_sI, wI_sI, nI_clamp (by omega), nI_1]
        exact key _ (nI (lEnv g a b n (g (299 + i) - 100)) :: l) _ hk ⟨okX_nI (by have := lEnv_ok hW.1 hs (k := g (299 + i) - 100) ha hb hn; omega), hv⟩ (stkR_push hst) (by unfold lStep; rw [if_neg hc1, if_pos (by omega)])
    · obtain ⟨x, l', rfl, hx, hv'⟩ := okV_c hv
      have ec : cvS (g (299 + i)) = 2008 := by unfold cvS; rw [if_neg (by omega), if_neg (by omega), hc]
      rw [ec]
      have hl2 : l'.length < 64 := by simp at hlen hT; omega
      refine br_t (by decide) (br_t rfl (br_f (nI_nlt (b := 1) (show 1 ≤ l'.length + 1 by omega) (show l'.length + 1 < 2 ^ 31 by omega)) ⟨N.1, ?_⟩))
      have e1 : nI (x :: l').length - 1 = nI l'.length := nI_pred l'.length
      rw [k5, k64, e1]
      refine ⟨k20, vp_in_nI hl2 (by decide), vp_in_nI hl2 (by decide), ?_⟩
      rw [sI_uI, sI_sI, wI_sI, nI_clamp (by omega), hst.1]
      exact key _ ((1 - x) :: l') _ hk ⟨okX_not hx, hv'⟩ (stkR_push hst.2) (by unfold lStep; rw [if_neg (by omega), if_neg (by omega), if_pos hc]; rfl)
    all_goals
      obtain ⟨y, l1, rfl, hy, hv1⟩ := okV_c hv
      obtain ⟨x, l', rfl, hx, hv'⟩ := okV_c hv1
      have ec : cvS (g (299 + i)) = g (299 + i) + 1990 := by unfold cvS; rw [if_neg (by omega), if_neg (by omega)]
      rw [ec]
      have hl2 : l'.length + 2 ≤ 64 := by simp at hlen hT; omega
      have e1 : nI (y :: x :: l').length + (-1) = nI (x :: l').length := pk_m1 _
      have e2 : nI (y :: x :: l').length - 2 = nI l'.length := (pk_sub (a := l'.length + 2) (b := 2) (by omega)).trans (congrArg nI (by omega))
      have e3 : nI (y :: x :: l').length - 1 = nI (x :: l').length := nI_pred _
      refine br_t (nI_le (a := 2000) (by omega) (by omega)) (br_f (fun z => by have := (nI_eq (b := 2008) (by omega) (by decide)).mp z; omega) (br_f (nI_nlt (b := 2) (show 2 ≤ l'.length + 2 by omega) (show l'.length + 2 < 2 ^ 31 by omega)) ⟨N.1, ?_⟩))
      rw [k5, k64, e1, e2, e3]
      refine ⟨k20, vp_in_nI (by omega) (by decide), vp_in_nI (show l'.length + 1 < 64 by omega) (by decide), ?_⟩
      rw [wI_sI, nI_clamp (n := l'.length) (by omega), nI_clamp (n := (x :: l').length) (show l'.length + 1 < 2 ^ 31 by omega), hst.1, hst.2.1]
      refine q_join (by omega) ?_ ⟨k20, by rw [k64]; exact vp_in_nI (by omega) (by decide), ?_⟩
      rotate_left
      rw [sI_uI, sI_sI, wI_sI]
      refine key _ (dnF (nI (g (299 + i))) x.toInt64 y.toInt64 :: l') _ hk ⟨?_, hv'⟩ (stkR_push hst.2.2) (by unfold lStep; rw [if_neg (by omega), if_neg (by omega), if_neg (by omega)]; rfl)
    · have e : g (299 + i) = 10 ∨ g (299 + i) = 11 ∨ g (299 + i) = 12 := by omega
      refine dnF_num ?_ _ _
      rcases e with e | e | e <;> rw [e]
      · exact Or.inl rfl
      · exact Or.inr (Or.inl rfl)
      · exact Or.inr (Or.inr rfl)
    · intro z; omega
    · exact dnF_tru ⟨fun z => by have := (nI_eq (b := 10) (by omega) (by decide)).mp z; omega, fun z => by have := (nI_eq (b := 11) (by omega) (by decide)).mp z; omega, fun z => by have := (nI_eq (b := 12) (by omega) (by decide)).mp z; omega⟩ _ _
    · intro z; omega
    · exact dnF_tru ⟨fun z => by have := (nI_eq (b := 10) (by omega) (by decide)).mp z; omega, fun z => by have := (nI_eq (b := 11) (by omega) (by decide)).mp z; omega, fun z => by have := (nI_eq (b := 12) (by omega) (by decide)).mp z; omega⟩ _ _
    · exact fun _ => ⟨hx, hy⟩
