/-! 99.s9: the class reads a law -/
section CL
variable {u : Wd} {t : Nat → Nat} {n : Nat}
theorem rd_lay {c : Nat} {s : pst} (b : psB s = 0) : rdS t n (lay c s) = lay c (rdS t n s) := by
  have b' : psB (rdS t n s) = 0 := b
  rw [lay_l b, lay_l b']
  rfl
theorem cv_n (v : Nat) : cvS (1000 + v) = v := by
  unfold cvS
  rw [if_pos (by omega)]
  omega
theorem cv_w {w : Nat} (h : w < 8) : cvS (100 + w) = 1000 + w := by
  unfold cvS
  rw [if_neg (by omega), if_pos (by omega)]
  omega
theorem tst_end {p : Nat} (h : n ≤ p) (hp : p ≤ n) : txK t n p = 0 := by
  have := txB_in (t := t) hp
  unfold txK
  exact if_neg (by omega)
theorem q_aG (M : RrS u) (T : TPc u t n) : ∀ f q s z K, q < 3 → IVs n s → fuA s q f → CZ u z t n s → (psB (aG t n f q s) = 0 → txK t n (psP (aG t n f q s)) ≠ 3 → ∀ z', CZ u z' t n (aG t n f q s) → K (1 : Int32) z') → (∀ k pl, DDp t n (aG t n f q s) k pl → ∀ z', CFa u z' k pl → K 0 z') → wG_X7_readAtom f q 238 (nI (psD s)) K z := by
  have hn := T.1
  intro f
  induction f with
  | zero => intro q s z K hq V h; unfold fuA at h; exfalso; have := rk_1 q; omega
  | succ f ih =>
    intro q s z K hq V h C hy hx
    have hy' : psB (if q = 0 then bAt t n (aG t n f) s else if q = 1 then bSu t n (aG t n f) s else bTe t n (aG t n f) s) = 0 → txK t n (psP (if q = 0 then bAt t n (aG t n f) s else if q = 1 then bSu t n (aG t n f) s else bTe t n (aG t n f) s)) ≠ 3 → ∀ z', CZ u z' t n (if q = 0 then bAt t n (aG t n f) s else if q = 1 then bSu t n (aG t n f) s else bTe t n (aG t n f) s) → K (1 : Int32) z' := hy
    have hx' : ∀ k pl, DDp t n (if q = 0 then bAt t n (aG t n f) s else if q = 1 then bSu t n (aG t n f) s else bTe t n (aG t n f) s) k pl → ∀ z', CFa u z' k pl → K 0 z' := hx
    show (if q = 0 then b_X7_readAtom (wG_X7_readAtom f) 238 (nI (psD s)) K z else if q = 1 then b_X7_readSum (wG_X7_readAtom f) 238 (nI (psD s)) K z else b_X7_readTerm (wG_X7_readAtom f) 238 (nI (psD s)) K z)
    have b := C.1
    have v := V.2 b
    by_cases q0 : q = 0
    · subst q0
      rw [if_pos rfl]
      rw [if_pos rfl] at hy' hx'
      unfold bAt at hy' hx'
      rw [if_pos b] at hy' hx'
      have h' : 3 * (7 - psD s) + 1 ≤ f + 1 := by
        unfold fuA at h
        rw [if_pos b, rk_v.1] at h
        exact h
      refine ⟨CZ_1 M C, ct_sg (c := 40) M T C.2.1 (by decide) (by decide) ?_⟩
      have te := txE_in (t := t) v.2.1
      have tb := txB_in (t := t) v.2.1
      by_cases k : txK t n (psP s) = 40
      · have nn : ¬ nmW t n (psP s) < 8 := fun y => by have := nmW_1 y; omega
        rw [if_neg nn, if_pos k] at hy' hx'
        rw [decide_eq_true k]
        have gV := (gin_IV (t := t) b V (by omega)).1
        have gd : psD (gin t n s) = psD s + 1 := gin_D
        have fu : fuA (gin t n s) 1 f := by
          unfold fuA
          rw [rk_v.2.1, gd]
          split <;> omega
        have dd : ∀ k pl, DDp t n (gin t n s) k pl → ∀ z', CFa u z' k pl → K 0 z' := fun k pl D => hx' k pl (DD_out (DD_mS (by decide) (DD_aG (by decide) gV fu D)))
        refine br_f (by decide) ⟨CZ_1 M C, cz_gin M T C v.1 (fun bg kg z1 C1 => br_f (by decide) ⟨CZ_1 M C1, ?_⟩) (fun k pl D z' F => br_t rfl (dd k pl D z' F)) dd⟩
        rw [show (nI (psD s) + 1 : Int32) = nI (psD (gin t n s)) from by rw [gd]; exact nI_add _ 1]
        refine ih 1 (gin t n s) z1 _ (by decide) gV fu C1 (fun b2 k2 z2 C2 => br_f (by decide) ⟨CZ_1 M C2, cz_exs (c := 41) M T C2 (by decide) (by decide) (fun b3 k3 z3 C3 => br_f (by decide) (hy' b3 k3 z3 C3)) (fun k pl D z' F => br_t rfl (hx' k pl (DD_out D) z' F))⟩) (fun k pl D z' F => br_t rfl (hx' k pl (DD_out (DD_mS (by decide) D)) z' F))
      · rw [decide_eq_false k]
        refine br_t rfl ⟨CZ_1 M C, ?_⟩
        have em : ∀ c x, x = nI (cvS c) → txK t n (psP s) ≠ 0 → (psB (lay c (rdS t n s)) = 0 → txK t n (psP (lay c (rdS t n s))) ≠ 3 → ∀ z', CZ u z' t n (lay c (rdS t n s)) → K (1 : Int32) z') → (∀ k pl, DDp t n (lay c (rdS t n s)) k pl → ∀ z', CFa u z' k pl → K 0 z') → (0 : Int32) ≤ x → j_X7_readAtom_68 (wG_X7_readAtom f) K 238 x z := fun c x ex k0 hy2 hx2 x0 => by
          subst ex
          have te3 := te.2.2 k0
          refine br_t x0 ⟨CZ_1 M C, cz_emit M C (by omega) (fun z1 C1 => ⟨CZ_1 M C1, ?_⟩)⟩
          rw [← rd_lay b] at hy2 hx2
          exact cz_adv M T C1 (fun k z' C' => ⟨Or.inr rfl, hy2 (by rw [rd_lay b, lay_B]; exact b) k z' C'⟩) (fun k pl D z' F => ⟨Or.inl rfl, hx2 k pl D z' F⟩)
        have c8 := C.2.1.2.2.2.2.2.2.2
        by_cases k2 : txK t n (psP s) = 2
        · have nn : ¬ nmW t n (psP s) < 8 := fun y => by have := nmW_1 y; omega
          rw [if_neg nn, if_neg k] at hy' hx'
          have v2 := (txK_2 k2).2.2.2
          have eS : numS t n 0 1000 s = rdS t n s := by
            unfold numS
            rw [if_pos b, if_pos k2, if_pos ⟨Nat.zero_le _, by omega⟩]
          have eV : numV t n 0 1000 s = txV t n (psP s) := by
            unfold numV
            exact if_pos ⟨b, k2, Nat.zero_le _, by omega⟩
          rw [eS, eV] at hy' hx'
          refine br_t (c8.1.trans (ckI_1.mpr k2)) ?_
          rw [c8.2, if_pos k2]
          exact em (1000 + txV t n (psP s)) _ (by rw [cv_n]) (by omega) hy' hx' (nI_le (a := 0) (Nat.zero_le _) (by omega))
        · refine br_f (fun y => k2 (ckI_1.mp (c8.1.symm.trans y))) (cz_name M T C ?_)
          by_cases nn : nmW t n (psP s) < 8
          · have k1 := nmW_1 nn
            rw [if_pos nn] at hy' hx'
            rw [if_pos nn]
            exact em (100 + nmW t n (psP s)) _ (by rw [cv_w nn]) (by omega) hy' hx' (nI_le (a := 0) (Nat.zero_le _) (by omega))
          · rw [if_neg nn, if_neg k] at hy' hx'
            rw [if_neg nn]
            have eS : numS t n 0 1000 s = blm t n 2 s := by
              unfold numS
              rw [if_pos b, if_neg k2]
            rw [eS] at hx'
            exact br_f (by decide) ⟨CZ_1 M C, ct_ref1 (k := 2) M C.2.1 (fun z' F => hx' 2 _ (DD_lay (DD_blm b C.2.1.2.2.2.2.1 (by decide))) z' F)⟩
    · rw [if_neg q0]
      rw [if_neg q0] at hy' hx'
      by_cases q1 : q = 1
      · subst q1
        rw [if_pos rfl]
        rw [if_pos rfl] at hy' hx'
        have fu : ∀ s1, psD s1 = psD s → fuA s1 2 f := fun s1 e1 => by
          unfold fuA at h ⊢
          rw [if_pos b, rk_v.2.1] at h
          rw [rk_v.2.2, e1]
          split <;> omega
        have tT : ∀ s, (isSg t n 43 s || isSg t n 45 s) = true → psB s = 0 ∧ txK t n (psP s) ≠ 3 := fun s y => by
          rcases Bool.or_eq_true_iff.mp y with y | y
          · exact sg_T3 (by decide) y
          · exact sg_T3 (by decide) y
        have lp : ∀ F s1 z i, n < F + psP s1 → i ≤ psP s1 → psD s1 = psD s → IVs n s1 → CZ u z t n s1 → (psB (lpX t n (fun s => isSg t n 43 s || isSg t n 45 s) (fun s => if txK t n (psP s) = 43 then 10 else 11) (aG t n f 2) F s1) = 0 → txK t n (psP (lpX t n (fun s => isSg t n 43 s || isSg t n 45 s) (fun s => if txK t n (psP s) = 43 then 10 else 11) (aG t n f 2) F s1)) ≠ 3 → ∀ z', CZ u z' t n (lpX t n (fun s => isSg t n 43 s || isSg t n 45 s) (fun s => if txK t n (psP s) = 43 then 10 else 11) (aG t n f 2) F s1) → K (1 : Int32) z') → (∀ k pl, DDp t n (lpX t n (fun s => isSg t n 43 s || isSg t n 45 s) (fun s => if txK t n (psP s) = 43 then 10 else 11) (aG t n f 2) F s1) k pl → ∀ z', CFa u z' k pl → K 0 z') → l_X7_readSum_12 (wG_X7_readAtom f) K (F + 1) 238 (nI (psD s)) (nI i) z := by
          intro F
          induction F with
          | zero =>
            intro s1 z i e1 e2 e3 V1 C1
            have := (V1.2 C1.1).2.1
            omega
          | succ F ihF =>
            intro s1 z i e1 e2 e3 V1 C1 hy1 hx1
            have v1 := V1.2 C1.1
            have no : (isSg t n 43 s1 || isSg t n 45 s1) = false → K 1 z := fun y => by
              rw [lpX_d y] at hy1
              exact hy1 C1.1 C1.2.1.2.2.2.2.1 z C1
            have sg : ∀ c, isSg t n c s1 = decide (txK t n (psP s1) = c) := fun c => isSg_l C1.1
            by_cases i9 : 900 ≤ i
            · refine br_t (nI_le (a := 900) i9 (by omega)) (no ?_)
              rw [sg, sg, tst_end (by omega) v1.2.1]
              decide
            · refine br_f (nI_ge (b := 900) (by omega) (by decide)) ⟨CZ_1 M C1, ?_⟩
              have step : ∀ c x, (c = 10 ∨ c = 11) → x = nI (cvS c) → txK t n (psP s1) ≠ 0 → (isSg t n 43 s1 || isSg t n 45 s1) = true → (if txK t n (psP s1) = 43 then 10 else 11) = c → j_X7_readSum_55 (wG_X7_readAtom f) (l_X7_readSum_12 (wG_X7_readAtom f) K (F + 1)) K 238 (nI (psD s)) (nI i) x z := fun c x hc ex k0 tt ec => by
                subst ex
                have rV := rd_IV (t := t) C1.1 V1 k0
                have fr := fu (rdS t n s1) e3
                have aV := aG_IV (t := t) (q := 2) (by decide) rV.1 fr
                have aD := aG_D2 (t := t) (q := 2) (by decide) rV.1 fr
                have el : lpX t n (fun s => isSg t n 43 s || isSg t n 45 s) (fun s => if txK t n (psP s) = 43 then 10 else 11) (aG t n f 2) (F + 1) s1 = lpX t n (fun s => isSg t n 43 s || isSg t n 45 s) (fun s => if txK t n (psP s) = 43 then 10 else 11) (aG t n f 2) F (lay c (aG t n f 2 (rdS t n s1))) := by
                  show (if (isSg t n 43 s1 || isSg t n 45 s1) = true then lpX t n (fun s => isSg t n 43 s || isSg t n 45 s) (fun s => if txK t n (psP s) = 43 then 10 else 11) (aG t n f 2) F (lay (if txK t n (psP s1) = 43 then 10 else 11) (aG t n f 2 (rdS t n s1))) else s1) = _
                  rw [if_pos tt, ec]
                rw [el] at hy1 hx1
                have dd : ∀ k pl, DDp t n (aG t n f 2 (rdS t n s1)) k pl → ∀ z', CFa u z' k pl → K 0 z' := fun k pl D => hx1 k pl (DD_lpX tT (DD_lay D))
                refine ⟨CZ_1 M C1, cz_adv M T C1 (fun k2 z2 C2 => br_f (by decide) ⟨CZ_1 M C2, ?_⟩) (fun k pl D z' F => br_t rfl (dd k pl (DD_aG (by decide) rV.1 fr D) z' F))⟩
                have ii := ih 2 (rdS t n s1) z2 (fun r19 w20 => ((r19 = 0 → K 0 w20) ∧ (¬ r19 = 0 → isK w20 238 7 ∧ w_X7_emit 238 (nI (cvS c)) (fun w23 => l_X7_readSum_12 (wG_X7_readAtom f) K (F + 1) 238 (nI (psD s)) (nI i + 1) w23) w20))) (by decide) rV.1 fr C2
                rw [show psD (rdS t n s1) = psD s from e3] at ii
                refine ii (fun b3 k3 z3 C3 => br_f (by decide) ⟨CZ_1 M C3, ?_⟩) (fun k pl D z' F => br_t rfl (dd k pl D z' F))
                have a2 := aV.2 b3
                have a1 := aV.1.2 b3
                have e4 : psG (rdS t n s1) 3 = psG s1 3 := rfl
                refine cz_emit M C3 (by omega) (fun z4 C4 => ?_)
                rw [show (nI i + 1 : Int32) = nI (i + 1) from nI_add i 1]
                exact ihF _ z4 (i + 1) (by rw [lay_P]; omega) (by rw [lay_P]; omega) (by rw [lay_D]; exact aD.trans e3) (lay_IV aV.1 (fun _ => by omega)) C4 hy1 hx1
              refine ct_sg (c := 43) M T C1.2.1 (by decide) (by decide) ?_
              by_cases c43 : txK t n (psP s1) = 43
              · rw [decide_eq_true c43]
                refine br_f (by decide) ⟨CZ_1 M C1, ct_sg (c := 43) M T C1.2.1 (by decide) (by decide) ?_⟩
                rw [decide_eq_true c43]
                exact br_f (by decide) (step 10 2000 (Or.inl rfl) rfl (by omega) (by rw [sg, decide_eq_true c43]; rfl) (if_pos c43))
              · rw [decide_eq_false c43]
                refine br_t rfl ⟨CZ_1 M C1, ct_sg (c := 45) M T C1.2.1 (by decide) (by decide) ?_⟩
                by_cases c45 : txK t n (psP s1) = 45
                · rw [decide_eq_true c45]
                  refine br_f (by decide) ⟨CZ_1 M C1, ct_sg (c := 43) M T C1.2.1 (by decide) (by decide) ?_⟩
                  rw [decide_eq_false c43]
                  exact br_t rfl (step 11 2001 (Or.inr rfl) rfl (by omega) (by rw [sg, sg, decide_eq_true c45, Bool.or_true]) (if_neg c43))
                · rw [decide_eq_false c45]
                  exact br_t rfl (no (by rw [sg, sg, decide_eq_false c43, decide_eq_false c45]; rfl))
        have fs := fu s rfl
        have aV := aG_IV (t := t) (q := 2) (by decide) V fs
        refine ⟨CZ_1 M C, ih 2 s z _ (by decide) V fs C (fun b1 k1 z1 C1 => br_f (by decide) ⟨902, lp 901 _ z1 0 (by omega) (Nat.zero_le _) (aG_D2 (by decide) V fs) aV.1 C1 hy' hx'⟩) (fun k pl D z' F => br_t rfl (hx' k pl (DD_lpX tT D) z' F))⟩
      · rw [if_neg q1]
        rw [if_neg q1] at hy' hx'
        have q2 : q = 2 := by omega
        subst q2
        have fu : ∀ s1, psD s1 = psD s → fuA s1 0 f := fun s1 e1 => by
          unfold fuA at h ⊢
          rw [if_pos b, rk_v.2.2] at h
          rw [rk_v.1, e1]
          split <;> omega
        have tT : ∀ s, isSg t n 42 s = true → psB s = 0 ∧ txK t n (psP s) ≠ 3 := fun s y => sg_T3 (by decide) y
        have lp : ∀ F s1 z i, n < F + psP s1 → i ≤ psP s1 → psD s1 = psD s → IVs n s1 → CZ u z t n s1 → (psB (lpX t n (isSg t n 42) (fun _ => 12) (aG t n f 0) F s1) = 0 → txK t n (psP (lpX t n (isSg t n 42) (fun _ => 12) (aG t n f 0) F s1)) ≠ 3 → ∀ z', CZ u z' t n (lpX t n (isSg t n 42) (fun _ => 12) (aG t n f 0) F s1) → K (1 : Int32) z') → (∀ k pl, DDp t n (lpX t n (isSg t n 42) (fun _ => 12) (aG t n f 0) F s1) k pl → ∀ z', CFa u z' k pl → K 0 z') → l_X7_readTerm_12 (wG_X7_readAtom f) K (F + 1) 238 (nI (psD s)) (nI i) z := by
          intro F
          induction F with
          | zero =>
            intro s1 z i e1 e2 e3 V1 C1
            have := (V1.2 C1.1).2.1
            omega
          | succ F ihF =>
            intro s1 z i e1 e2 e3 V1 C1 hy1 hx1
            have v1 := V1.2 C1.1
            have no : isSg t n 42 s1 = false → K 1 z := fun y => by
              rw [lpX_d y] at hy1
              exact hy1 C1.1 C1.2.1.2.2.2.2.1 z C1
            have sg : ∀ c, isSg t n c s1 = decide (txK t n (psP s1) = c) := fun c => isSg_l C1.1
            by_cases i9 : 900 ≤ i
            · refine br_t (nI_le (a := 900) i9 (by omega)) (no ?_)
              rw [sg, tst_end (by omega) v1.2.1]
              decide
            · refine br_f (nI_ge (b := 900) (by omega) (by decide)) ⟨CZ_1 M C1, ct_sg (c := 42) M T C1.2.1 (by decide) (by decide) ?_⟩
              by_cases c42 : txK t n (psP s1) = 42
              · rw [decide_eq_true c42]
                have tt : isSg t n 42 s1 = true := by rw [sg]; exact decide_eq_true c42
                have rV := rd_IV (t := t) C1.1 V1 (by omega)
                have fr := fu (rdS t n s1) e3
                have aV := aG_IV (t := t) (q := 0) (by decide) rV.1 fr
                have aD := aG_D2 (t := t) (q := 0) (by decide) rV.1 fr
                have el : lpX t n (isSg t n 42) (fun _ => 12) (aG t n f 0) (F + 1) s1 = lpX t n (isSg t n 42) (fun _ => 12) (aG t n f 0) F (lay 12 (aG t n f 0 (rdS t n s1))) := by
                  show (if isSg t n 42 s1 = true then _ else s1) = _
                  rw [if_pos tt]
                rw [el] at hy1 hx1
                have dd : ∀ k pl, DDp t n (aG t n f 0 (rdS t n s1)) k pl → ∀ z', CFa u z' k pl → K 0 z' := fun k pl D => hx1 k pl (DD_lpX tT (DD_lay D))
                refine br_f (by decide) ⟨CZ_1 M C1, cz_adv M T C1 (fun k2 z2 C2 => br_f (by decide) ⟨CZ_1 M C2, ?_⟩) (fun k pl D z' F => br_t rfl (dd k pl (DD_aG (by decide) rV.1 fr D) z' F))⟩
                have ii := ih 0 (rdS t n s1) z2 (fun r15 w16 => ((r15 = 0 → K 0 w16) ∧ (¬ r15 = 0 → isK w16 238 7 ∧ w_X7_emit 238 2002 (fun w19 => l_X7_readTerm_12 (wG_X7_readAtom f) K (F + 1) 238 (nI (psD s)) (nI i + 1) w19) w16))) (by decide) rV.1 fr C2
                rw [show psD (rdS t n s1) = psD s from e3] at ii
                refine ii (fun b3 k3 z3 C3 => br_f (by decide) ⟨CZ_1 M C3, ?_⟩) (fun k pl D z' F => br_t rfl (dd k pl D z' F))
                have a2 := aV.2 b3
                have a1 := aV.1.2 b3
                have e4 : psG (rdS t n s1) 3 = psG s1 3 := rfl
                refine cz_emit (c := 12) M C3 (by omega) (fun z4 C4 => ?_)
                rw [show (nI i + 1 : Int32) = nI (i + 1) from nI_add i 1]
                exact ihF _ z4 (i + 1) (by rw [lay_P]; omega) (by rw [lay_P]; omega) (by rw [lay_D]; exact aD.trans e3) (lay_IV aV.1 (fun _ => by omega)) C4 hy1 hx1
              · rw [decide_eq_false c42]
                exact br_t rfl (no (by rw [sg]; exact decide_eq_false c42))
        have fs := fu s rfl
        have aV := aG_IV (t := t) (q := 0) (by decide) V fs
        refine ⟨CZ_1 M C, ih 0 s z _ (by decide) V fs C (fun b1 k1 z1 C1 => br_f (by decide) ⟨902, lp 901 _ z1 0 (by omega) (Nat.zero_le _) (aG_D2 (by decide) V fs) aV.1 C1 hy' hx'⟩) (fun k pl D z' F => br_t rfl (hx' k pl (DD_lpX tT D) z' F))⟩
theorem q_sum {s : pst} {z : Wd} {K : Int32 → Wd → Prop} (M : RrS u) (T : TPc u t n) (V : IVs n s) (C : CZ u z t n s) (hy : psB (aG t n 30 1 s) = 0 → txK t n (psP (aG t n 30 1 s)) ≠ 3 → ∀ z', CZ u z' t n (aG t n 30 1 s) → K 1 z') (hx : ∀ k pl, DDp t n (aG t n 30 1 s) k pl → ∀ z', CFa u z' k pl → K 0 z') : w_X7_readSum 238 (nI (psD s)) K z := ⟨30, by decide, q_aG M T 30 1 s z K (by decide) V (fu30 V) C hy hx⟩
end CL
