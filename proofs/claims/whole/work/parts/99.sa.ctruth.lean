/-! 99.sa: the class reads a truth -/
section CU
variable {u : Wd} {t : Nat → Nat} {n : Nat}
theorem q_uG (M : RrS u) (T : TPc u t n) : ∀ f q s z K, q < 3 → IVs n s → fuU s q f → CZ u z t n s → (psB (uG t n f q s) = 0 → txK t n (psP (uG t n f q s)) ≠ 3 → ∀ z', CZ u z' t n (uG t n f q s) → K (1 : Int32) z') → (∀ k pl, DDp t n (uG t n f q s) k pl → ∀ z', CFa u z' k pl → K 0 z') → wG_X7_readBoth f q 238 (nI (psD s)) K z := by
  have hn := T.1
  intro f
  induction f with
  | zero => intro q s z K hq V h; unfold fuU at h; exfalso; have := rkU_1 q; omega
  | succ f ih =>
    intro q s z K hq V h C hy hx
    have hy' : psB (if q = 0 then bBo t n (uG t n f) s else if q = 1 then bTr t n (uG t n f) s else bUn t n (uG t n f) s) = 0 → txK t n (psP (if q = 0 then bBo t n (uG t n f) s else if q = 1 then bTr t n (uG t n f) s else bUn t n (uG t n f) s)) ≠ 3 → ∀ z', CZ u z' t n (if q = 0 then bBo t n (uG t n f) s else if q = 1 then bTr t n (uG t n f) s else bUn t n (uG t n f) s) → K (1 : Int32) z' := hy
    have hx' : ∀ k pl, DDp t n (if q = 0 then bBo t n (uG t n f) s else if q = 1 then bTr t n (uG t n f) s else bUn t n (uG t n f) s) k pl → ∀ z', CFa u z' k pl → K 0 z' := hx
    show (if q = 0 then b_X7_readBoth (wG_X7_readBoth f) 238 (nI (psD s)) K z else if q = 1 then b_X7_readTruth (wG_X7_readBoth f) 238 (nI (psD s)) K z else b_X7_readUnit (wG_X7_readBoth f) 238 (nI (psD s)) K z)
    have b := C.1
    have v := V.2 b
    by_cases q0 : q = 0
    · subst q0
      rw [if_pos rfl]
      rw [if_pos rfl] at hy' hx'
      · have fu : ∀ s1, psD s1 = psD s → fuU s1 2 f := fun s1 e1 => by
          unfold fuU at h ⊢
          rw [if_pos b, rkU_v.2.1] at h
          rw [rkU_v.1, e1]
          split <;> omega
        have tT : ∀ s, isWd t n 22 s = true → psB s = 0 ∧ txK t n (psP s) ≠ 3 := fun s y => wd_T3 y
        have lp : ∀ F s1 z i, n < F + psP s1 → i ≤ psP s1 → psD s1 = psD s → IVs n s1 → CZ u z t n s1 → (psB (lpX t n (isWd t n 22) (fun _ => 16) (uG t n f 2) F s1) = 0 → txK t n (psP (lpX t n (isWd t n 22) (fun _ => 16) (uG t n f 2) F s1)) ≠ 3 → ∀ z', CZ u z' t n (lpX t n (isWd t n 22) (fun _ => 16) (uG t n f 2) F s1) → K (1 : Int32) z') → (∀ k pl, DDp t n (lpX t n (isWd t n 22) (fun _ => 16) (uG t n f 2) F s1) k pl → ∀ z', CFa u z' k pl → K 0 z') → l_X7_readBoth_12 (wG_X7_readBoth f) K (F + 1) 238 (nI (psD s)) (nI i) z := by
          intro F
          induction F with
          | zero =>
            intro s1 z i e1 e2 e3 V1 C1
            have := (V1.2 C1.1).2.1
            omega
          | succ F ihF =>
            intro s1 z i e1 e2 e3 V1 C1 hy1 hx1
            have v1 := V1.2 C1.1
            have no : isWd t n 22 s1 = false → K 1 z := fun y => by
              rw [lpX_d y] at hy1
              exact hy1 C1.1 C1.2.1.2.2.2.2.1 z C1
            by_cases i9 : 900 ≤ i
            · refine br_t (nI_le (a := 900) i9 (by omega)) (no ?_)
              cases y : isWd t n 22 s1
              · rfl
              · have y2 := (isWd_T y).2
                rw [tst_end (by omega) v1.2.1] at y2
                exact absurd rfl y2
            · refine br_f (nI_ge (b := 900) (by omega) (by decide)) ⟨CZ_1 M C1, ct_wd (a := 22) M T C1.2.1 (by decide) ?_⟩
              cases tw : isW t n (psP s1) 22
              · exact br_t rfl (no (by rw [isWd_l C1.1]; exact tw))
              · have tt : isWd t n 22 s1 = true := by rw [isWd_l C1.1]; exact tw
                have rV := rd_IV (t := t) C1.1 V1 (isWd_T tt).2
                have fr := fu (rdS t n s1) e3
                have aV := uG_IV (t := t) (q := 2) (by decide) rV.1 fr
                have aD := uG_D2 (t := t) (q := 2) (by decide) rV.1 fr
                have el : lpX t n (isWd t n 22) (fun _ => 16) (uG t n f 2) (F + 1) s1 = lpX t n (isWd t n 22) (fun _ => 16) (uG t n f 2) F (lay 16 (uG t n f 2 (rdS t n s1))) := by
                  show (if isWd t n 22 s1 = true then _ else s1) = _
                  rw [if_pos tt]
                rw [el] at hy1 hx1
                have dd : ∀ k pl, DDp t n (uG t n f 2 (rdS t n s1)) k pl → ∀ z', CFa u z' k pl → K 0 z' := fun k pl D => hx1 k pl (DD_lpX tT (DD_lay D))
                refine br_f (by decide) ⟨CZ_1 M C1, cz_adv M T C1 (fun k2 z2 C2 => br_f (by decide) ⟨CZ_1 M C2, ?_⟩) (fun k pl D z' F => br_t rfl (dd k pl (DD_uG (by decide) rV.1 fr D) z' F))⟩
                have ii := ih 2 (rdS t n s1) z2 (fun r15 w16 => ((r15 = 0 → K 0 w16) ∧ (¬ r15 = 0 → isK w16 238 7 ∧ w_X7_emit 238 2006 (fun w19 => l_X7_readBoth_12 (wG_X7_readBoth f) K (F + 1) 238 (nI (psD s)) (nI i + 1) w19) w16))) (by decide) rV.1 fr C2
                rw [show psD (rdS t n s1) = psD s from e3] at ii
                refine ii (fun b3 k3 z3 C3 => br_f (by decide) ⟨CZ_1 M C3, ?_⟩) (fun k pl D z' F => br_t rfl (dd k pl D z' F))
                have a2 := aV.2 b3
                have a1 := aV.1.2 b3
                have e4 : psG (rdS t n s1) 3 = psG s1 3 := rfl
                refine cz_emit (c := 16) M C3 (by omega) (fun z4 C4 => ?_)
                rw [show (nI i + 1 : Int32) = nI (i + 1) from nI_add i 1]
                exact ihF _ z4 (i + 1) (by rw [lay_P]; omega) (by rw [lay_P]; omega) (by rw [lay_D]; exact aD.trans e3) (lay_IV aV.1 (fun _ => by omega)) C4 hy1 hx1
        have fs := fu s rfl
        have aV := uG_IV (t := t) (q := 2) (by decide) V fs
        refine ⟨CZ_1 M C, ih 2 s z _ (by decide) V fs C (fun b1 k1 z1 C1 => br_f (by decide) ⟨902, lp 901 _ z1 0 (by omega) (Nat.zero_le _) (uG_D2 (by decide) V fs) aV.1 C1 hy' hx'⟩) (fun k pl D z' F => br_t rfl (hx' k pl (DD_lpX tT D) z' F))⟩

    · rw [if_neg q0]
      rw [if_neg q0] at hy' hx'
      by_cases q1 : q = 1
      · subst q1
        rw [if_pos rfl]
        rw [if_pos rfl] at hy' hx'
        have fu : ∀ s1, psD s1 = psD s → fuU s1 0 f := fun s1 e1 => by
          unfold fuU at h ⊢
          rw [if_pos b, rkU_v.2.2] at h
          rw [rkU_v.2.1, e1]
          split <;> omega
        have tT : ∀ s, isWd t n 23 s = true → psB s = 0 ∧ txK t n (psP s) ≠ 3 := fun s y => wd_T3 y
        have lp : ∀ F s1 z i, n < F + psP s1 → i ≤ psP s1 → psD s1 = psD s → IVs n s1 → CZ u z t n s1 → (psB (lpX t n (isWd t n 23) (fun _ => 17) (uG t n f 0) F s1) = 0 → txK t n (psP (lpX t n (isWd t n 23) (fun _ => 17) (uG t n f 0) F s1)) ≠ 3 → ∀ z', CZ u z' t n (lpX t n (isWd t n 23) (fun _ => 17) (uG t n f 0) F s1) → K (1 : Int32) z') → (∀ k pl, DDp t n (lpX t n (isWd t n 23) (fun _ => 17) (uG t n f 0) F s1) k pl → ∀ z', CFa u z' k pl → K 0 z') → l_X7_readTruth_12 (wG_X7_readBoth f) K (F + 1) 238 (nI (psD s)) (nI i) z := by
          intro F
          induction F with
          | zero =>
            intro s1 z i e1 e2 e3 V1 C1
            have := (V1.2 C1.1).2.1
            omega
          | succ F ihF =>
            intro s1 z i e1 e2 e3 V1 C1 hy1 hx1
            have v1 := V1.2 C1.1
            have no : isWd t n 23 s1 = false → K 1 z := fun y => by
              rw [lpX_d y] at hy1
              exact hy1 C1.1 C1.2.1.2.2.2.2.1 z C1
            by_cases i9 : 900 ≤ i
            · refine br_t (nI_le (a := 900) i9 (by omega)) (no ?_)
              cases y : isWd t n 23 s1
              · rfl
              · have y2 := (isWd_T y).2
                rw [tst_end (by omega) v1.2.1] at y2
                exact absurd rfl y2
            · refine br_f (nI_ge (b := 900) (by omega) (by decide)) ⟨CZ_1 M C1, ct_wd (a := 23) M T C1.2.1 (by decide) ?_⟩
              cases tw : isW t n (psP s1) 23
              · exact br_t rfl (no (by rw [isWd_l C1.1]; exact tw))
              · have tt : isWd t n 23 s1 = true := by rw [isWd_l C1.1]; exact tw
                have rV := rd_IV (t := t) C1.1 V1 (isWd_T tt).2
                have fr := fu (rdS t n s1) e3
                have aV := uG_IV (t := t) (q := 0) (by decide) rV.1 fr
                have aD := uG_D2 (t := t) (q := 0) (by decide) rV.1 fr
                have el : lpX t n (isWd t n 23) (fun _ => 17) (uG t n f 0) (F + 1) s1 = lpX t n (isWd t n 23) (fun _ => 17) (uG t n f 0) F (lay 17 (uG t n f 0 (rdS t n s1))) := by
                  show (if isWd t n 23 s1 = true then _ else s1) = _
                  rw [if_pos tt]
                rw [el] at hy1 hx1
                have dd : ∀ k pl, DDp t n (uG t n f 0 (rdS t n s1)) k pl → ∀ z', CFa u z' k pl → K 0 z' := fun k pl D => hx1 k pl (DD_lpX tT (DD_lay D))
                refine br_f (by decide) ⟨CZ_1 M C1, cz_adv M T C1 (fun k2 z2 C2 => br_f (by decide) ⟨CZ_1 M C2, ?_⟩) (fun k pl D z' F => br_t rfl (dd k pl (DD_uG (by decide) rV.1 fr D) z' F))⟩
                have ii := ih 0 (rdS t n s1) z2 (fun r15 w16 => ((r15 = 0 → K 0 w16) ∧ (¬ r15 = 0 → isK w16 238 7 ∧ w_X7_emit 238 2007 (fun w19 => l_X7_readTruth_12 (wG_X7_readBoth f) K (F + 1) 238 (nI (psD s)) (nI i + 1) w19) w16))) (by decide) rV.1 fr C2
                rw [show psD (rdS t n s1) = psD s from e3] at ii
                refine ii (fun b3 k3 z3 C3 => br_f (by decide) ⟨CZ_1 M C3, ?_⟩) (fun k pl D z' F => br_t rfl (dd k pl D z' F))
                have a2 := aV.2 b3
                have a1 := aV.1.2 b3
                have e4 : psG (rdS t n s1) 3 = psG s1 3 := rfl
                refine cz_emit (c := 17) M C3 (by omega) (fun z4 C4 => ?_)
                rw [show (nI i + 1 : Int32) = nI (i + 1) from nI_add i 1]
                exact ihF _ z4 (i + 1) (by rw [lay_P]; omega) (by rw [lay_P]; omega) (by rw [lay_D]; exact aD.trans e3) (lay_IV aV.1 (fun _ => by omega)) C4 hy1 hx1
        have fs := fu s rfl
        have aV := uG_IV (t := t) (q := 0) (by decide) V fs
        refine ⟨CZ_1 M C, ih 0 s z _ (by decide) V fs C (fun b1 k1 z1 C1 => br_f (by decide) ⟨902, lp 901 _ z1 0 (by omega) (Nat.zero_le _) (uG_D2 (by decide) V fs) aV.1 C1 hy' hx'⟩) (fun k pl D z' F => br_t rfl (hx' k pl (DD_lpX tT D) z' F))⟩

      · rw [if_neg q1]
        rw [if_neg q1] at hy' hx'
        have q2 : q = 2 := by omega
        subst q2
        unfold bUn at hy' hx'
        rw [if_pos b] at hy' hx'
        have h' : 3 * (7 - psD s) + 1 ≤ f + 1 := by
          unfold fuU at h
          rw [if_pos b, rkU_v.1] at h
          exact h
        have gd : psD (gin t n s) = psD s + 1 := gin_D
        have fg : ∀ q', fuU (gin t n s) q' f := fun q' => by
          have := rkU_1 q'
          unfold fuU
          rw [gd]
          split <;> omega
        have e1 : (nI (psD s) + 1 : Int32) = nI (psD (gin t n s)) := by rw [gd]; exact nI_add _ 1
        refine ⟨CZ_1 M C, ct_wd (a := 13) M T C.2.1 (by decide) ?_⟩
        cases c1 : isW t n (psP s) 13
        · rw [c1, if_neg bft] at hy' hx'
          refine br_t rfl ⟨CZ_1 M C, ct_sg (c := 91) M T C.2.1 (by decide) (by decide) ?_⟩
          by_cases k : txK t n (psP s) = 91
          · rw [if_pos k] at hy' hx'
            rw [decide_eq_true k]
            have gV := (gin_IV (t := t) b V (by omega)).1
            have dd : ∀ k pl, DDp t n (gin t n s) k pl → ∀ z', CFa u z' k pl → K 0 z' := fun k pl D => hx' k pl (DD_out (DD_mS (by decide) (DD_uG (by decide) gV (fg 1) D)))
            refine br_f (by decide) ⟨CZ_1 M C, cz_gin M T C v.1 (fun bg kg z1 C1 => br_f (by decide) ⟨CZ_1 M C1, ?_⟩) (fun k pl D z' F => br_t rfl (dd k pl D z' F)) dd⟩
            rw [e1]
            exact ih 1 (gin t n s) z1 _ (by decide) gV (fg 1) C1 (fun b2 k2 z2 C2 => br_f (by decide) ⟨CZ_1 M C2, cz_exs (c := 93) M T C2 (by decide) (by decide) (fun b3 k3 z3 C3 => br_f (by decide) (hy' b3 k3 z3 C3)) (fun k pl D z' F => br_t rfl (hx' k pl (DD_out D) z' F))⟩) (fun k pl D z' F => br_t rfl (hx' k pl (DD_out (DD_mS (by decide) D)) z' F))
          · rw [if_neg k] at hy' hx'
            rw [decide_eq_false k]
            have aV := aG_IV (t := t) (q := 1) (by decide) V (fu30 V)
            have aD := aG_D2 (t := t) (q := 1) (by decide) V (fu30 V)
            refine br_t rfl ⟨CZ_1 M C, q_sum M T V C (fun b1 k1 z1 C1 => br_f (by decide) ⟨CZ_1 M C1, cz_cmp M T C1 ?_⟩) (fun kk pl D z' F => br_t rfl (hx' kk pl ?_ z' F))⟩
            · rw [if_pos b1] at hy' hx'
              by_cases c3 : txK t n (psP (aG t n 30 1 s)) = 61 ∨ txK t n (psP (aG t n 30 1 s)) = 60 ∨ txK t n (psP (aG t n 30 1 s)) = 62
              · rw [if_pos c3] at hy' hx'
                have rV := rd_IV (t := t) b1 aV.1 (by omega)
                have aV2 := aG_IV (t := t) (q := 1) (by decide) rV.1 (fu30 rV.1)
                have go : ∀ c x, x = nI (cvS c) → ¬ x = 0 → (if txK t n (psP (aG t n 30 1 s)) = 61 then 13 else if txK t n (psP (aG t n 30 1 s)) = 60 then 14 else 15) = c → ((x = 0 → isK z1 238 7 ∧ w_X7_refuse 238 2 (fun r28 w29 => (r28 = 0 ∨ r28 = 1) ∧ K r28 w29) z1) ∧ (¬ x = 0 → isK z1 238 7 ∧ w_X7_advance 238 (fun r18 w19 => ((r18 = 0 → K 0 w19) ∧ (¬ r18 = 0 → isK w19 238 7 ∧ w_X7_readSum 238 (nI (psD s)) (fun r22 w23 => ((r22 = 0 → K 0 w23) ∧ (¬ r22 = 0 → isK w23 238 7 ∧ w_X7_emit 238 x (fun w26 => K 1 w26) w23))) w19))) z1)) := fun c x ex x0 ec => by
                  rw [ec] at hy' hx'
                  refine br_f x0 ⟨CZ_1 M C1, cz_adv M T C1 (fun k2 z2 C2 => br_f (by decide) ⟨CZ_1 M C2, ?_⟩) (fun kk pl D z' F => br_t rfl (hx' kk pl (DD_lay (DD_aG (by decide) rV.1 (fu30 rV.1) D)) z' F))⟩
                  have ii := q_sum (K := fun r22 w23 => ((r22 = 0 → K 0 w23) ∧ (¬ r22 = 0 → isK w23 238 7 ∧ w_X7_emit 238 x (fun w26 => K 1 w26) w23))) M T rV.1 C2
                  rw [show psD (rdS t n (aG t n 30 1 s)) = psD s from aD] at ii
                  refine ii (fun b3 k3 z3 C3 => br_f (by decide) ⟨CZ_1 M C3, ?_⟩) (fun kk pl D z' F => br_t rfl (hx' kk pl (DD_lay D) z' F))
                  subst ex
                  have a2 := aV2.2 b3
                  have a1 := aV2.1.2 b3
                  have e4 : psG (rdS t n (aG t n 30 1 s)) 3 = psG (aG t n 30 1 s) 3 := rfl
                  have v1 := aV.1.2 b1
                  exact cz_emit M C3 (by omega) (fun z4 C4 => hy' (by rw [lay_B]; exact b3) (by rw [lay_P]; exact k3) z4 C4)
                by_cases k61 : txK t n (psP (aG t n 30 1 s)) = 61
                · rw [if_pos k61]
                  exact go 13 2003 rfl (by decide) (if_pos k61)
                · rw [if_neg k61]
                  by_cases k60 : txK t n (psP (aG t n 30 1 s)) = 60
                  · rw [if_pos k60]
                    exact go 14 2004 rfl (by decide) (by rw [if_neg k61, if_pos k60])
                  · rw [if_neg k60, if_pos (by omega)]
                    exact go 15 2005 rfl (by decide) (by rw [if_neg k61, if_neg k60])
              · rw [if_neg c3] at hy' hx'
                rw [if_neg (by omega), if_neg (by omega), if_neg (by omega)]
                exact br_t rfl ⟨CZ_1 M C1, ct_ref1 (k := 2) M C1.2.1 (fun z' F => hx' 2 _ (DD_blm b1 k1 (by decide)) z' F)⟩
            · rcases D with ⟨d1, d2, d3⟩ | ⟨d1, d2, d3, d4⟩
              · rw [if_neg (by omega)]
                exact Or.inl ⟨d1, d2, d3⟩
              · rw [if_pos d1, if_neg (by omega)]
                have zz := blm_1 (k := 2) d1 d2
                exact Or.inl ⟨zz.1.trans d3.symm, by omega, zz.2.trans d4.symm⟩
        · rw [c1, if_pos rfl] at hy' hx'
          have k1 := isW_1 c1
          have gV := (gin_IV (t := t) b V (by omega)).1
          have uV := uG_IV (t := t) (q := 2) (by decide) gV (fg 2)
          have dd : ∀ k pl, DDp t n (gin t n s) k pl → ∀ z', CFa u z' k pl → K 0 z' := fun k pl D => hx' k pl (DD_out (DD_lay (DD_uG (by decide) gV (fg 2) D)))
          refine br_f (by decide) ⟨CZ_1 M C, cz_gin M T C v.1 (fun bg kg z1 C1 => br_f (by decide) ⟨CZ_1 M C1, ?_⟩) (fun k pl D z' F => br_t rfl (dd k pl D z' F)) dd⟩
          rw [e1]
          refine ih 2 (gin t n s) z1 _ (by decide) gV (fg 2) C1 (fun b2 k2 z2 C2 => br_f (by decide) ⟨CZ_1 M C2, ?_⟩) (fun k pl D z' F => br_t rfl (hx' k pl (DD_out (DD_lay D)) z' F))
          have a2 := uV.2 b2
          have a1 := uV.1.2 b2
          obtain ⟨-, -, eg⟩ := gin_L bg
          have gG : psG (gin t n s) 3 = psG s 3 := by rw [eg]; rfl
          have gP := (gin_IV (t := t) b V (by omega)).2 bg
          refine cz_emit (c := 18) M C2 (by omega) (fun z3 C3 => hy' ?_ ?_ z3 C3)
          · show psB (lay 18 (uG t n f 2 (gin t n s))) = 0
            rw [lay_B]; exact b2
          · show txK t n (psP (lay 18 (uG t n f 2 (gin t n s)))) ≠ 3
            rw [lay_P]; exact k2
theorem q_truth {s : pst} {z : Wd} {K : Int32 → Wd → Prop} (M : RrS u) (T : TPc u t n) (V : IVs n s) (C : CZ u z t n s) (hy : psB (uG t n 30 1 s) = 0 → txK t n (psP (uG t n 30 1 s)) ≠ 3 → ∀ z', CZ u z' t n (uG t n 30 1 s) → K 1 z') (hx : ∀ k pl, DDp t n (uG t n 30 1 s) k pl → ∀ z', CFa u z' k pl → K 0 z') : w_X7_readTruth 238 (nI (psD s)) K z := ⟨30, by decide, q_uG M T 30 1 s z K (by decide) V (fuU30 V) C hy hx⟩
end CU
