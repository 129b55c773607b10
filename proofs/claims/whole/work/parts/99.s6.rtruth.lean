/-! 99.s6: the reference reads a truth -/
section RU
variable {u : Wd} {t : Nat → Nat} {n : Nat}
def rkU (q : Nat) : Nat := if q = 2 then 1 else if q = 0 then 2 else 3
theorem rkU_1 (q : Nat) : 1 ≤ rkU q ∧ rkU q ≤ 3 := by
  unfold rkU
  split
  · omega
  · split <;> omega
theorem rkU_v : rkU 2 = 1 ∧ rkU 0 = 2 ∧ rkU 1 = 3 := by decide
def fuU (s : pst) (q f : Nat) : Prop := (if psB s = 0 then 3 * (7 - psD s) else 0) + rkU q ≤ f
theorem fuU_G {f q : Nat} {s : pst} (h : fuU s q f) (b : psB s = 0) : 1 + 3 * (7 - psD s) + (if q = 2 then 0 else if q = 0 then 1 else 2) ≤ f := by
  unfold fuU rkU at h
  rw [if_pos b] at h
  by_cases q0 : q = 2
  · rw [if_pos q0] at h ⊢; omega
  · rw [if_neg q0] at h ⊢
    by_cases q1 : q = 0
    · rw [if_pos q1] at h ⊢; omega
    · rw [if_neg q1] at h ⊢; omega
theorem uG_D2 {f q : Nat} {s : pst} (hq : q < 3) (V : IVs n s) (h : fuU s q f) : psD (uG t n f q s) = psD s := by
  by_cases b : psB s = 0
  · have v := V.2 b
    exact (uG_G f q s hq v.2.1 v.1 (fuU_G h b)).1
  · rw [uG_d b]
theorem uG_IV {f q : Nat} {s : pst} (hq : q < 3) (V : IVs n s) (h : fuU s q f) : IVs n (uG t n f q s) ∧ (psB (uG t n f q s) = 0 → psB s = 0 ∧ psP s < psP (uG t n f q s) ∧ psG (uG t n f q s) 3 + psP s ≤ psG s 3 + psP (uG t n f q s)) := by
  have e := uG_D2 (t := t) hq V h
  refine ⟨⟨by rw [e]; exact V.1, fun b' => ?_⟩, fun b' => ?_⟩
  · by_cases b : psB s = 0
    · have v := V.2 b
      obtain ⟨a1, a2, a3, a4, -⟩ := ((uG_G f q s hq v.2.1 v.1 (fuU_G h b)).2.2 b).2 b'
      exact ⟨by omega, a2, by omega⟩
    · rw [uG_d b] at b'; exact absurd b' b
  · by_cases b : psB s = 0
    · have v := V.2 b
      obtain ⟨a1, a2, a3, a4, -⟩ := ((uG_G f q s hq v.2.1 v.1 (fuU_G h b)).2.2 b).2 b'
      exact ⟨b, a1, a4⟩
    · rw [uG_d b] at b'; exact absurd b' b
theorem fu30 {s : pst} (V : IVs n s) : fuA s 1 30 := by
  unfold fuA
  rw [rk_v.2.1]
  split <;> omega
theorem r_sum {s : pst} {z : Wd} {K : Wd → Prop} (M : okM u 245) (T : TPt u t n) (V : IVs n s) (R : RZ u z t n s) (hk : ∀ z', RZ u z' t n (aG t n 30 1 s) → K z') : w_X12_readSum 245 K z := ⟨30, by decide, r_aG M T 30 1 s z K (by decide) V (fu30 V) R hk⟩
theorem r_123d {s : pst} {z : Wd} {x : Int32} {P : Nat → Nat → (Wd → Prop) → Wd → Prop} {K : Wd → Prop} (M : okM u 245) (T : TPt u t n) (V : IVs n s) (b : psB s ≠ 0) (R : RZ u z t n s) (hk : ∀ z', RZ u z' t n s → K z') : j_X12_readUnit_123 P K 245 x z := by
  refine ⟨RZ_1 M R, r_sum M T V R (fun z' R' => ?_)⟩
  rw [aG_d b] at R'
  have go : ∀ c, w_X12_laysStep 245 (nI c) K z' := fun c => r_lay M R' (fun y => absurd y b) (by rw [lay_d b]; exact hk)
  exact ⟨fun _ => ⟨RZ_1 M R', go 13⟩, fun _ => ⟨fun _ => ⟨RZ_1 M R', go 14⟩, fun _ => ⟨RZ_1 M R', go 15⟩⟩⟩
theorem r_uG (M : okM u 245) (T : TPt u t n) : ∀ f q s z K, q < 3 → IVs n s → fuU s q f → RZ u z t n s → (∀ z', RZ u z' t n (uG t n f q s) → K z') → wG_X12_readBoth f q 245 K z := by
  have hn := T.1
  intro f
  induction f with
  | zero => intro q s z K hq V h; unfold fuU at h; exfalso; have := rkU_1 q; omega
  | succ f ih =>
    intro q s z K hq V h R hk
    have hk' : ∀ z', RZ u z' t n (if q = 0 then bBo t n (uG t n f) s else if q = 1 then bTr t n (uG t n f) s else bUn t n (uG t n f) s) → K z' := hk
    show (if q = 0 then b_X12_readBoth (wG_X12_readBoth f) 245 K z else if q = 1 then b_X12_readTruth (wG_X12_readBoth f) 245 K z else b_X12_readUnit (wG_X12_readBoth f) 245 K z)
    have fu : ∀ q' s1, rkU q' < rkU q → psD s1 = psD s → (psB s1 = 0 → psB s = 0) → fuU s1 q' f := fun q' s1 hr e1 e2 => by
      unfold fuU at h ⊢
      rw [e1]
      by_cases b1 : psB s1 = 0
      · rw [if_pos (e2 b1)] at h; rw [if_pos b1]; omega
      · rw [if_neg b1]; omega
    by_cases q0 : q = 0
    · subst q0
      rw [if_pos rfl]
      rw [if_pos rfl] at hk'
      have fu2 : ∀ s1, psD s1 = psD s → (psB s1 = 0 → psB s = 0) → fuU s1 2 f := fun s1 => fu 2 s1 (by decide)
      have lp : ∀ F s1 z, psD s1 = psD s → (psB s1 = 0 → psB s = 0 ∧ n < F + psP s1) → IVs n s1 → RZ u z t n s1 → (∀ z', RZ u z' t n (lpX t n (isWd t n 22) (fun _ => 16) (uG t n f 2) F s1) → K z') → l_X12_readBoth_4 (wG_X12_readBoth f) K (F + 1) 245 z := by
        intro F
        induction F with
        | zero =>
          intro s1 z e1 e2 V1 R1 k1
          have b1 : psB s1 ≠ 0 := fun y => by
            have := (V1.2 y).2.1
            have := (e2 y).2
            omega
          exact ⟨RZ_1 M R1, r_took M T R1 (by decide) (fun c => absurd (isWd_T c).1 b1) (fun _ => br_t rfl (k1 z R1))⟩
        | succ F ihF =>
          intro s1 z e1 e2 V1 R1 k1
          refine ⟨RZ_1 M R1, r_took M T R1 (by decide) (fun c1 z2 R2 => ?_) (fun c1 => br_t rfl (k1 z (by rw [lpX_d c1]; exact R1)))⟩
          have tb := isWd_T c1
          have rV := rd_IV (t := t) tb.1 V1 tb.2
          have fr := fu2 (rdS t n s1) e1 (fun y => (e2 tb.1).1)
          have aV := uG_IV (t := t) (q := 2) (by decide) rV.1 fr
          have aD := uG_D2 (t := t) (q := 2) (by decide) rV.1 fr
          have e3 : psG (rdS t n s1) 3 = psG s1 3 := rfl
          have v1 := (V1.2 tb.1).2.2
          have k1' : ∀ z', RZ u z' t n (lpX t n (isWd t n 22) (fun _ => 16) (uG t n f 2) F (lay 16 (uG t n f 2 (rdS t n s1)))) → K z' := by
            intro z' R'
            refine k1 z' ?_
            show RZ u z' t n (if isWd t n 22 s1 = true then _ else s1)
            rw [if_pos c1]
            exact R'
          refine br_f (by decide) ⟨RZ_1 M R2, ih 2 (rdS t n s1) z2 _ (by decide) rV.1 fr R2 (fun z3 R3 => ⟨RZ_1 M R3, r_lay (c := 16) M R3 (fun y => ?_) (fun z4 R4 => ihF _ z4 (by rw [lay_D]; exact aD.trans e1) (fun y => ?_) (lay_IV aV.1 (fun y => ?_)) R4 k1')⟩)⟩
          · have := (aV.1.2 y).2
            omega
          · rw [lay_B] at y
            rw [lay_P]
            have := (aV.2 y).2.1
            have := (e2 tb.1).2
            exact ⟨(e2 tb.1).1, by omega⟩
          · have := (aV.2 y).2.2
            omega
      have fs := fu2 s rfl id
      have aV := uG_IV (t := t) (q := 2) (by decide) V fs
      exact ⟨RZ_1 M R, ih 2 s z _ (by decide) V fs R (fun z1 R1 => ⟨902, lp 901 _ z1 (uG_D2 (by decide) V fs) (fun y => ⟨(aV.2 y).1, by omega⟩) aV.1 R1 hk'⟩)⟩
    · rw [if_neg q0]
      rw [if_neg q0] at hk'
      by_cases q1 : q = 1
      · subst q1
        rw [if_pos rfl]
        rw [if_pos rfl] at hk'
        have fu2 : ∀ s1, psD s1 = psD s → (psB s1 = 0 → psB s = 0) → fuU s1 0 f := fun s1 => fu 0 s1 (by decide)
        have lp : ∀ F s1 z, psD s1 = psD s → (psB s1 = 0 → psB s = 0 ∧ n < F + psP s1) → IVs n s1 → RZ u z t n s1 → (∀ z', RZ u z' t n (lpX t n (isWd t n 23) (fun _ => 17) (uG t n f 0) F s1) → K z') → l_X12_readTruth_4 (wG_X12_readBoth f) K (F + 1) 245 z := by
          intro F
          induction F with
          | zero =>
            intro s1 z e1 e2 V1 R1 k1
            have b1 : psB s1 ≠ 0 := fun y => by
              have := (V1.2 y).2.1
              have := (e2 y).2
              omega
            exact ⟨RZ_1 M R1, r_took M T R1 (by decide) (fun c => absurd (isWd_T c).1 b1) (fun _ => br_t rfl (k1 z R1))⟩
          | succ F ihF =>
            intro s1 z e1 e2 V1 R1 k1
            refine ⟨RZ_1 M R1, r_took M T R1 (by decide) (fun c1 z2 R2 => ?_) (fun c1 => br_t rfl (k1 z (by rw [lpX_d c1]; exact R1)))⟩
            have tb := isWd_T c1
            have rV := rd_IV (t := t) tb.1 V1 tb.2
            have fr := fu2 (rdS t n s1) e1 (fun y => (e2 tb.1).1)
            have aV := uG_IV (t := t) (q := 0) (by decide) rV.1 fr
            have aD := uG_D2 (t := t) (q := 0) (by decide) rV.1 fr
            have e3 : psG (rdS t n s1) 3 = psG s1 3 := rfl
            have v1 := (V1.2 tb.1).2.2
            have k1' : ∀ z', RZ u z' t n (lpX t n (isWd t n 23) (fun _ => 17) (uG t n f 0) F (lay 17 (uG t n f 0 (rdS t n s1)))) → K z' := by
              intro z' R'
              refine k1 z' ?_
              show RZ u z' t n (if isWd t n 23 s1 = true then _ else s1)
              rw [if_pos c1]
              exact R'
            refine br_f (by decide) ⟨RZ_1 M R2, ih 0 (rdS t n s1) z2 _ (by decide) rV.1 fr R2 (fun z3 R3 => ⟨RZ_1 M R3, r_lay (c := 17) M R3 (fun y => ?_) (fun z4 R4 => ihF _ z4 (by rw [lay_D]; exact aD.trans e1) (fun y => ?_) (lay_IV aV.1 (fun y => ?_)) R4 k1')⟩)⟩
            · have := (aV.1.2 y).2
              omega
            · rw [lay_B] at y
              rw [lay_P]
              have := (aV.2 y).2.1
              have := (e2 tb.1).2
              exact ⟨(e2 tb.1).1, by omega⟩
            · have := (aV.2 y).2.2
              omega
        have fs := fu2 s rfl id
        have aV := uG_IV (t := t) (q := 0) (by decide) V fs
        exact ⟨RZ_1 M R, ih 0 s z _ (by decide) V fs R (fun z1 R1 => ⟨902, lp 901 _ z1 (uG_D2 (by decide) V fs) (fun y => ⟨(aV.2 y).1, by omega⟩) aV.1 R1 hk'⟩)⟩
      · rw [if_neg q1]
        rw [if_neg q1] at hk'
        have q2 : q = 2 := by omega
        subst q2
        refine ⟨RZ_1 M R, ?_⟩
        unfold bUn at hk'
        by_cases b : psB s = 0
        · rw [if_pos b] at hk'
          have v := V.2 b
          have h' : 3 * (7 - psD s) + 1 ≤ f + 1 := by
            unfold fuU at h
            rw [if_pos b, rkU_v.1] at h
            exact h
          have gd : psD (gin t n s) = psD s + 1 := gin_D
          have fg : ∀ q', fuU (gin t n s) q' f := fun q' => by
            have := rkU_1 q'
            unfold fuU
            rw [gd]
            split <;> omega
          refine br_t ((RZ_b R).mpr b) (r_wd M T R (by decide) ?_)
          rw [isWd_l b]
          cases c1 : isW t n (psP s) 13
          · rw [c1, if_neg (by decide)] at hk'
            refine br_t rfl ⟨RZ_1 M R, r_sg (c := 91) M T R (by decide) ?_⟩
            unfold isSg
            rw [decide_eq_true b, Bool.true_and]
            by_cases k : txK t n (psP s) = 91
            · rw [if_pos k] at hk'
              rw [decide_eq_true k]
              have gV := (gin_IV (t := t) b V (by omega)).1
              refine br_f (by decide) ⟨RZ_1 M R, r_gin M T R v.1 (fun z1 R1 => ⟨RZ_1 M R1, ih 1 (gin t n s) z1 _ (by decide) gV (fg 1) R1 (fun z2 R2 => ⟨RZ_1 M R2, r_mS (c := 93) M T R2 (by decide) (fun z3 R3 => ⟨RZ_1 M R3, hk' _ (RZ_out R3 ?_)⟩)⟩)⟩)⟩
              rw [mS_D, uG_D2 (by decide) gV (fg 1), gin_D]
              omega
            · rw [if_neg k] at hk'
              rw [decide_eq_false k]
              have aV := aG_IV (t := t) (q := 1) (by decide) V (fu30 V)
              refine br_t rfl ⟨RZ_1 M R, r_sum M T V R (fun z1 R1 => ⟨RZ_1 M R1, ?_⟩)⟩
              by_cases b1 : psB (aG t n 30 1 s) = 0
              · rw [if_pos b1] at hk'
                have go : (txK t n (psP (aG t n 30 1 s)) = 61 ∨ txK t n (psP (aG t n 30 1 s)) = 60 ∨ txK t n (psP (aG t n 30 1 s)) = 62) → ((wI z1 245 12 = 0 → w_X12_readsOn 245 (fun w25 => j_X12_readUnit_123 (wG_X12_readBoth f) K 245 (wI z1 245 10) w25) z1) ∧ (¬ wI z1 245 12 = 0 → j_X12_readUnit_123 (wG_X12_readBoth f) K 245 (wI z1 245 10) z1)) := fun c3 => by
                  rw [if_pos c3] at hk'
                  have rV := rd_IV (t := t) b1 aV.1 (by omega)
                  have aV2 := aG_IV (t := t) (q := 1) (by decide) rV.1 (fu30 rV.1)
                  refine br_t ((RZ_b R1).mpr b1) (r_rd M T R1 b1 (fun z2 R2 => ⟨RZ_1 M R2, r_sum M T rV.1 R2 (fun z3 R3 => ?_)⟩))
                  have l3 : psB (aG t n 30 1 (rdS t n (aG t n 30 1 s))) = 0 → psG (aG t n 30 1 (rdS t n (aG t n 30 1 s))) 3 ≤ 915 := fun y => by
                    have := (aV2.1.2 y).2
                    omega
                  by_cases k61 : txK t n (psP (aG t n 30 1 s)) = 61
                  · rw [if_pos k61] at hk'
                    exact br_t ((RZ_K T R1 b1 (c := 61) (by decide)).mpr k61) ⟨RZ_1 M R3, r_lay (c := 13) M R3 l3 hk'⟩
                  · rw [if_neg k61] at hk'
                    refine br_f (fun y => k61 ((RZ_K T R1 b1 (c := 61) (by decide)).mp y)) ?_
                    by_cases k60 : txK t n (psP (aG t n 30 1 s)) = 60
                    · rw [if_pos k60] at hk'
                      exact br_t ((RZ_K T R1 b1 (c := 60) (by decide)).mpr k60) ⟨RZ_1 M R3, r_lay (c := 14) M R3 l3 hk'⟩
                    · rw [if_neg k60] at hk'
                      exact br_f (fun y => k60 ((RZ_K T R1 b1 (c := 60) (by decide)).mp y)) ⟨RZ_1 M R3, r_lay (c := 15) M R3 l3 hk'⟩
                by_cases k61 : txK t n (psP (aG t n 30 1 s)) = 61
                · exact br_t ((RZ_K T R1 b1 (c := 61) (by decide)).mpr k61) (go (Or.inl k61))
                refine br_f (fun y => k61 ((RZ_K T R1 b1 (c := 61) (by decide)).mp y)) ?_
                by_cases k60 : txK t n (psP (aG t n 30 1 s)) = 60
                · exact br_t ((RZ_K T R1 b1 (c := 60) (by decide)).mpr k60) (go (Or.inr (Or.inl k60)))
                refine br_f (fun y => k60 ((RZ_K T R1 b1 (c := 60) (by decide)).mp y)) ?_
                by_cases k62 : txK t n (psP (aG t n 30 1 s)) = 62
                · exact br_t ((RZ_K T R1 b1 (c := 62) (by decide)).mpr k62) (go (Or.inr (Or.inr k62)))
                rw [if_neg (by omega)] at hk'
                have nb := blm_B (t := t) (n := n) (s := aG t n 30 1 s) (k := 2) (by decide)
                refine br_f (fun y => k62 ((RZ_K T R1 b1 (c := 62) (by decide)).mp y)) (r_blm (k := 2) M T R1 (by decide) (fun z2 R2 => ⟨RZ_1 M R2, br_f (fun y => nb ((RZ_b R2).mp y)) (r_123d M T ⟨by rw [blm_D]; exact aV.1.1, fun y => absurd y nb⟩ nb R2 hk')⟩))
              · rw [if_neg b1] at hk'
                have nb : ¬ wI z1 245 12 = 0 := fun y => b1 ((RZ_b R1).mp y)
                have dd : ∀ x, j_X12_readUnit_123 (wG_X12_readBoth f) K 245 x z1 := fun x => r_123d M T aV.1 b1 R1 hk'
                refine ⟨fun _ => br_f nb (dd _), fun _ => ⟨fun _ => br_f nb (dd _), fun _ => ⟨fun _ => br_f nb (dd _), fun _ => r_blm (k := 2) M T R1 (by decide) (fun z2 R2 => ⟨RZ_1 M R2, ?_⟩)⟩⟩⟩
                rw [blm_d b1] at R2
                exact br_f (fun y => b1 ((RZ_b R2).mp y)) (r_123d M T aV.1 b1 R2 hk')
          · rw [c1, if_pos rfl] at hk'
            have k1 := isW_1 c1
            have gV := (gin_IV (t := t) b V (by omega)).1
            have uV := uG_IV (t := t) (q := 2) (by decide) gV (fg 2)
            refine br_f (by decide) ⟨RZ_1 M R, r_gin M T R v.1 (fun z1 R1 => ⟨RZ_1 M R1, ih 2 (gin t n s) z1 _ (by decide) gV (fg 2) R1 (fun z2 R2 => ⟨RZ_1 M R2, r_lay (c := 18) M R2 (fun y => ?_) (fun z3 R3 => ⟨RZ_1 M R3, hk' _ (RZ_out R3 ?_)⟩)⟩)⟩)⟩
            · have := (uV.1.2 y).2
              omega
            · rw [lay_D, uG_D2 (by decide) gV (fg 2), gin_D]
              omega
        · rw [if_neg b] at hk'
          exact br_f (fun y => b ((RZ_b R).mp y)) (hk' z R)
theorem fuU30 {s : pst} (V : IVs n s) : fuU s 1 30 := by
  unfold fuU
  rw [rkU_v.2.2]
  split <;> omega
theorem r_truth {s : pst} {z : Wd} {K : Wd → Prop} (M : okM u 245) (T : TPt u t n) (V : IVs n s) (R : RZ u z t n s) (hk : ∀ z', RZ u z' t n (uG t n 30 1 s) → K z') : w_X12_readTruth 245 K z := ⟨30, by decide, r_uG M T 30 1 s z K (by decide) V (fuU30 V) R hk⟩
end RU
