/-! 99.s5: the reference reads a law -/
section RL
variable {u : Wd} {t : Nat → Nat} {n : Nat}
def rk (q : Nat) : Nat := if q = 0 then 1 else if q = 1 then 3 else 2
theorem rk_1 (q : Nat) : 1 ≤ rk q := by
  unfold rk
  split
  · omega
  · split <;> omega
theorem rk_v : rk 0 = 1 ∧ rk 1 = 3 ∧ rk 2 = 2 := by decide
/-- a state that may be read on from -/
def IVs (n : Nat) (s : pst) : Prop := psD s ≤ 7 ∧ (psB s = 0 → psD s ≤ 6 ∧ psP s ≤ n ∧ psG s 3 ≤ psP s)
def fuA (s : pst) (q f : Nat) : Prop := (if psB s = 0 then 3 * (7 - psD s) else 0) + rk q ≤ f
theorem fuA_G {f q : Nat} {s : pst} (hq : q < 3) (h : fuA s q f) (b : psB s = 0) : 1 + 3 * (7 - psD s) + (if q = 0 then 0 else if q = 1 then 2 else 1) ≤ f := by
  unfold fuA rk at h
  rw [if_pos b] at h
  by_cases q0 : q = 0
  · rw [if_pos q0] at h ⊢; omega
  · rw [if_neg q0] at h ⊢
    by_cases q1 : q = 1
    · rw [if_pos q1] at h ⊢; omega
    · rw [if_neg q1] at h ⊢; omega
theorem aG_D2 {f q : Nat} {s : pst} (hq : q < 3) (V : IVs n s) (h : fuA s q f) : psD (aG t n f q s) = psD s := by
  by_cases b : psB s = 0
  · have v := V.2 b
    exact (aG_G f q s hq v.2.1 v.1 (fuA_G hq h b)).1
  · rw [aG_d b]
theorem aG_IV {f q : Nat} {s : pst} (hq : q < 3) (V : IVs n s) (h : fuA s q f) : IVs n (aG t n f q s) ∧ (psB (aG t n f q s) = 0 → psB s = 0 ∧ psP s < psP (aG t n f q s) ∧ psG (aG t n f q s) 3 + psP s ≤ psG s 3 + psP (aG t n f q s)) := by
  have e := aG_D2 (t := t) hq V h
  refine ⟨⟨by rw [e]; exact V.1, fun b' => ?_⟩, fun b' => ?_⟩
  · by_cases b : psB s = 0
    · have v := V.2 b
      obtain ⟨a1, a2, a3, a4, -⟩ := ((aG_G f q s hq v.2.1 v.1 (fuA_G hq h b)).2.2 b).2 b'
      exact ⟨by omega, a2, by omega⟩
    · rw [aG_d b] at b'; exact absurd b' b
  · by_cases b : psB s = 0
    · have v := V.2 b
      obtain ⟨a1, a2, a3, a4, -⟩ := ((aG_G f q s hq v.2.1 v.1 (fuA_G hq h b)).2.2 b).2 b'
      exact ⟨b, a1, a4⟩
    · rw [aG_d b] at b'; exact absurd b' b
theorem gin_IV {s : pst} (b : psB s = 0) (V : IVs n s) (k0 : txK t n (psP s) ≠ 0) : IVs n (gin t n s) ∧ (psB (gin t n s) = 0 → psP s < psP (gin t n s)) := by
  have v := V.2 b
  have te := txE_in (t := t) v.2.1
  have tb := txB_in (t := t) v.2.1
  have te3 := te.2.2 k0
  refine ⟨⟨by rw [gin_D]; omega, fun b' => ?_⟩, fun b' => ?_⟩
  · obtain ⟨d1, -, e1⟩ := gin_L b'
    rw [e1]
    refine ⟨?_, te.2.1, ?_⟩
    · show psD s + 1 ≤ 6
      omega
    · show psG s 3 ≤ txE t n (psP s)
      omega
  · obtain ⟨d1, -, e1⟩ := gin_L b'
    rw [e1]
    show psP s < txE t n (psP s)
    omega
theorem rd_IV {s : pst} (b : psB s = 0) (V : IVs n s) (k0 : txK t n (psP s) ≠ 0) : IVs n (rdS t n s) ∧ psP s < psP (rdS t n s) := by
  have v := V.2 b
  have te := txE_in (t := t) v.2.1
  have tb := txB_in (t := t) v.2.1
  have te3 := te.2.2 k0
  have e : psP (rdS t n s) = txE t n (psP s) := rfl
  refine ⟨⟨V.1, fun _ => ⟨v.1, te.2.1, ?_⟩⟩, by rw [e]; omega⟩
  show psG s 3 ≤ txE t n (psP s)
  omega
theorem lay_IV {c : Nat} {s : pst} (V : IVs n s) (h : psB s = 0 → psG s 3 < psP s) : IVs n (lay c s) := by
  by_cases b : psB s = 0
  · rw [lay_l b]
    have v := V.2 b
    have := h b
    refine ⟨V.1, fun _ => ⟨v.1, v.2.1, ?_⟩⟩
    show layG c (psG s) 3 ≤ psP s
    rw [show layG c (psG s) 3 = psG s 3 + 1 from if_pos rfl]
    omega
  · rw [lay_d b]; exact V
theorem lay_P {c : Nat} {s : pst} : psP (lay c s) = psP s := by
  by_cases b : psB s = 0
  · rw [lay_l b]; rfl
  · rw [lay_d b]
theorem r_aG (M : okM u 245) (T : TPt u t n) : ∀ f q s z K, q < 3 → IVs n s → fuA s q f → RZ u z t n s → (∀ z', RZ u z' t n (aG t n f q s) → K z') → wG_X12_readAtom f q 245 K z := by
  have hn := T.1
  intro f
  induction f with
  | zero => intro q s z K hq V h; unfold fuA at h; exfalso; have := rk_1 q; omega
  | succ f ih =>
    intro q s z K hq V h R hk
    have hk' : ∀ z', RZ u z' t n (if q = 0 then bAt t n (aG t n f) s else if q = 1 then bSu t n (aG t n f) s else bTe t n (aG t n f) s) → K z' := hk
    show (if q = 0 then b_X12_readAtom (wG_X12_readAtom f) 245 K z else if q = 1 then b_X12_readSum (wG_X12_readAtom f) 245 K z else b_X12_readTerm (wG_X12_readAtom f) 245 K z)
    by_cases q0 : q = 0
    · subst q0
      rw [if_pos rfl]
      rw [if_pos rfl] at hk'
      refine ⟨RZ_1 M R, ?_⟩
      unfold bAt at hk'
      by_cases b : psB s = 0
      · rw [if_pos b] at hk'
        have v := V.2 b
        have h' : 3 * (7 - psD s) + 1 ≤ f + 1 := by
          unfold fuA rk at h
          rw [if_pos b, if_pos rfl] at h
          exact h
        refine br_t ((RZ_b R).mpr b) (r_name M T R b (fun c z' R' => ?_) (fun c => ?_))
        · rw [if_pos c] at hk'
          refine br_f (fun y => ?_) ⟨RZ_1 M R', ?_⟩
          · have y2 := congrArg Int32.toInt y
            rw [nI_toInt (by omega), show (-1 : Int32).toInt = -1 from by decide] at y2
            omega
          · rw [show (100 + nI (nmW t n (psP s)) : Int32) = nI (100 + nmW t n (psP s)) from nI_add 100 _]
            refine r_lay M R' (fun _ => ?_) hk'
            show psG s 3 ≤ 915
            omega
        · rw [if_neg c] at hk'
          refine br_t rfl ⟨RZ_1 M R, r_sg (c := 40) M T R (by decide) ?_⟩
          unfold isSg
          rw [decide_eq_true b, Bool.true_and]
          by_cases k : txK t n (psP s) = 40
          · rw [if_pos k] at hk'
            rw [decide_eq_true k]
            have gV := (gin_IV (t := t) b V (by omega)).1
            have fu : fuA (gin t n s) 1 f := by
              have gd : psD (gin t n s) = psD s + 1 := gin_D
              unfold fuA
              rw [rk_v.2.1, gd]
              split <;> omega
            refine br_f (by decide) ⟨RZ_1 M R, r_gin M T R v.1 (fun z1 R1 => ⟨RZ_1 M R1, ih 1 (gin t n s) z1 _ (by decide) gV fu R1 (fun z2 R2 => ⟨RZ_1 M R2, r_mS (c := 41) M T R2 (by decide) (fun z3 R3 => ⟨RZ_1 M R3, hk' _ (RZ_out R3 ?_)⟩)⟩)⟩)⟩
            rw [mS_D, aG_D2 (by decide) gV fu, gin_D]
            omega
          · rw [if_neg k] at hk'
            rw [decide_eq_false k]
            refine br_t rfl ⟨RZ_1 M R, r_num (lo := 0) (hi := 1000) M T R rfl (by decide) (by decide) (fun z1 R1 => ⟨RZ_1 M R1, ?_⟩)⟩
            rw [show (1000 + nI (numV t n 0 1000 s) : Int32) = nI (1000 + numV t n 0 1000 s) from nI_add 1000 _]
            refine r_lay M R1 (fun b1 => ?_) hk'
            obtain ⟨-, -, -, e1, -⟩ := numS_L b1
            rw [e1]
            show psG s 3 ≤ 915
            omega
      · rw [if_neg b] at hk'
        exact br_f (fun y => b ((RZ_b R).mp y)) (hk' z R)
    · rw [if_neg q0]
      rw [if_neg q0] at hk'
      by_cases q1 : q = 1
      · subst q1
        rw [if_pos rfl]
        rw [if_pos rfl] at hk'
        have fu : ∀ s1, psD s1 = psD s → (psB s1 = 0 → psB s = 0) → fuA s1 2 f := fun s1 e1 e2 => by
          unfold fuA at h ⊢
          rw [rk_v.2.1] at h
          rw [rk_v.2.2, e1]
          by_cases b1 : psB s1 = 0
          · rw [if_pos (e2 b1)] at h; rw [if_pos b1]; omega
          · rw [if_neg b1]; omega
        have lp : ∀ F s1 z, psD s1 = psD s → (psB s1 = 0 → psB s = 0 ∧ n < F + psP s1) → IVs n s1 → RZ u z t n s1 → (∀ z', RZ u z' t n (lpX t n (fun s => isSg t n 43 s || isSg t n 45 s) (fun s => if txK t n (psP s) = 43 then 10 else 11) (aG t n f 2) F s1) → K z') → l_X12_readSum_4 (wG_X12_readAtom f) K (F + 1) 245 z := by
          intro F
          induction F with
          | zero =>
            intro s1 z e1 e2 V1 R1 k1
            have b1 : psB s1 ≠ 0 := fun y => by
              have := (V1.2 y).2.1
              have := (e2 y).2
              omega
            refine ⟨RZ_1 M R1, r_sg (c := 43) M T R1 (by decide) ?_⟩
            rw [tst_d b1]
            refine br_t rfl ⟨RZ_1 M R1, r_sg (c := 45) M T R1 (by decide) ?_⟩
            rw [tst_d b1]
            exact br_t rfl (k1 z R1)
          | succ F ihF =>
            intro s1 z e1 e2 V1 R1 k1
            have step : isSg t n 43 s1 = true ∨ isSg t n 45 s1 = true → j_X12_readSum_22 (wG_X12_readAtom f) (l_X12_readSum_4 (wG_X12_readAtom f) K (F + 1)) K 245 z := fun tt => by
              have tb : psB s1 = 0 ∧ txK t n (psP s1) ≠ 0 := tt.elim (isSg_T (by decide)) (isSg_T (by decide))
              have rV := rd_IV (t := t) tb.1 V1 tb.2
              have fr := fu (rdS t n s1) e1 (fun y => (e2 tb.1).1)
              have aV := aG_IV (t := t) (q := 2) (by decide) rV.1 fr
              have aD := aG_D2 (t := t) (q := 2) (by decide) rV.1 fr
              have e3 : psG (rdS t n s1) 3 = psG s1 3 := rfl
              have v1 := (V1.2 tb.1).2.2
              have k1' : ∀ z', RZ u z' t n (lpX t n (fun s => isSg t n 43 s || isSg t n 45 s) (fun s => if txK t n (psP s) = 43 then 10 else 11) (aG t n f 2) F (lay (if txK t n (psP s1) = 43 then 10 else 11) (aG t n f 2 (rdS t n s1)))) → K z' := by
                intro z' R'
                refine k1 z' ?_
                show RZ u z' t n (if (isSg t n 43 s1 || isSg t n 45 s1) = true then _ else s1)
                rw [if_pos (by rcases tt with y | y <;> rw [y]; rfl; exact Bool.or_true _)]
                exact R'
              refine ⟨RZ_1 M R1, r_rd M T R1 tb.1 (fun z2 R2 => ⟨RZ_1 M R2, ih 2 (rdS t n s1) z2 _ (by decide) rV.1 fr R2 (fun z3 R3 => ?_)⟩)⟩
              have l3 : psB (aG t n f 2 (rdS t n s1)) = 0 → psG (aG t n f 2 (rdS t n s1)) 3 ≤ 915 := fun y => by
                have := (aV.1.2 y).2
                omega
              have nxt : ∀ c, ∀ z4, RZ u z4 t n (lay c (aG t n f 2 (rdS t n s1))) → (∀ z', RZ u z' t n (lpX t n (fun s => isSg t n 43 s || isSg t n 45 s) (fun s => if txK t n (psP s) = 43 then 10 else 11) (aG t n f 2) F (lay c (aG t n f 2 (rdS t n s1)))) → K z') → l_X12_readSum_4 (wG_X12_readAtom f) K (F + 1) 245 z4 := fun c z4 R4 kk => by
                refine ihF _ z4 (by rw [lay_D]; exact aD.trans e1) (fun y => ?_) (lay_IV aV.1 (fun y => ?_)) R4 kk
                · rw [lay_B] at y
                  rw [lay_P]
                  have := (aV.2 y).2.1
                  have := (e2 tb.1).2
                  exact ⟨(e2 tb.1).1, by omega⟩
                · have := (aV.2 y).2.2
                  omega
              by_cases c43 : txK t n (psP s1) = 43
              · rw [if_pos c43] at k1'
                exact br_t ((RZ_K T R1 tb.1 (c := 43) (by decide)).mpr c43) ⟨RZ_1 M R3, r_lay (c := 10) M R3 l3 (fun z4 R4 => nxt 10 z4 R4 k1')⟩
              · rw [if_neg c43] at k1'
                exact br_f (fun y => c43 ((RZ_K T R1 tb.1 (c := 43) (by decide)).mp y)) ⟨RZ_1 M R3, r_lay (c := 11) M R3 l3 (fun z4 R4 => nxt 11 z4 R4 k1')⟩
            refine ⟨RZ_1 M R1, r_sg (c := 43) M T R1 (by decide) ?_⟩
            cases c1 : isSg t n 43 s1
            · refine br_t rfl ⟨RZ_1 M R1, r_sg (c := 45) M T R1 (by decide) ?_⟩
              cases c2 : isSg t n 45 s1
              · refine br_t rfl (k1 z ?_)
                rw [lpX_d (by rw [c1, c2]; rfl)]
                exact R1
              · exact br_f (by decide) (step (Or.inr c2))
            · exact br_f (by decide) (step (Or.inl c1))
        have fs := fu s rfl id
        have aV := aG_IV (t := t) (q := 2) (by decide) V fs
        exact ⟨RZ_1 M R, ih 2 s z _ (by decide) V fs R (fun z1 R1 => ⟨902, lp 901 _ z1 (aG_D2 (by decide) V fs) (fun y => ⟨(aV.2 y).1, by omega⟩) aV.1 R1 hk'⟩)⟩
      · rw [if_neg q1]
        rw [if_neg q1] at hk'
        have fu : ∀ s1, psD s1 = psD s → (psB s1 = 0 → psB s = 0) → fuA s1 0 f := fun s1 e1 e2 => by
          have q2 : q = 2 := by omega
          subst q2
          unfold fuA at h ⊢
          rw [rk_v.2.2] at h
          rw [rk_v.1, e1]
          by_cases b1 : psB s1 = 0
          · rw [if_pos (e2 b1)] at h; rw [if_pos b1]; omega
          · rw [if_neg b1]; omega
        have lp : ∀ F s1 z, psD s1 = psD s → (psB s1 = 0 → psB s = 0 ∧ n < F + psP s1) → IVs n s1 → RZ u z t n s1 → (∀ z', RZ u z' t n (lpX t n (isSg t n 42) (fun _ => 12) (aG t n f 0) F s1) → K z') → l_X12_readTerm_4 (wG_X12_readAtom f) K (F + 1) 245 z := by
          intro F
          induction F with
          | zero =>
            intro s1 z e1 e2 V1 R1 k1
            have b1 : psB s1 ≠ 0 := fun y => by
              have := (V1.2 y).2.1
              have := (e2 y).2
              omega
            refine ⟨RZ_1 M R1, r_sg (c := 42) M T R1 (by decide) ?_⟩
            rw [tst_d b1]
            exact br_t rfl (k1 z R1)
          | succ F ihF =>
            intro s1 z e1 e2 V1 R1 k1
            refine ⟨RZ_1 M R1, r_sg (c := 42) M T R1 (by decide) ?_⟩
            cases c1 : isSg t n 42 s1
            · refine br_t rfl (k1 z ?_)
              rw [lpX_d c1]
              exact R1
            · have tb := isSg_T (by decide) c1
              have rV := rd_IV (t := t) tb.1 V1 tb.2
              have fr := fu (rdS t n s1) e1 (fun y => (e2 tb.1).1)
              have aV := aG_IV (t := t) (q := 0) (by decide) rV.1 fr
              have aD := aG_D2 (t := t) (q := 0) (by decide) rV.1 fr
              have e3 : psG (rdS t n s1) 3 = psG s1 3 := rfl
              have v1 := (V1.2 tb.1).2.2
              have k1' : ∀ z', RZ u z' t n (lpX t n (isSg t n 42) (fun _ => 12) (aG t n f 0) F (lay 12 (aG t n f 0 (rdS t n s1)))) → K z' := by
                intro z' R'
                refine k1 z' ?_
                show RZ u z' t n (if isSg t n 42 s1 = true then _ else s1)
                rw [if_pos c1]
                exact R'
              refine br_f (by decide) ⟨RZ_1 M R1, r_rd M T R1 tb.1 (fun z2 R2 => ⟨RZ_1 M R2, ih 0 (rdS t n s1) z2 _ (by decide) rV.1 fr R2 (fun z3 R3 => ⟨RZ_1 M R3, r_lay (c := 12) M R3 (fun y => ?_) (fun z4 R4 => ihF _ z4 (by rw [lay_D]; exact aD.trans e1) (fun y => ?_) (lay_IV aV.1 (fun y => ?_)) R4 k1')⟩)⟩)⟩
              · have := (aV.1.2 y).2
                omega
              · rw [lay_B] at y
                rw [lay_P]
                have := (aV.2 y).2.1
                have := (e2 tb.1).2
                exact ⟨(e2 tb.1).1, by omega⟩
              · have := (aV.2 y).2.2
                omega
        have fs := fu s rfl id
        have aV := aG_IV (t := t) (q := 0) (by decide) V fs
        exact ⟨RZ_1 M R, ih 0 s z _ (by decide) V fs R (fun z1 R1 => ⟨902, lp 901 _ z1 (aG_D2 (by decide) V fs) (fun y => ⟨(aV.2 y).1, by omega⟩) aV.1 R1 hk'⟩)⟩
end RL
