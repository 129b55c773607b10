/-! 99.s2: what the reading of a law lays is well made -/
section GQ
variable {t : Nat → Nat} {n : Nat}
theorem tst_d {c : Nat} {s : pst} (b : psB s ≠ 0) : isSg t n c s = false := by
  unfold isSg
  rw [decide_eq_false b, Bool.false_and]
theorem tsw_d {a : Nat} {s : pst} (b : psB s ≠ 0) : isWd t n a s = false := by
  unfold isWd
  rw [decide_eq_false b, Bool.false_and]
theorem aG_d {s : pst} (b : psB s ≠ 0) : ∀ f q, aG t n f q s = s := by
  intro f
  induction f with
  | zero => intro q; rfl
  | succ f ih =>
    intro q
    show (if q = 0 then bAt t n (aG t n f) s else if q = 1 then bSu t n (aG t n f) s else bTe t n (aG t n f) s) = s
    by_cases q0 : q = 0
    · rw [if_pos q0]; exact if_neg b
    · rw [if_neg q0]
      by_cases q1 : q = 1
      · rw [if_pos q1]
        unfold bSu
        rw [ih 2, lpX_d (by rw [tst_d b, tst_d b]; rfl)]
      · rw [if_neg q1]
        unfold bTe
        rw [ih 0, lpX_d (tst_d b)]
theorem uG_d {s : pst} (b : psB s ≠ 0) : ∀ f q, uG t n f q s = s := by
  intro f
  induction f with
  | zero => intro q; rfl
  | succ f ih =>
    intro q
    show (if q = 0 then bBo t n (uG t n f) s else if q = 1 then bTr t n (uG t n f) s else bUn t n (uG t n f) s) = s
    by_cases q0 : q = 0
    · rw [if_pos q0]
      unfold bBo
      rw [ih 2, lpX_d (tsw_d b)]
    · rw [if_neg q0]
      by_cases q1 : q = 1
      · rw [if_pos q1]
        unfold bTr
        rw [ih 0, lpX_d (tsw_d b)]
      · rw [if_neg q1]; exact if_neg b
theorem numS_L {lo hi : Nat} {s : pst} (h : psB (numS t n lo hi s) = 0) : psB s = 0 ∧ txK t n (psP s) = 2 ∧ (lo ≤ txV t n (psP s) ∧ txV t n (psP s) < hi) ∧ numS t n lo hi s = rdS t n s ∧ numV t n lo hi s = txV t n (psP s) := by
  unfold numS at h ⊢
  by_cases b : psB s = 0
  · rw [if_pos b] at h ⊢
    by_cases k : txK t n (psP s) = 2
    · rw [if_pos k] at h ⊢
      by_cases v : lo ≤ txV t n (psP s) ∧ txV t n (psP s) < hi
      · rw [if_pos v]
        refine ⟨b, k, v, rfl, ?_⟩
        unfold numV
        exact if_pos ⟨b, k, v⟩
      · rw [if_neg v] at h; exact absurd h (blm_B (by decide))
    · rw [if_neg k] at h; exact absurd h (blm_B (by decide))
  · rw [if_neg b] at h; exact absurd h b
theorem numS_D {lo hi : Nat} {s : pst} : psD (numS t n lo hi s) = psD s := by
  unfold numS
  by_cases b : psB s = 0
  · rw [if_pos b]
    by_cases k : txK t n (psP s) = 2
    · rw [if_pos k]
      by_cases v : lo ≤ txV t n (psP s) ∧ txV t n (psP s) < hi
      · rw [if_pos v]; rfl
      · rw [if_neg v]; exact blm_D
    · rw [if_neg k]; exact blm_D
  · rw [if_neg b]
theorem numS_3 {lo hi : Nat} {s : pst} (b : psB s = 0) (k : txK t n (psP s) = 3) : psB (numS t n lo hi s) = 1 ∧ psL (numS t n lo hi s) = txB t n (psP s) := by
  unfold numS
  rw [if_pos b, if_neg (by omega)]
  exact blm_1 b k
theorem aG_D {f q : Nat} {s : pst} (hG : psB (gin t n s) = 0 → Gd t n false 0 (gin t n s) (aG t n f q (gin t n s)) ∨ psD (aG t n f q (gin t n s)) = psD (gin t n s)) : psD (aG t n f q (gin t n s)) = psD s + 1 := by
  by_cases b : psB (gin t n s) = 0
  · rcases hG b with h | h
    · exact h.1.trans gin_D
    · exact h.trans gin_D
  · rw [aG_d b]; exact gin_D
def hQ (q d : Nat) : Nat := 1 + 2 * (6 - d) + (if q = 0 then 0 else if q = 1 then 2 else 1)
theorem aG_G : ∀ f q s, q < 3 → psP s ≤ n → psD s ≤ 6 → 1 + 3 * (7 - psD s) + (if q = 0 then 0 else if q = 1 then 2 else 1) ≤ f → Gd t n false (hQ q (psD s)) s (aG t n f q s) := by
  intro f
  induction f with
  | zero => intro q s _ _ _ h; omega
  | succ f ih =>
    intro q s hq hp hd hf
    show Gd t n false (hQ q (psD s)) s (if q = 0 then bAt t n (aG t n f) s else if q = 1 then bSu t n (aG t n f) s else bTe t n (aG t n f) s)
    by_cases q0 : q = 0
    · subst q0
      rw [if_pos rfl]
      rw [if_pos rfl] at hf
      by_cases b : psB s = 0
      · refine ⟨?_, fun y => absurd b y, fun _ => ?_⟩
        · unfold bAt
          rw [if_pos b]
          by_cases c1 : nmW t n (psP s) < 8
          · rw [if_pos c1, lay_D]; rfl
          · rw [if_neg c1]
            by_cases c2 : txK t n (psP s) = 40
            · rw [if_pos c2]
              show psD (mS t n 41 (aG t n f 1 (gin t n s))) - 1 = psD s
              have d6 : psB (gin t n s) = 0 → psD (aG t n f 1 (gin t n s)) = psD (gin t n s) := fun bg => by
                obtain ⟨d1, b1, e1⟩ := gin_L bg
                have te := txE_in (t := t) hp
                have gd : psD (gin t n s) = psD s + 1 := gin_D
                have gp : psP (gin t n s) ≤ n := by rw [e1]; exact te.2.1
                exact (ih 1 (gin t n s) (by decide) gp (by omega) (by rw [if_neg (by decide), if_pos rfl]; omega)).1
              rw [mS_D, aG_D (fun bg => Or.inr (d6 bg))]
              exact Nat.add_sub_cancel _ _
            · rw [if_neg c2, lay_D]; exact numS_D
        · unfold bAt
          rw [if_pos b]
          by_cases c1 : nmW t n (psP s) < 8
          · rw [if_pos c1]
            have k1 := nmW_1 c1
            exact ⟨fun k3 => by omega, fun _ => LV_push b hp (by omega) (Or.inr (by omega)) (by unfold hQ; omega)⟩
          · rw [if_neg c1]
            by_cases c2 : txK t n (psP s) = 40
            · rw [if_pos c2]
              refine ⟨fun k3 => by omega, fun bo => ?_⟩
              have bm : psB (mS t n 41 (aG t n f 1 (gin t n s))) = 0 := bo
              obtain ⟨b2, k2, e2⟩ := mS_L bm
              have bg : psB (gin t n s) = 0 := by
                by_cases z : psB (gin t n s) = 0
                · exact z
                · rw [aG_d z] at b2; exact absurd b2 z
              obtain ⟨d1, b1, e1⟩ := gin_L bg
              have te := txE_in (t := t) hp
              have gd : psD (gin t n s) = psD s + 1 := gin_D
              have gp : psP (gin t n s) ≤ n := by rw [e1]; exact te.2.1
              have z := ih 1 (gin t n s) (by decide) gp (by omega) (by rw [if_neg (by decide), if_pos rfl]; omega)
              have hh : hQ 1 (psD (gin t n s)) = hQ 0 (psD s) := by
                unfold hQ
                rw [gd, if_neg (by decide), if_pos rfl, if_pos rfl]
                omega
              rw [hh] at z
              exact LV_in hp bg (by omega) (z.2.2 bg).2 bm (by decide)
            · rw [if_neg c2]
              refine ⟨fun k3 => ?_, fun bo => ?_⟩
              · have y := numS_3 (lo := 0) (hi := 1000) b k3
                rw [lay_d (by omega)]
                exact y
              · rw [lay_B] at bo
                obtain ⟨-, k2, v, e1, e2⟩ := numS_L bo
                rw [e1, e2]
                exact LV_push b hp (by omega) (Or.inl (by omega)) (by unfold hQ; omega)
      · unfold bAt
        rw [if_neg b]
        exact ⟨rfl, fun _ => rfl, fun y => absurd y b⟩
    · rw [if_neg q0]
      rw [if_neg q0] at hf
      by_cases q1 : q = 1
      · subst q1
        rw [if_pos rfl]
        rw [if_pos rfl] at hf
        have hh : hQ 1 (psD s) = hQ 2 (psD s) + 1 := by
          unfold hQ
          rw [if_neg (by decide), if_pos rfl, if_neg (by decide), if_neg (by decide)]
        rw [hh]
        refine lpX_Gd hp (fun s1 h => ?_) (fun s1 => ?_) (fun s1 h1 h2 => ?_) (by unfold hQ; omega)
        · rcases Bool.or_eq_true_iff.mp h with h | h
          · exact isSg_T (by decide) h
          · exact isSg_T (by decide) h
        · refine Or.inl ?_
          show 10 ≤ (if txK t n (psP s1) = 43 then 10 else 11) ∧ (if txK t n (psP s1) = 43 then 10 else 11) ≤ 12 ∧ _
          split
          · exact ⟨by decide, by decide, rfl, rfl⟩
          · exact ⟨by decide, by decide, rfl, rfl⟩
        · rw [← h2]
          exact ih 2 s1 (by decide) h1 (by omega) (by rw [if_neg (by decide), if_neg (by decide), h2]; omega)
      · rw [if_neg q1]
        rw [if_neg q1] at hf
        have q2 : q = 2 := by omega
        subst q2
        have hh : hQ 2 (psD s) = hQ 0 (psD s) + 1 := by
          unfold hQ
          rw [if_neg (by decide), if_neg (by decide), if_pos rfl]
        rw [hh]
        refine lpX_Gd hp (fun s1 h => isSg_T (by decide) h) (fun s1 => Or.inl ⟨by decide, by decide, rfl, rfl⟩) (fun s1 h1 h2 => ?_) (by unfold hQ; omega)
        rw [← h2]
        exact ih 0 s1 (by decide) h1 (by omega) (by rw [if_pos rfl, h2]; omega)
theorem aG_30 {s : pst} (hp : psP s ≤ n) (hd : psD s ≤ 6) : Gd t n false (hQ 1 (psD s)) s (aG t n 30 1 s) := aG_G 30 1 s (by decide) hp hd (by rw [if_neg (by decide), if_pos rfl]; omega)
def hU (q d : Nat) : Nat := 4 + 2 * (6 - d) + (if q = 2 then 0 else if q = 0 then 1 else 2)
theorem uG_G : ∀ f q s, q < 3 → psP s ≤ n → psD s ≤ 6 → 1 + 3 * (7 - psD s) + (if q = 2 then 0 else if q = 0 then 1 else 2) ≤ f → Gd t n true (hU q (psD s)) s (uG t n f q s) := by
  intro f
  induction f with
  | zero => intro q s _ _ _ h; omega
  | succ f ih =>
    intro q s hq hp hd hf
    show Gd t n true (hU q (psD s)) s (if q = 0 then bBo t n (uG t n f) s else if q = 1 then bTr t n (uG t n f) s else bUn t n (uG t n f) s)
    by_cases q0 : q = 0
    · subst q0
      rw [if_pos rfl]
      rw [if_neg (by decide), if_pos rfl] at hf
      have hh : hU 0 (psD s) = hU 2 (psD s) + 1 := by
        unfold hU
        rw [if_neg (by decide), if_pos rfl, if_pos rfl]
      rw [hh]
      refine lpX_Gd hp (fun s1 h => isWd_T h) (fun s1 => Or.inr (Or.inr ⟨by decide, by decide, rfl, rfl⟩)) (fun s1 h1 h2 => ?_) (by unfold hU; omega)
      rw [← h2]
      exact ih 2 s1 (by decide) h1 (by omega) (by rw [if_pos rfl, h2]; omega)
    · rw [if_neg q0]
      by_cases q1 : q = 1
      · subst q1
        rw [if_pos rfl]
        rw [if_neg (by decide), if_neg (by decide)] at hf
        have hh : hU 1 (psD s) = hU 0 (psD s) + 1 := by
          unfold hU
          rw [if_neg (by decide), if_neg (by decide), if_neg (by decide), if_pos rfl]
        rw [hh]
        refine lpX_Gd hp (fun s1 h => isWd_T h) (fun s1 => Or.inr (Or.inr ⟨by decide, by decide, rfl, rfl⟩)) (fun s1 h1 h2 => ?_) (by unfold hU; omega)
        rw [← h2]
        exact ih 0 s1 (by decide) h1 (by omega) (by rw [if_neg (by decide), if_pos rfl, h2]; omega)
      · rw [if_neg q1]
        have q2 : q = 2 := by omega
        subst q2
        rw [if_pos rfl] at hf
        have te := txE_in (t := t) hp
        have gd : psD (gin t n s) = psD s + 1 := gin_D
        have gI : ∀ q, q < 3 → psB (gin t n s) = 0 → Gd t n true (hU q (psD s + 1)) (gin t n s) (uG t n f q (gin t n s)) := fun q hq bg => by
          obtain ⟨d1, b1, e1⟩ := gin_L bg
          have gp : psP (gin t n s) ≤ n := by rw [e1]; exact te.2.1
          rw [← gd]
          refine ih q (gin t n s) hq gp (by omega) ?_
          rw [gd]
          have : (if q = 2 then 0 else if q = 0 then 1 else 2) ≤ 2 := by
            split
            · omega
            · split <;> omega
          omega
        have gD : ∀ q, q < 3 → psD (uG t n f q (gin t n s)) = psD s + 1 := fun q hq => by
          by_cases bg : psB (gin t n s) = 0
          · exact (gI q hq bg).1.trans gd
          · rw [uG_d bg]; exact gd
        by_cases b : psB s = 0
        · have A := aG_30 (t := t) hp hd
          have AD : psD (aG t n 30 1 s) = psD s := A.1
          refine ⟨?_, fun y => absurd b y, fun _ => ?_⟩
          · unfold bUn
            rw [if_pos b]
            cases c1 : isW t n (psP s) 13
            · rw [if_neg (by decide)]
              by_cases c2 : txK t n (psP s) = 91
              · rw [if_pos c2]
                show psD (mS t n 93 (uG t n f 1 (gin t n s))) - 1 = psD s
                rw [mS_D, gD 1 (by decide)]
                exact Nat.add_sub_cancel _ _
              · rw [if_neg c2]
                by_cases b1 : psB (aG t n 30 1 s) = 0
                · rw [if_pos b1]
                  split
                  · rw [lay_D]
                    have AP := ((A.2.2 b).2 b1).2.1
                    have te1 := txE_in (t := t) AP
                    exact (aG_30 (t := t) (s := rdS t n (aG t n 30 1 s)) te1.2.1 (by show psD (aG t n 30 1 s) ≤ 6; omega)).1.trans AD
                  · rw [blm_D]; exact AD
                · rw [if_neg b1]; exact AD
            · rw [if_pos rfl]
              show psD (lay 18 (uG t n f 2 (gin t n s))) - 1 = psD s
              rw [lay_D, gD 2 (by decide)]
              exact Nat.add_sub_cancel _ _
          · unfold bUn
            rw [if_pos b]
            cases c1 : isW t n (psP s) 13
            · rw [if_neg (by decide)]
              by_cases c2 : txK t n (psP s) = 91
              · rw [if_pos c2]
                refine ⟨fun k3 => by omega, fun bo => ?_⟩
                have bm : psB (mS t n 93 (uG t n f 1 (gin t n s))) = 0 := bo
                obtain ⟨b2, k2, e2⟩ := mS_L bm
                have bg : psB (gin t n s) = 0 := by
                  by_cases z : psB (gin t n s) = 0
                  · exact z
                  · rw [uG_d z] at b2; exact absurd b2 z
                have d1 := (gin_L bg).1
                have hh : hU 1 (psD s + 1) = hU 2 (psD s) := by
                  unfold hU
                  rw [if_neg (by decide), if_neg (by decide), if_pos rfl]
                  omega
                have z := gI 1 (by decide) bg
                rw [hh] at z
                exact LV_in hp bg (by omega) (z.2.2 bg).2 bm (by decide)
              · rw [if_neg c2]
                refine ⟨fun k3 => ?_, fun bo => ?_⟩
                · have y := (A.2.2 b).1 k3
                  rw [if_neg (by omega)]
                  exact y
                · by_cases b1 : psB (aG t n 30 1 s) = 0
                  · rw [if_pos b1] at bo ⊢
                    by_cases c3 : txK t n (psP (aG t n 30 1 s)) = 61 ∨ txK t n (psP (aG t n 30 1 s)) = 60 ∨ txK t n (psP (aG t n 30 1 s)) = 62
                    · rw [if_pos c3] at bo ⊢
                      rw [lay_B] at bo
                      obtain ⟨a1, a2, a3, a4, a5, a6⟩ := (A.2.2 b).2 b1
                      have te1 := txE_in (t := t) a2
                      have tb1 := txB_in (t := t) a2
                      have te3 := te1.2.2 (by omega)
                      have A2 := aG_30 (t := t) (s := rdS t n (aG t n 30 1 s)) te1.2.1 (by show psD (aG t n 30 1 s) ≤ 6; omega)
                      obtain ⟨e1, e2, e3, e4, e5, e6⟩ := (A2.2.2 b1).2 bo
                      have e1' : txE t n (psP (aG t n 30 1 s)) < psP (aG t n 30 1 (rdS t n (aG t n 30 1 s))) := e1
                      have e3' : psG (aG t n 30 1 s) 3 ≤ psG (aG t n 30 1 (rdS t n (aG t n 30 1 s))) 3 := e3
                      have e4' : psG (aG t n 30 1 (rdS t n (aG t n 30 1 s))) 3 + txE t n (psP (aG t n 30 1 s)) ≤ psG (aG t n 30 1 s) 3 + psP (aG t n 30 1 (rdS t n (aG t n 30 1 s))) := e4
                      have hh : hU 2 (psD s) = hQ 1 (psD s) + 1 := by
                        unfold hU hQ
                        rw [if_pos rfl, if_neg (by decide), if_pos rfl]
                        omega
                      have hd2 : hQ 1 (psD (rdS t n (aG t n 30 1 s))) = hQ 1 (psD s) := by
                        show hQ 1 (psD (aG t n 30 1 s)) = _
                        rw [AD]
                      rw [hh]
                      refine LV_lay (x := false) bo (by omega) e2 (by omega) (by omega) (fun k q1 q2 => (e5 k q1 (by show k < 299 + psG (aG t n 30 1 s) 3; omega)).trans (a5 k q1 q2)) (Or.inr (Or.inl ?_)) (fun tt htt => ?_) (by unfold hQ; omega)
                      · split
                        · exact ⟨by decide, by decide, rfl, rfl⟩
                        · split
                          · exact ⟨by decide, by decide, rfl, rfl⟩
                          · exact ⟨by decide, by decide, rfl, rfl⟩
                      · refine TY_trans (TY_g (fun k q1 q2 => e5 _ (by omega) (by show 299 + k < 299 + psG (aG t n 30 1 s) 3; omega)) (a6 tt (by omega))) (e6 (false :: tt) ?_)
                        rw [hd2]
                        show tt.length + 1 + _ ≤ 64
                        omega
                    · rw [if_neg c3] at bo; exact absurd bo (blm_B (by decide))
                  · rw [if_neg b1] at bo; exact absurd bo b1
            · rw [if_pos rfl]
              have k1 := isW_1 c1
              refine ⟨fun k3 => by omega, fun bo => ?_⟩
              have bl : psB (lay 18 (uG t n f 2 (gin t n s))) = 0 := bo
              rw [lay_B] at bl
              have bg : psB (gin t n s) = 0 := by
                by_cases z : psB (gin t n s) = 0
                · exact z
                · rw [uG_d z] at bl; exact absurd bl z
              obtain ⟨d1, b1, e1⟩ := gin_L bg
              have z := gI 2 (by decide) bg
              have te3 := te.2.2 (by omega)
              have tb := txB_in (t := t) hp
              obtain ⟨a1, a2, a3, a4, a5, a6⟩ := (z.2.2 bg).2 bl
              rw [e1] at a1 a3 a4 a5 a6
              obtain ⟨s2, hs2⟩ : ∃ s2, s2 = uG t n f 2 (gin t n s) := ⟨_, rfl⟩
              rw [← e1, ← hs2] at a1 a3 a4 a5 a6
              rw [← hs2] at a2 bl ⊢
              rw [lay_l bl]
              have a1' : txE t n (psP s) < psP s2 := by rw [e1] at a1; exact a1
              have a3' : psG s 3 ≤ psG s2 3 := by rw [e1] at a3; exact a3
              have a4' : psG s2 3 + txE t n (psP s) ≤ psG s 3 + psP s2 := by rw [e1] at a4; exact a4
              have a5' : ∀ k, k ≠ 3 → k < 299 + psG s 3 → psG s2 k = psG s k := by rw [e1] at a5; exact a5
              have a6' : ∀ tt : List Bool, tt.length + hU 2 (psD s + 1) ≤ 64 → TY (psG s2) (psG s 3) (psG s2 3) tt (true :: tt) := by rw [e1] at a6; exact a6
              have g3 : layG 18 (psG s2) 3 = psG s2 3 + 1 := if_pos rfl
              have gk : ∀ k, k ≠ 3 → k < 299 + psG s2 3 → layG 18 (psG s2) k = psG s2 k := fun k k1 k2 => by
                unfold layG
                rw [if_neg k1, if_neg (by omega)]
              refine ⟨?_, a2, ?_, ?_, fun k q1 q2 => ?_, fun tt htt => ?_⟩
              · show psP s < psP s2
                omega
              · show psG s 3 ≤ layG 18 (psG s2) 3
                omega
              · show layG 18 (psG s2) 3 + psP s ≤ psG s 3 + psP s2
                omega
              · show layG 18 (psG s2) k = psG s k
                rw [gk k q1 (by omega)]
                exact a5' k q1 q2
              · show TY (layG 18 (psG s2)) (psG s 3) (layG 18 (psG s2) 3) tt (true :: tt)
                rw [g3]
                have hl : hU 2 (psD s + 1) ≤ hU 2 (psD s) := by unfold hU; omega
                refine TY_trans (TY_g (fun k q1 q2 => gk _ (by omega) (by omega)) (a6' tt (by omega))) (TY_not ?_ ?_)
                · unfold layG; rw [if_neg (by omega), if_pos rfl]
                · have : 4 ≤ hU 2 (psD s) := by unfold hU; omega
                  omega
        · unfold bUn
          rw [if_neg b]
          exact ⟨rfl, fun _ => rfl, fun y => absurd y b⟩
theorem uG_30 {s : pst} (hp : psP s ≤ n) (hd : psD s ≤ 6) : Gd t n true (hU 1 (psD s)) s (uG t n 30 1 s) := uG_G 30 1 s (by decide) hp hd (by rw [if_neg (by decide), if_neg (by decide)]; omega)
end GQ
