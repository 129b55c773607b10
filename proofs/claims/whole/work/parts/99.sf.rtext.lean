/-! 99.sf: the reference reads a text -/
section RX
variable {u z : Wd} {t : Nat → Nat} {n : Nat} {s : pst} {K : Wd → Prop}
theorem r_51 {x f : Nat} (M : okM u 245) (R : RZ u z t n s) (h2 : psB s = 0 → psG s 2 < 6) (hk : ∀ z', RZ u z' t n (if psB s = 0 then setG (addH (psG s) x f) s else s) → K z') : j_X12_readHouse_51 K 245 (nI x) (nI f) z := by
  have Mz := RZ_M M R
  have m1 := okM_tell Mz
  unfold j_X12_readHouse_51
  refine ⟨Mz.1, ?_⟩
  by_cases b : psB s = 0
  · rw [if_pos b] at hk
    have h2 := h2 b
    have e2 : wI z 247 2 = nI (psG s 2) := R.2.2.2.2.1 2 (by decide)
    have R1 := RZ_up (j := 67 + psG s 2) (v := x) R
    have e3 : wI (uI z 247 (67 + psG s 2) (nI x)) 247 2 = nI (psG s 2) := by rw [wI_uI, if_neg (by omega)]; exact e2
    have R2 := RZ_up (j := 73 + psG s 2) (v := f) R1
    have e4 : wI (uI (uI z 247 (67 + psG s 2) (nI x)) 247 (73 + psG s 2) (nI f)) 247 2 = nI (psG s 2) := by rw [wI_uI, if_neg (by omega)]; exact e3
    have R3 := RZ_up (j := 2) (v := psG s 2 + 1) R2
    rw [m1.1, m1.2.2, show (2 : Int32).toNatClampNeg = 2 from rfl, e2, show (67 + nI (psG s 2) : Int32) = nI (67 + psG s 2) from nI_add 67 _, nI_clamp (n := 67 + psG s 2) (by omega), e3, show (73 + nI (psG s 2) : Int32) = nI (73 + psG s 2) from nI_add 73 _, nI_clamp (n := 73 + psG s 2) (by omega), e4, show (nI (psG s 2) + 1 : Int32) = nI (psG s 2 + 1) from nI_add _ 1]
    exact br_t ((RZ_b R).mpr b) ⟨m1.2.1, vp_in_nI (n := 2) (by decide) (by decide), vp_in_nI (by omega) (by decide), vp_in_nI (n := 2) (by decide) (by decide), vp_in_nI (by omega) (by decide), vp_in_nI (n := 2) (by decide) (by decide), vp_in_nI (n := 2) (by decide) (by decide), hk _ R3⟩
  · rw [if_neg b] at hk
    exact br_f (fun y => b ((RZ_b R).mp y)) (hk z R)
theorem r_hs {E : Nat → Int32 → Int32 → Wd → Prop} {x0 : Int32} (M : okM u 245) (T : TPt u t n) : ∀ F s x z, psG s 1 ≤ 10 → (psB s = 0 → n ≤ F + psP s) → RZ u z t n s → (∀ z', RZ u z' t n (hsS t n (F + 1) s) → E 245 x0 (nI (hsV t n (F + 1) s x)) z') → l_X12_readHouse_27 E K (F + 1) 245 x0 (nI x) z := by
  intro F
  induction F with
  | zero =>
    intro s x z h1 hf R hE
    have gA : psG (bzA t n s) = psG s := (RO_bzA (t := t) (n := n) (s := s)).1
    have nc : ¬ (psB (bzA t n s) = 0 ∧ txK t n (psP (bzA t n s)) = 2) := fun c => by
      obtain ⟨q1, q2, -⟩ := bzA_L c.1
      have L := R.2.2.2.2.2.1 q1
      have := txB_in (t := t) L.1
      have := (txK_2 q2).1
      have := hf q1
      omega
    have v10 : bzV t n s < 11 := by
      unfold bzV numV
      split
      · rename_i c; omega
      · omega
    unfold hsS hsV at hE
    rw [if_neg nc, if_neg nc] at hE
    refine ⟨RZ_1 M R, r_wt M T R h1 (fun z' R' => ⟨RZ_1 M R', ?_⟩)⟩
    rw [p_one (by omega), fa_or]
    by_cases b : psB (bzA t n s) = 0
    · refine br_t ((RZ_b R').mpr b) (br_f (fun y => nc ⟨b, (RZ_K T R' b (c := 2) (by decide)).mp y⟩) (hE z' R'))
    · exact br_f (fun y => b ((RZ_b R').mp y)) (hE z' R')
  | succ F ih =>
    intro s x z h1 hf R hE
    have gA : psG (bzA t n s) = psG s := (RO_bzA (t := t) (n := n) (s := s)).1
    have v10 : bzV t n s < 11 := by
      unfold bzV numV
      split
      · rename_i c; omega
      · omega
    unfold hsS hsV at hE
    refine ⟨RZ_1 M R, r_wt M T R h1 (fun z' R' => ⟨RZ_1 M R', ?_⟩)⟩
    rw [p_one (by omega), fa_or]
    by_cases c : psB (bzA t n s) = 0 ∧ txK t n (psP (bzA t n s)) = 2
    · rw [if_pos c, if_pos c] at hE
      obtain ⟨q1, q2, q3, q4, q5⟩ := bzA_L c.1
      have L := R.2.2.2.2.2.1 q1
      have l := rd_lt L.1 (show txK t n (psP s) ≠ 0 by omega)
      have := hf q1
      exact br_t ((RZ_b R').mpr c.1) (br_t ((RZ_K T R' c.1 (c := 2) (by decide)).mpr c.2) (ih (bzA t n s) _ z' (by rw [gA]; exact h1) (fun _ => by rw [q5]; omega) R' hE))
    · rw [if_neg c, if_neg c] at hE
      by_cases b : psB (bzA t n s) = 0
      · exact br_t ((RZ_b R').mpr b) (br_f (fun y => c ⟨b, (RZ_K T R' b (c := 2) (by decide)).mp y⟩) (hE z' R'))
      · exact br_f (fun y => b ((RZ_b R').mp y)) (hE z' R')
theorem r_house (M : okM u 245) (T : TPt u t n) (R : RZ u z t n s) (h1 : psG s 1 ≤ 10) (h2 : psG s 2 ≤ 6) (hk : ∀ z', RZ u z' t n (houseS t n s) → K z') : w_X12_readHouse 245 K z := by
  have hn := T.1
  unfold houseS at hk
  obtain ⟨s1, hs1⟩ : ∃ s1, s1 = begS t n 2 6 s := ⟨_, rfl⟩
  have g1 : psG s1 = psG s := by rw [hs1]; exact (RO_beg (t := t) (n := n) (s := s) (k := 2) (m := 6)).1
  have w6 : psB s1 = 0 → psG s 2 < 6 := fun b => by
    rw [hs1] at b
    have := (beg_L b).2.1
    omega
  rw [← hs1] at hk
  refine ⟨RZ_1 M R, r_beg (k := 2) (m := 6) M T R (by decide) (by omega) (by decide) (fun b z' R' => ?_) (fun b z' R' => br_t rfl (hk z' ?_))⟩
  · rw [← hs1] at b R'
    rw [if_pos b] at hk
    have gA : psG (hsA t n s1) = psG s := (RO_hsA (t := t) (n := n) (s := s1)).1.trans g1
    have gS : psG (hsS t n 901 (hsA t n s1)) = psG s := (RO_hsS (t := t) 901 (hsA t n s1)).1.trans gA
    refine br_f (by decide) ⟨RZ_1 M R', r_num (lo := 1) (hi := 100) M T R' rfl (by decide) (by decide) (fun z2 R2 => ⟨RZ_1 M R2, r_mW M T R2 (by decide) (fun z3 R3 => ⟨901, r_hs (x0 := nI (numV t n 1 100 s1)) M T 900 (hsA t n s1) 0 z3 (by rw [gA]; exact h1) (fun _ => by omega) R3 (fun z4 R4 => ?_)⟩)⟩)⟩
    refine r_51 (s := hsS t n 901 (hsA t n s1)) M R4 (fun _ => by rw [gS]; exact w6 b) (fun z5 R5 => hk z5 ?_)
    by_cases bS : psB (hsS t n 901 (hsA t n s1)) = 0
    · rw [if_pos bS] at R5 ⊢
      rw [gS, ← g1] at R5
      exact R5
    · rw [if_neg bS] at R5 ⊢
      exact R5
  · rw [← hs1] at b R'
    rw [if_neg b]
    exact R'
theorem r_stop (M : okM u 245) (T : TPt u t n) (R : RZ u z t n s) (hk : ∀ z', RZ u z' t n (stS t n s) → K z') : w_X12_readStop 245 K z := by
  refine ⟨RZ_1 M R, r_mS (c := 59) M T R (by decide) (fun z' R' => ?_)⟩
  have Mz := RZ_M M R'
  have m1 := okM_tell Mz
  refine ⟨Mz.1, ?_⟩
  unfold stS at hk
  by_cases b : psB (mS t n 59 s) = 0
  · rw [if_pos b] at hk
    have R2 := RZ_up (j := 0) (v := psG (mS t n 59 s) 0 + 1) R'
    rw [m1.1, m1.2.2, show (0 : Int32).toNatClampNeg = 0 from rfl, R'.2.2.2.2.1 0 (by decide), show (nI (psG (mS t n 59 s) 0) + 1 : Int32) = nI (psG (mS t n 59 s) 0 + 1) from nI_add _ 1]
    exact br_t ((RZ_b R').mpr b) ⟨m1.2.1, vp_in_nI (n := 0) (by decide) (by decide), vp_in_nI (n := 0) (by decide) (by decide), hk _ R2⟩
  · rw [if_neg b] at hk
    exact br_f (fun y => b ((RZ_b R').mp y)) (hk z' R')
theorem r_line (M : okM u 245) (T : TPt u t n) (R : RZ u z t n s) (b : psB s = 0) (V : TIs n s) (hk : ∀ z', RZ u z' t n (lineS t n s) → K z') : w_X12_readLine 245 K z := by
  have M1 := RZ_1 M R
  have h1 := V.2.2.1.1.1
  have h2 := V.2.2.1.1.2.1
  unfold lineS lnS at hk
  refine ⟨M1, r_wd (a := 3) M T R (by decide) ?_⟩
  cases c1 : isWd t n 3 s
  case true =>
    rw [c1, if_pos rfl] at hk
    exact br_f (by decide) ⟨M1, r_well M T R h1 (fun z' R' => ⟨RZ_1 M R', r_stop M T R' hk⟩)⟩
  rw [c1, if_neg bft] at hk
  refine br_t rfl ⟨M1, r_wd (a := 10) M T R (by decide) ?_⟩
  cases c2 : isWd t n 10 s
  case true =>
    rw [c2, if_pos rfl] at hk
    exact br_f (by decide) ⟨M1, r_house M T R h1 h2 (fun z' R' => ⟨RZ_1 M R', r_stop M T R' hk⟩)⟩
  rw [c2, if_neg bft] at hk
  refine br_t rfl ⟨M1, r_took (a := 9) M T R (by decide) (fun c3 z' R' => ?_) (fun c3 => br_t rfl ⟨M1, r_took (a := 19) M T R (by decide) (fun c4 z' R' => ?_) (fun c4 => br_t rfl ⟨M1, r_took (a := 12) M T R (by decide) (fun c5 z' R' => ?_) (fun c5 => br_t rfl ⟨M1, ?_⟩)⟩)⟩)⟩
  · rw [c3, if_pos rfl] at hk
    exact br_f (by decide) ⟨RZ_1 M R', r_bes M T R' h1 (fun z2 R2 => ⟨RZ_1 M R2, r_stop M T R2 hk⟩)⟩
  · rw [c3, if_neg bft, c4, if_pos rfl] at hk
    have m1 := okM_tell (RZ_M M R')
    refine br_f (by decide) ⟨RZ_1 M R', ?_⟩
    rw [m1.1]
    refine ⟨m1.2.1, r_num (lo := 0) (hi := 1000) M T R' rfl (by decide) (by decide) (fun z2 R2 => ?_)⟩
    have m2 := okM_tell (RZ_M M R2)
    rw [m2.2.2]
    have R3 := RZ_up (j := 26) (v := numV t n 0 1000 (rdS t n s)) R2
    have gN : psG (numS t n 0 1000 (rdS t n s)) = psG (rdS t n s) := (RO_num (t := t) (n := n) (s := rdS t n s)).1
    rw [gN] at R3
    exact ⟨m2.2.1, vp_in_nI (n := 26) (by decide) (by decide), RZ_1 M R2, r_stop M T R3 hk⟩
  · rw [c3, if_neg bft, c4, if_neg bft, c5, if_pos rfl] at hk
    have m1 := okM_tell (RZ_M M R')
    have tb := isWd_T c5
    have l := rd_lt V.1 tb.2
    refine br_f (by decide) ⟨RZ_1 M R', ?_⟩
    rw [m1.1, m1.2.2]
    have R3 := RZ_up (j := 3) (v := 0) R'
    refine ⟨m1.2.1, vp_in_nI (n := 3) (by decide) (by decide), r_truth (s := setG (upG 3 0 (psG s)) (rdS t n s)) M T ⟨?_, fun _ => ⟨?_, l.2, ?_⟩⟩ R3 (fun z2 R2 => ⟨RZ_1 M R2, r_stop M T R2 hk⟩)⟩
    · show psD s ≤ 7
      rw [V.2.1]; decide
    · show psD s ≤ 6
      rw [V.2.1]; decide
    · show upG 3 0 (psG s) 3 ≤ _
      rw [upG_s]
      exact Nat.zero_le _
  · rw [c3, if_neg bft, c4, if_neg bft, c5, if_neg bft] at hk
    exact r_blm (k := 2) M T R (by decide) (fun z' R' => ⟨RZ_1 M R', r_stop M T R' hk⟩)
theorem r_text {E : Nat → Wd → Prop} {K : Int32 → Wd → Prop} (M : okM u 245) (T : TPt u t n) : ∀ F s z, (psB s = 0 → TIs n s ∧ n < F + psP s) → RZ u z t n s → (∀ z', RZ u z' t n (textS t n F s) → (psB (textS t n F s) = 0 → TIs n (textS t n F s)) → E 245 z') → l_X12_hills_76 E K (F + 1) 245 z := by
  have hn := T.1
  intro F
  induction F with
  | zero =>
    intro s z V R hE
    have b : psB s ≠ 0 := fun y => by
      have := V y
      have := this.1.1
      omega
    exact ⟨RZ_1 M R, br_f (fun y => b ((RZ_b R).mp y)) (hE z R (fun y => absurd y b))⟩
  | succ F ih =>
    intro s z V R hE
    refine ⟨RZ_1 M R, ?_⟩
    unfold textS at hE
    by_cases b : psB s = 0
    · have V' := V b
      refine br_t ((RZ_b R).mpr b) ?_
      by_cases k : txK t n (psP s) = 0
      · rw [if_neg (fun y => y.2 k)] at hE
        exact br_t ((RZ_K T R b (c := 0) (by decide)).mpr k) (hE z R (fun _ => V'.1))
      · rw [if_pos ⟨b, k⟩] at hE
        refine br_f (fun y => k ((RZ_K T R b (c := 0) (by decide)).mp y)) (r_line M T R b V'.1 (fun z' R' => ih _ z' (fun b' => ?_) R' hE))
        obtain ⟨a1, a2, -⟩ := TI_line (t := t) V'.1 hn b'
        exact ⟨a1, by omega⟩
    · rw [if_neg (fun y => b y.1)] at hE
      exact br_f (fun y => b ((RZ_b R).mp y)) (hE z R (fun y => absurd y b))
end RX
