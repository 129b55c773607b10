/-! 99.sj: the class reads houses and laws -/
section CJ
variable {w z : Wd} {h n : Nat} {t : Nat → Nat} {s : pst} {K : Int32 → Wd → Prop}
theorem told_1 (v : Nat) (hv : v ≤ 999) : nI v = -1 ↔ false = true := ⟨fun e => by
  have y := congrArg Int32.toInt e
  rw [nI_toInt (by omega), show (-1 : Int32).toInt = -1 from by decide] at y
  omega, fun e => Bool.noConfusion e⟩
theorem lz_hs {x0 : Nat} : ∀ F q x i z, LZ w z h t n q → n ≤ F + psP q → i ≤ psP q → psG q 1 ≤ 10 → psG q 2 < 6 → (psB (if txK t n (psP q) = 2 then hsS t n F q else q) = 0 → txK t n (psP (if txK t n (psP q) = 2 then hsS t n F q else q)) ≠ 3 → ∀ z', LZ w z' h t n (setG (addH (psG q) x0 (if txK t n (psP q) = 2 then hsV t n F q x else x)) (if txK t n (psP q) = 2 then hsS t n F q else q)) → K 1 z') → (∀ k pl, DDp t n (if txK t n (psP q) = 2 then hsS t n F q else q) k pl → ∀ z', LFa w z' k pl → K 0 z') → l_X7_readHouse_70 K (F + 1) 238 (nI x0) (nI x) (nI i) z := by
  intro F
  induction F with
  | zero =>
    intro q x i z L hf hi h10 h6 hy hx
    have nc : ¬ txK t n (psP q) = 2 := fun c => by
      have := (txK_2 c).1
      have := txB_in (t := t) L.2.2.1.2.2.2.1
      omega
    rw [if_neg nc, if_neg nc] at hy
    have fin : isK z h 1 ∧ w_X1_addHouse h (nI x0) (nI x) (fun w23 => K 1 w23) z := ⟨L.2.2.2.1.1, lz_addH L h6 (fun z' L' => hy L.2.1 L.2.2.1.2.2.2.2.1 z' L')⟩
    unfold l_X7_readHouse_70
    rw [L.1.2.2.2.1, L.2.2.1.2.2.2.2.2.2.2.1]
    exact ⟨fun _ => ⟨LZ_1 L, fin⟩, fun _ => ⟨LZ_1 L, br_f (fun y => nc (ckI_1.mp y)) fin⟩⟩
  | succ F ih =>
    intro q x i z L hf hi h10 h6 hy hx
    have hn := L.1.2.2.1.1
    unfold l_X7_readHouse_70
    rw [L.1.2.2.2.1, L.2.2.1.2.2.2.2.2.2.2.1]
    by_cases c : txK t n (psP q) = 2
    · rw [if_pos c, if_pos c] at hy
      rw [if_pos c] at hx
      have tb := (txK_2 c).1
      have tb2 := txB_in (t := t) L.2.2.1.2.2.2.1
      have gA : psG (bzA t n q) = psG q := (RO_bzA (t := t) (n := n) (s := q)).1
      have v10 : bzV t n q < 11 := by
        unfold bzV numV
        split
        · rename_i c; omega
        · omega
      refine br_f (nI_ge (b := 900) (by omega) (by decide)) ⟨LZ_1 L, br_t (ckI_1.mpr c) (lz_told (un := false) L h10 (fun k => told_1 _ (txK_2 k).2.2.2) (fun e => Bool.noConfusion e) (fun _ b2 k2 z2 L2 v2 => br_f (by decide) ⟨LZ_1 L2, ?_⟩) (fun _ k pl D z' Fa => br_t rfl (hx k pl ?_ z' Fa)))⟩
      · rw [v2, p_one (by omega), fa_or, show (nI i + 1 : Int32) = nI (i + 1) from nI_add i 1]
        obtain ⟨q1, q2, q3, q4, q5⟩ := bzA_L b2
        have l := rd_lt (t := t) L.2.2.1.2.2.2.1 (show txK t n (psP q) ≠ 0 by omega)
        rw [← q5] at l
        have eS : hsS t n (F + 1) q = if txK t n (psP (bzA t n q)) = 2 then hsS t n F (bzA t n q) else bzA t n q := by
          show (if psB (bzA t n q) = 0 ∧ txK t n (psP (bzA t n q)) = 2 then hsS t n F (bzA t n q) else bzA t n q) = _
          by_cases k : txK t n (psP (bzA t n q)) = 2
          · rw [if_pos ⟨b2, k⟩, if_pos k]
          · rw [if_neg (fun y => k y.2), if_neg k]
        have eV : hsV t n (F + 1) q x = if txK t n (psP (bzA t n q)) = 2 then hsV t n F (bzA t n q) (x ||| 2 ^ bzV t n q) else x ||| 2 ^ bzV t n q := by
          show (if psB (bzA t n q) = 0 ∧ txK t n (psP (bzA t n q)) = 2 then hsV t n F (bzA t n q) (x ||| 2 ^ bzV t n q) else x ||| 2 ^ bzV t n q) = _
          by_cases k : txK t n (psP (bzA t n q)) = 2
          · rw [if_pos ⟨b2, k⟩, if_pos k]
          · rw [if_neg (fun y => k y.2), if_neg k]
        rw [eS, eV, ← gA] at hy
        rw [eS] at hx
        exact ih (bzA t n q) (x ||| 2 ^ bzV t n q) (i + 1) z2 L2 (by omega) (by omega) (by rw [gA]; exact h10) (by rw [gA]; exact h6) hy hx
      · show DDp t n (if psB (bzA t n q) = 0 ∧ txK t n (psP (bzA t n q)) = 2 then hsS t n F (bzA t n q) else bzA t n q) k pl
        rw [if_neg (fun y => by
          rcases D with ⟨d1, d2, d3⟩ | ⟨d1, d2, d3, d4⟩
          · omega
          · omega)]
        exact D
    · rw [if_neg c, if_neg c] at hy
      have fin : isK z h 1 ∧ w_X1_addHouse h (nI x0) (nI x) (fun w23 => K 1 w23) z := ⟨L.2.2.2.1.1, lz_addH L h6 (fun z' L' => hy L.2.1 L.2.2.1.2.2.2.2.1 z' L')⟩
      exact ⟨fun _ => ⟨LZ_1 L, fin⟩, fun _ => ⟨LZ_1 L, br_f (fun y => c (ckI_1.mp y)) fin⟩⟩
theorem lz_house (L : LZ w z h t n s) (h10 : psG s 1 ≤ 10) (h6 : psG s 2 ≤ 6) (hy : psB (houseS t n s) = 0 → txK t n (psP (houseS t n s)) ≠ 3 → ∀ z', LZ w z' h t n (houseS t n s) → K 1 z') (hx : ∀ k pl, DDp t n (houseS t n s) k pl → ∀ z', LFa w z' k pl → K 0 z') : w_X7_readHouse 238 K z := by
  have D := L.2.2.2.1
  have b := L.2.1
  have hn := L.1.2.2.1.1
  unfold w_X7_readHouse
  rw [L.1.2.2.2.1, D.2.1.2.2.1]
  refine ⟨LZ_1 L, D.1, ?_⟩
  unfold houseS at hy hx
  by_cases c : psG s 2 = 6
  · have e : begS t n 2 6 s = blm t n 4 s := if_pos c
    have nb : psB (blm t n 4 s) ≠ 0 := blm_B (by decide)
    rw [e, if_neg nb] at hx
    exact br_f (nI_nlt (b := 6) (by omega) (by omega)) (lz_ref (k := 4) L (fun z' F => hx 4 _ (L_DD L (by decide)) z' F))
  · have e : begS t n 2 6 s = rdS t n s := by
      unfold begS
      rw [if_neg c, if_pos b]
    have b1 : psB (rdS t n s) = 0 := b
    rw [e, if_pos b1] at hy hx
    obtain ⟨s1, hs1⟩ : ∃ s1, s1 = rdS t n s := ⟨_, rfl⟩
    have g1 : psG s1 = psG s := by rw [hs1]; rfl
    rw [← hs1] at hy hx b1
    have dS : ∀ k pl, DDp t n (hsS t n 901 (hsA t n s1)) k pl → ∀ z', LFa w z' k pl → K 0 z' := fun k pl Dd => by
      refine hx k pl ?_
      split
      · exact DD_set Dd
      · exact Dd
    have dA : ∀ k pl, DDp t n (hsA t n s1) k pl → ∀ z', LFa w z' k pl → K 0 z' := fun k pl Dd => dS k pl (DD_hsS Dd 900)
    have dN : ∀ k pl, DDp t n (numS t n 1 100 s1) k pl → ∀ z', LFa w z' k pl → K 0 z' := fun k pl Dd => dA k pl (DD_mW Dd)
    have gA : psG (hsA t n s1) = psG s := (RO_hsA (t := t) (n := n) (s := s1)).1.trans g1
    refine br_t (nI_lt (b := 6) (by omega) (by decide)) (lz_adv L (fun k2 z2 L2 _ => br_f (by decide) ⟨LZ_1 L2, ?_⟩) (fun k pl Dd z' F => br_t rfl (dN k pl (DD_num (by rw [hs1]; exact Dd)) z' F)))
    rw [← hs1] at L2
    refine lz_num (lo := 1) (hi := 100) L2 rfl (by decide) (by decide) (fun b3 k3 z3 L3 v3 => br_f (by decide) ⟨LZ_1 L3, lz_mW L3 (by decide) (fun b4 k4 z4 L4 => br_f (by decide) ⟨LZ_1 L4, ?_⟩) (fun k pl Dd z' F => br_t rfl (dA k pl Dd z' F))⟩) (fun k pl Dd z' F => br_t rfl (dN k pl Dd z' F))
    have L4' : LZ w z4 h t n (hsA t n s1) := L4
    refine lz_told (un := false) L4' (by rw [gA]; exact h10) (fun k => told_1 _ (txK_2 k).2.2.2) (fun e => Bool.noConfusion e) (fun _ b5 k5 z5 L5 v5 => br_f (by decide) ⟨LZ_1 L5, 901, ?_⟩) (fun _ k pl Dd z' F => br_t rfl (dS k pl ?_ z' F))
    · have v10 : bzV t n (hsA t n s1) < 11 := by
        unfold bzV numV
        rw [gA]
        split
        · rename_i c; omega
        · omega
      have gB : psG (bzA t n (hsA t n s1)) = psG s := (RO_bzA (t := t) (n := n) (s := hsA t n s1)).1.trans gA
      have eS : hsS t n 901 (hsA t n s1) = if txK t n (psP (bzA t n (hsA t n s1))) = 2 then hsS t n 900 (bzA t n (hsA t n s1)) else bzA t n (hsA t n s1) := by
        show (if psB (bzA t n (hsA t n s1)) = 0 ∧ txK t n (psP (bzA t n (hsA t n s1))) = 2 then hsS t n 900 (bzA t n (hsA t n s1)) else bzA t n (hsA t n s1)) = _
        by_cases k : txK t n (psP (bzA t n (hsA t n s1))) = 2
        · rw [if_pos ⟨b5, k⟩, if_pos k]
        · rw [if_neg (fun y => k y.2), if_neg k]
      have eV : hsV t n 901 (hsA t n s1) 0 = if txK t n (psP (bzA t n (hsA t n s1))) = 2 then hsV t n 900 (bzA t n (hsA t n s1)) (2 ^ bzV t n (hsA t n s1)) else 2 ^ bzV t n (hsA t n s1) := by
        show (if psB (bzA t n (hsA t n s1)) = 0 ∧ txK t n (psP (bzA t n (hsA t n s1))) = 2 then hsV t n 900 (bzA t n (hsA t n s1)) (0 ||| 2 ^ bzV t n (hsA t n s1)) else 0 ||| 2 ^ bzV t n (hsA t n s1)) = _
        rw [Nat.zero_or]
        by_cases k : txK t n (psP (bzA t n (hsA t n s1))) = 2
        · rw [if_pos ⟨b5, k⟩, if_pos k]
        · rw [if_neg (fun y => k y.2), if_neg k]
      rw [v3, v5, p_one (by omega)]
      refine lz_hs (x0 := numV t n 1 100 s1) 900 (bzA t n (hsA t n s1)) (2 ^ bzV t n (hsA t n s1)) 0 z5 L5 (by omega) (Nat.zero_le _) (by rw [gB]; exact h10) (by rw [gB]; omega) (fun b6 k6 z6 L6 => ?_) (fun k pl Dd z' F => dS k pl (by rw [eS]; exact Dd) z' F)
      rw [← eS] at b6 k6
      rw [if_pos b6] at hy
      refine hy b6 k6 z6 ?_
      rw [← eS, ← eV, gB, ← g1] at L6
      exact L6
    · show DDp t n (if psB (bzA t n (hsA t n s1)) = 0 ∧ txK t n (psP (bzA t n (hsA t n s1))) = 2 then hsS t n 900 (bzA t n (hsA t n s1)) else bzA t n (hsA t n s1)) k pl
      rw [if_neg (fun y => by
        rcases Dd with ⟨d1, d2, d3⟩ | ⟨d1, d2, d3, d4⟩
        · omega
        · omega)]
      exact Dd
end CJ
