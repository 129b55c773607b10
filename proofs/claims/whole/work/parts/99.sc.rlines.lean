/-! 99.sc: the reference reads lines -/
section RI
variable {u z : Wd} {t : Nat → Nat} {n : Nat} {s : pst} {K : Wd → Prop}
theorem RZ_up {j v : Nat} (R : RZ u z t n s) : RZ u (uI z 247 j (nI v)) t n (setG (upG j v (psG s)) s) := by
  have w5 : wI (uI z 247 j (nI v)) 245 = wI z 245 := wI_uI_ne (by decide)
  refine ⟨FRm_7 R.1, by rw [w5]; exact R.2.1, by rw [w5]; exact R.2.2.1, by rw [w5]; exact R.2.2.2.1, fun k hk => ?_, by rw [w5]; exact R.2.2.2.2.2.1, by rw [w5]; exact R.2.2.2.2.2.2⟩
  show _ = nI (if k = j then v else psG s k)
  rw [wI_uI]
  by_cases e : k = j
  · rw [if_pos e, if_pos e]
  · rw [if_neg e, if_neg e]
    exact R.2.2.2.2.1 k hk
theorem r_mW {a : Nat} (M : okM u 245) (T : TPt u t n) (R : RZ u z t n s) (ha : 2 ≤ a ∧ a < 35) (hk : ∀ z', RZ u z' t n (mWd t n a s) → K z') : w_X12_mustWord 245 a K z := by
  unfold mWd at hk
  refine ⟨RZ_1 M R, r_took M T R ha (fun c z' R' => br_f (by decide) (hk z' (by rw [c, if_pos rfl]; exact R'))) (fun c => br_t rfl ⟨RZ_1 M R, r_blm (k := 2) M T R (by decide) (fun z' R' => hk z' (by rw [c, if_neg bft]; exact R'))⟩)⟩
theorem r_beg {k m : Nat} {K : Int32 → Wd → Prop} (M : okM u 245) (T : TPt u t n) (R : RZ u z t n s) (hk3 : k < 1215) (hs : psG s k < 2 ^ 31) (hm : m < 2 ^ 31) (h1 : psB (begS t n k m s) = 0 → ∀ z', RZ u z' t n (begS t n k m s) → K 1 z') (h0 : psB (begS t n k m s) ≠ 0 → ∀ z', RZ u z' t n (begS t n k m s) → K 0 z') : w_X12_begins 245 (nI k) (nI m) K z := by
  have Mz := RZ_M M R
  have m1 := okM_tell Mz
  unfold w_X12_begins
  rw [m1.1, m1.2.2, nI_clamp (by omega), R.2.2.2.2.1 k hk3]
  have dead : ∀ z' s', psB s' ≠ 0 → RZ u z' t n s' → K 0 z' → j_X12_begins_15 K 245 z' := fun z' s' b R' h => ⟨RZ_1 M R', br_f (fun q => b ((RZ_b R').mp q)) (br_f (fun q => b ((RZ_b R').mp q)) h)⟩
  refine ⟨Mz.1, m1.2.1, vp_in_nI hk3 (by decide), ?_⟩
  unfold begS at h1 h0
  by_cases c : psG s k = m
  · rw [if_pos c] at h0
    exact br_t (congrArg nI c) (r_blm (k := 4) M T R (by decide) (fun z' R' => dead z' _ (blm_B (by decide)) R' (h0 (blm_B (by decide)) z' R')))
  · rw [if_neg c] at h0 h1
    refine br_f (nI_ne hs hm c) ?_
    by_cases b : psB s = 0
    · rw [if_pos b] at h1
      exact ⟨Mz.1, br_t ((RZ_b R).mpr b) (r_rd M T R b (fun z' R' => ⟨RZ_1 M R', br_t ((RZ_b R').mpr b) (h1 b z' R')⟩))⟩
    · rw [if_neg b] at h0
      exact dead z s b R (h0 b z R)
theorem r_wt {K : Int32 → Wd → Prop} (M : okM u 245) (T : TPt u t n) (R : RZ u z t n s) (h1 : psG s 1 ≤ 10) (hk : ∀ z', RZ u z' t n (bzA t n s) → K (nI (bzV t n s)) z') : w_X12_wellTold 245 K z := by
  have Mz := RZ_M M R
  have m1 := okM_tell Mz
  unfold w_X12_wellTold
  rw [m1.1, m1.2.2, show (1 : Int32).toNatClampNeg = 1 from rfl, R.2.2.2.2.1 1 (by decide)]
  exact ⟨Mz.1, m1.2.1, vp_in_nI (n := 1) (by decide) (by decide), r_num (lo := 0) (hi := psG s 1) M T R rfl (by decide) (pk_sub_toInt (a := psG s 1) (b := 1) (by omega) (by decide)) hk⟩
theorem r_ch {a lo hi x : Nat} {y : Int32} {A : Int32 → Wd → Prop} (M : okM u 245) (T : TPt u t n) (R : RZ u z t n s) (ha : 2 ≤ a ∧ a < 35) (hlo : lo < 1000) (hy : y.toInt = (hi : Int) - 1) (hk : ∀ z', RZ u z' t n (chS t n a lo hi s) → A (nI (chV t n a lo hi x s)) z') : w_X12_took 245 a (fun r18 w19 => ((r18 = 0 → A (nI x) w19) ∧ (¬ r18 = 0 → isK w19 245 12 ∧ w_X12_number 245 (nI lo) y (fun r46 w47 => A r46 w47) w19))) z := by
  unfold chS chV at hk
  refine r_took M T R ha (fun c z' R' => br_f (by decide) ⟨RZ_1 M R', ?_⟩) (fun c => br_t rfl ?_)
  · rw [c, if_pos rfl, if_pos rfl] at hk
    exact r_num M T R' rfl hlo hy hk
  · rw [c, if_neg bft, if_neg bft] at hk
    exact hk z R
theorem numV_in {lo hi : Nat} (h : lo < hi) : lo ≤ numV t n lo hi s ∧ numV t n lo hi s < hi := by
  unfold numV
  split
  · rename_i c
    exact c.2.2
  · exact ⟨Nat.le_refl _, h⟩
theorem chV_in {a lo hi x : Nat} (h : lo < hi) (h1 : lo ≤ x) (h2 : x < hi) : lo ≤ chV t n a lo hi x s ∧ chV t n a lo hi x s < hi := by
  unfold chV
  split
  · exact numV_in h
  · exact ⟨h1, h2⟩
theorem wlR_in : 2 ≤ wlR t n s ∧ wlR t n s < 13 := numV_in (by decide)
theorem wlU_in : 1 ≤ wlU t n s ∧ wlU t n s < wlR t n s + 1 := numV_in (by have := wlR_in (t := t) (n := n) (s := s); omega)
theorem wlH_in : wlH t n s < wlR t n s := (chV_in (by have := wlR_in (t := t) (n := n) (s := s); omega) (Nat.le_refl _) (by have := wlR_in (t := t) (n := n) (s := s); omega)).2
theorem wlP_in : 1 ≤ wlP t n s ∧ wlP t n s < 100 := chV_in (by decide) (by decide) (by decide)
theorem wlW_in : wlW t n s < wlP t n s + 1 := (chV_in (by omega) (Nat.zero_le _) (by omega)).2
theorem r_112 {w r x h d v : Nat} (M : okM u 245) (R : RZ u z t n s) (hw : psB s = 0 → psG s 1 = w ∧ w < 10) (hk : ∀ z', RZ u z' t n (if psB s = 0 then setG (addW (psG s) r x h d v) s else s) → K z') : j_X12_readWell_112 K 245 (nI w) (nI r) (nI x) (nI h) (nI d) (nI v) z := by
  have Mz := RZ_M M R
  have m1 := okM_tell Mz
  unfold j_X12_readWell_112
  refine ⟨Mz.1, ?_⟩
  by_cases b : psB s = 0
  · rw [if_pos b] at hk
    obtain ⟨e, hw⟩ := hw b
    rw [m1.1, m1.2.2, show (27 + nI w : Int32) = nI (27 + w) from nI_add 27 w, show (37 + nI w : Int32) = nI (37 + w) from nI_add 37 w, show (5 + nI w : Int32) = nI (5 + w) from nI_add 5 w, show (47 + nI w : Int32) = nI (47 + w) from nI_add 47 w, show (15 + nI w : Int32) = nI (15 + w) from nI_add 15 w, nI_clamp (n := 27 + w) (by omega), nI_clamp (n := 37 + w) (by omega), nI_clamp (n := 5 + w) (by omega), nI_clamp (n := 47 + w) (by omega), nI_clamp (n := 15 + w) (by omega), show (1 : Int32).toNatClampNeg = 1 from rfl]
    have R1 := RZ_up (j := 27 + w) (v := r) R
    have R2 := RZ_up (j := 37 + w) (v := x) R1
    have R3 := RZ_up (j := 5 + w) (v := h) R2
    have R4 := RZ_up (j := 47 + w) (v := d) R3
    have R5 := RZ_up (j := 15 + w) (v := v) R4
    have e1 : wI (uI (uI (uI (uI (uI z 247 (27 + w) (nI r)) 247 (37 + w) (nI x)) 247 (5 + w) (nI h)) 247 (47 + w) (nI d)) 247 (15 + w) (nI v)) 247 1 = nI w := by
      rw [wI_uI, if_neg (by omega), wI_uI, if_neg (by omega), wI_uI, if_neg (by omega), wI_uI, if_neg (by omega), wI_uI, if_neg (by omega), R.2.2.2.2.1 1 (by decide), e]
    rw [e1, show (nI w + 1 : Int32) = nI (w + 1) from nI_add w 1]
    have R6 := RZ_up (j := 1) (v := w + 1) R5
    refine br_t ((RZ_b R).mpr b) ⟨m1.2.1, vp_in_nI (by omega) (by decide), vp_in_nI (by omega) (by decide), vp_in_nI (by omega) (by decide), vp_in_nI (by omega) (by decide), vp_in_nI (by omega) (by decide), vp_in_nI (n := 1) (by decide) (by decide), vp_in_nI (n := 1) (by decide) (by decide), hk _ ?_⟩
    unfold addW
    rw [e]
    exact R6
  · rw [if_neg b] at hk
    exact br_f (fun y => b ((RZ_b R).mp y)) (hk z R)
theorem r_well (M : okM u 245) (T : TPt u t n) (R : RZ u z t n s) (h1 : psG s 1 ≤ 10) (hk : ∀ z', RZ u z' t n (wellS t n s) → K z') : w_X12_readWell 245 K z := by
  unfold wellS at hk
  obtain ⟨s1, hs1⟩ : ∃ s1, s1 = begS t n 1 10 s := ⟨_, rfl⟩
  have g1 : psG s1 = psG s := by rw [hs1]; exact (RO_beg (t := t) (n := n) (s := s) (k := 1) (m := 10)).1
  have w10 : psB s1 = 0 → psG s 1 < 10 := fun b => by
    rw [hs1] at b
    unfold begS at b
    by_cases c : psG s 1 = 10
    · rw [if_pos c] at b; exact absurd b (blm_B (by decide))
    · omega
  rw [← hs1] at hk
  refine ⟨RZ_1 M R, r_beg (k := 1) (m := 10) M T R (by decide) (by omega) (by decide) (fun b z' R' => ?_) (fun b z' R' => br_t rfl (hk z' ?_))⟩
  · rw [← hs1] at b R'
    rw [if_pos b] at hk
    have Mz := RZ_M M R'
    have m1 := okM_tell Mz
    have wl := w10 b
    have iR := wlR_in (t := t) (n := n) (s := s1)
    have iU := wlU_in (t := t) (n := n) (s := s1)
    have iP := wlP_in (t := t) (n := n) (s := s1)
    have iW := wlW_in (t := t) (n := n) (s := s1)
    refine br_f (by decide) ⟨Mz.1, ?_⟩
    rw [m1.1, m1.2.2, show (1 : Int32).toNatClampNeg = 1 from rfl, R'.2.2.2.2.1 1 (by decide), g1]
    refine ⟨m1.2.1, vp_in_nI (n := 1) (by decide) (by decide), r_mW M T R' (by decide) (fun z2 R2 => ⟨RZ_1 M R2, r_num (lo := 2) (hi := 13) M T R2 rfl (by decide) (by decide) (fun z3 R3 => ⟨RZ_1 M R3, r_mW M T R3 (by decide) (fun z4 R4 => ⟨RZ_1 M R4, r_num (lo := 1) (hi := wlR t n s1 + 1) M T R4 rfl (by decide) ?_ (fun z5 R5 => ⟨RZ_1 M R5, r_ch (a := 6) (lo := 0) (hi := wlR t n s1) (x := 0) (A := fun r w => j_X12_readWell_66 K 245 (nI (psG s 1)) (nI (wlR t n s1)) (nI (wlU t n s1)) r w) M T R5 (by decide) (by decide) ?_ (fun z6 R6 => ⟨RZ_1 M R6, r_ch (a := 7) (lo := 1) (hi := 100) (x := 10) (A := fun r w => j_X12_readWell_89 K 245 (nI (psG s 1)) (nI (wlR t n s1)) (nI (wlU t n s1)) (nI (wlH t n s1)) r w) M T R6 (by decide) (by decide) (by decide) (fun z7 R7 => ⟨RZ_1 M R7, r_ch (a := 8) (lo := 0) (hi := wlP t n s1 + 1) (x := wlP t n s1) (A := fun r w => j_X12_readWell_112 K 245 (nI (psG s 1)) (nI (wlR t n s1)) (nI (wlU t n s1)) (nI (wlH t n s1)) (nI (wlP t n s1)) r w) M T R7 (by decide) (by decide) ?_ (fun z8 R8 => ?_)⟩)⟩)⟩)⟩)⟩)⟩)⟩
    · show (nI (wlR t n s1)).toInt = _
      rw [nI_toInt (by omega)]
      omega
    · show (nI (wlR t n s1) - 1 : Int32).toInt = _
      exact pk_sub_toInt (a := wlR t n s1) (b := 1) (by omega) (by decide)
    · show (nI (wlP t n s1)).toInt = _
      rw [nI_toInt (by omega)]
      omega
    · have gE : psG (wlE t n s1) = psG s1 := (RO_wE (t := t) (n := n) (s := s1)).1
      refine r_112 (s := wlE t n s1) M R8 (fun _ => ⟨by rw [gE, g1], wl⟩) (fun z9 R9 => hk z9 ?_)
      by_cases bE : psB (wlE t n s1) = 0
      · rw [if_pos bE] at R9 ⊢
        rw [gE] at R9
        exact R9
      · rw [if_neg bE] at R9 ⊢
        exact R9
  · rw [← hs1] at b R'
    rw [if_neg b]
    exact R'
theorem r_bes (M : okM u 245) (T : TPt u t n) (R : RZ u z t n s) (h1 : psG s 1 ≤ 10) (hk : ∀ z', RZ u z' t n (besS t n s) → K z') : w_X12_readBeside 245 K z := by
  have gA : psG (bzA t n s) = psG s := (RO_bzA (t := t) (n := n) (s := s)).1
  have gB : psG (bzB t n s) = psG s := (RO_bzB (t := t) (n := n) (s := s)).1
  have gC : psG (bzA t n (bzB t n s)) = psG s := (RO_bzA (t := t) (n := n) (s := bzB t n s)).1.trans gB
  have a10 : bzV t n s < 11 := by
    unfold bzV numV
    split
    · rename_i c; omega
    · omega
  have b10 : bzV t n (bzB t n s) < 11 := by
    unfold bzV numV
    rw [gB]
    split
    · rename_i c; omega
    · omega
  have fin : ∀ z', RZ u z' t n (bzB t n s) → j_X12_readBeside_33 K 245 (nI (bzV t n s)) z' := fun z' R' => by
    refine ⟨RZ_1 M R', r_wt M T R' (by rw [gB]; exact h1) (fun z2 R2 => ?_)⟩
    have Mz := RZ_M M R2
    have m1 := okM_tell Mz
    refine ⟨Mz.1, ?_⟩
    unfold besS at hk
    by_cases b : psB (bzA t n (bzB t n s)) = 0
    · rw [if_pos b] at hk
      have e2 : ∀ k, k < 1215 → wI z2 247 k = nI (psG s k) := fun k hk => by
        have q := R2.2.2.2.2.1 k hk
        rw [gC] at q
        exact q
      refine br_t ((RZ_b R2).mpr b) ?_
      have R3 := RZ_up (j := 57 + bzV t n s) (v := psG s (57 + bzV t n s) ||| 2 ^ bzV t n (bzB t n s)) R2
      have e3 := R3.2.2.2.2.1 (57 + bzV t n (bzB t n s)) (by omega)
      rw [m1.1, m1.2.2, show (57 + nI (bzV t n s) : Int32) = nI (57 + bzV t n s) from nI_add 57 _, show (57 + nI (bzV t n (bzB t n s)) : Int32) = nI (57 + bzV t n (bzB t n s)) from nI_add 57 _, nI_clamp (n := 57 + bzV t n s) (by omega), nI_clamp (n := 57 + bzV t n (bzB t n s)) (by omega), e2 (57 + bzV t n s) (by omega), p_one (by omega), p_one (by omega), fa_or, e3, fa_or]
      have R4 := RZ_up (j := 57 + bzV t n (bzB t n s)) (v := (upG (57 + bzV t n s) (psG s (57 + bzV t n s) ||| 2 ^ bzV t n (bzB t n s)) (psG s)) (57 + bzV t n (bzB t n s)) ||| 2 ^ bzV t n s) R3
      have eG : ∀ g', setG g' (setG (upG (57 + bzV t n s) (psG s (57 + bzV t n s) ||| 2 ^ bzV t n (bzB t n s)) (psG (bzA t n (bzB t n s)))) (bzA t n (bzB t n s))) = setG g' (bzA t n (bzB t n s)) := fun _ => rfl
      refine ⟨m1.2.1, vp_in_nI (by omega) (by decide), vp_in_nI (by omega) (by decide), vp_in_nI (by omega) (by decide), vp_in_nI (by omega) (by decide), hk _ ?_⟩
      rw [eG] at R4
      unfold joinG
      rw [show psG (setG (upG (57 + bzV t n s) (psG s (57 + bzV t n s) ||| 2 ^ bzV t n (bzB t n s)) (psG (bzA t n (bzB t n s)))) (bzA t n (bzB t n s))) = upG (57 + bzV t n s) (psG s (57 + bzV t n s) ||| 2 ^ bzV t n (bzB t n s)) (psG (bzA t n (bzB t n s))) from rfl, gC] at R4
      rw [show psG (setG (upG (57 + bzV t n s) (psG s (57 + bzV t n s) ||| 2 ^ bzV t n (bzB t n s)) (psG (bzA t n (bzB t n s)))) (bzA t n (bzB t n s))) = upG (57 + bzV t n s) (psG s (57 + bzV t n s) ||| 2 ^ bzV t n (bzB t n s)) (psG (bzA t n (bzB t n s))) from rfl, gC]
      exact R4
    · rw [if_neg b] at hk
      exact br_f (fun y => b ((RZ_b R2).mp y)) (hk z2 R2)
  refine ⟨RZ_1 M R, r_wt M T R h1 (fun z2 R2 => ⟨RZ_1 M R2, ?_⟩)⟩
  unfold bzB at fin
  by_cases b : psB (bzA t n s) = 0
  · have L := R2.2.2.2.2.2.1 b
    refine br_t ((RZ_b R2).mpr b) ?_
    by_cases k : txK t n (psP (bzA t n s)) = 2
    · have v2 := (txK_2 k).2.2.2
      refine br_t ((RZ_K T R2 b (c := 2) (by decide)).mpr k) ?_
      rw [L.2.2.2.2 k]
      by_cases e : txV t n (psP (bzA t n s)) = bzV t n s
      · rw [if_pos ⟨b, k, e⟩] at fin
        exact br_t (congrArg nI e) (r_blm (k := 3) M T R2 (by decide) fin)
      · rw [if_neg (fun y => e y.2.2)] at fin
        exact br_f (nI_ne (by omega) (by omega) e) (fin z2 R2)
    · rw [if_neg (fun y => k y.2.1)] at fin
      exact br_f (fun y => k ((RZ_K T R2 b (c := 2) (by decide)).mp y)) (fin z2 R2)
  · rw [if_neg (fun y => b y.1)] at fin
    exact br_f (fun y => b ((RZ_b R2).mp y)) (fin z2 R2)
end RI
