/-! 99.sg: the class reads lines: its steps -/
def rzT (t : Nat) : Prop := t = 238 ∨ t = 240
def DR (z : Wd) (h : Nat) (g : Nat → Nat) : Prop := isK z h 1 ∧ (wI z h 0 = nI (g 0) ∧ wI z h 1 = nI (g 1) ∧ wI z h 2 = nI (g 2) ∧ wI z h 3 = nI (g 26)) ∧ (wR z h 5 = h + 1 ∧ arr z (h + 1) 10 (fun v => g (27 + v))) ∧ (wR z h 6 = h + 2 ∧ arr z (h + 2) 10 (fun v => g (37 + v))) ∧ (wR z h 7 = h + 3 ∧ arr z (h + 3) 10 (fun v => g (5 + v))) ∧ (wR z h 8 = h + 4 ∧ arr z (h + 4) 10 (fun v => g (47 + v))) ∧ (wR z h 9 = h + 5 ∧ arr z (h + 5) 10 (fun v => g (15 + v))) ∧ (wR z h 10 = h + 6 ∧ arr z (h + 6) 10 (fun v => g (57 + v))) ∧ (wR z h 11 = h + 7 ∧ arr z (h + 7) 6 (fun v => g (67 + v))) ∧ (wR z h 12 = h + 8 ∧ arr z (h + 8) 6 (fun v => g (73 + v)))
def LWs (z : Wd) (h : Nat) (g : Nat → Nat) : Prop := (wR z h 4 = 1 ∨ h + 8 < wR z h 4) ∧ lawR z (wR z h 4) g
def LBs (w z : Wd) (h : Nat) (t : Nat → Nat) (n : Nat) : Prop := cx rzT w z ∧ RrS z ∧ TPc z t n ∧ wR z 238 3 = h ∧ wN w ≤ h ∧ 261 ≤ wN w
def LZ (w z : Wd) (h : Nat) (t : Nat → Nat) (n : Nat) (s : pst) : Prop := LBs w z h t n ∧ psB s = 0 ∧ CTk z z t n (psP s) ∧ DR z h (psG s) ∧ LWs z h (psG s)
def LFa (w z : Wd) (k pl : Nat) : Prop := cx rzT w z ∧ RrS z ∧ wI z 238 0 = 0 ∧ wI z 238 1 = nI k ∧ wI z 238 2 = nI pl
section CG
variable {w z z' : Wd} {h n : Nat} {t : Nat → Nat} {s : pst} {K : Int32 → Wd → Prop} {g : Nat → Nat}
theorem FCm_r (z : Wd) : FCm z z := ⟨eqW_refl _ _, rfl⟩
theorem DR_cx {T : Nat → Prop} (c : cx T z z') (hT : ∀ i, i ≤ 8 → ¬ T (h + i)) (D : DR z h g) : DR z' h g := by
  obtain ⟨d0, d1, d2, d3, d4, d5, d6, d7, d8, d9⟩ := D
  have a := cx_at c d0 (hT 0 (by decide))
  refine ⟨cx_isK c d0, by rw [a.1]; exact d1, ⟨by rw [a.2.2]; exact d2.1, arr_cx c d2.2 (hT 1 (by decide))⟩, ⟨by rw [a.2.2]; exact d3.1, arr_cx c d3.2 (hT 2 (by decide))⟩, ⟨by rw [a.2.2]; exact d4.1, arr_cx c d4.2 (hT 3 (by decide))⟩, ⟨by rw [a.2.2]; exact d5.1, arr_cx c d5.2 (hT 4 (by decide))⟩, ⟨by rw [a.2.2]; exact d6.1, arr_cx c d6.2 (hT 5 (by decide))⟩, ⟨by rw [a.2.2]; exact d7.1, arr_cx c d7.2 (hT 6 (by decide))⟩, ⟨by rw [a.2.2]; exact d8.1, arr_cx c d8.2 (hT 7 (by decide))⟩, ⟨by rw [a.2.2]; exact d9.1, arr_cx c d9.2 (hT 8 (by decide))⟩⟩
theorem LWs_cx {T : Nat → Prop} (c : cx T z z') (d0 : isK z h 1) (hT : ¬ T h ∧ ¬ T (wR z h 4)) (e1 : wn z' 1 = wn z 1) (L : LWs z h g) : LWs z' h g := by
  have a := cx_at c d0 hT.1
  unfold LWs
  rw [a.2.2]
  refine ⟨L.1, ?_⟩
  rcases L.2 with ⟨l1, l2, l3⟩ | l
  · exact Or.inl ⟨l1, e1.trans l2, l3⟩
  · exact Or.inr (arr_cx c l hT.2)
theorem LZ_F (L : LZ w z h t n s) (F : FCm z z') : LBs w z' h t n ∧ DR z' h (psG s) ∧ LWs z' h (psG s) := by
  obtain ⟨⟨b1, b2, b3, b4, b5, b6⟩, -, -, D, W⟩ := L
  have c := cx_eqW F.1
  have c' : cx rzT z z' := c
  refine ⟨⟨cx_trans b1 c', FCm_M b2 F, ⟨b3.1, fun k hk => ?_⟩, by rw [F.2]; exact b4, b5, b6⟩, DR_cx c' (fun i _ => by unfold rzT; omega) D, LWs_cx c' D.1 ⟨by unfold rzT; omega, ?_⟩ (congrFun F.1.2.2.1 1) W⟩
  · rw [(F.1.2.2.2 239 (by decide)).1]
    exact b3.2 k hk
  · have := W.1
    unfold rzT
    omega
theorem LZ_T {s' : pst} (L : LZ w z h t n s) (F : FCm z z') (b : psB s' = 0) (g' : psG s' = psG s) (C : CTk z z' t n (psP s')) : LZ w z' h t n s' := by
  obtain ⟨l1, l2, l3⟩ := LZ_F L F
  refine ⟨l1, b, ⟨FCm_r _, C.2⟩, by rw [g']; exact l2, by rw [g']; exact l3⟩
theorem LF_F {k pl : Nat} (L : LZ w z h t n s) (F : CFa z z' k pl) : LFa w z' k pl := by
  obtain ⟨l1, -, -⟩ := LZ_F L F.1
  exact ⟨l1.1, l1.2.1, F.2⟩
theorem LZ_1 (L : LZ w z h t n s) : isK z 238 7 := L.1.2.1.1
theorem lz_adv (L : LZ w z h t n s) (hy : txK t n (psP (rdS t n s)) ≠ 3 → ∀ z', LZ w z' h t n (rdS t n s) → wI z' 238 10 = wI z 238 10 → K 1 z') (hx : ∀ k pl, DDp t n (rdS t n s) k pl → ∀ z', LFa w z' k pl → K 0 z') : w_X7_advance 238 K z := ct_adv L.1.2.1 L.1.2.2.1 L.2.2.1 (fun k z' C' h10 _ _ => hy k z' (LZ_T L C'.1 L.2.1 rfl C') h10) (fun k z' F => hx 1 _ (Or.inr ⟨L.2.1, k, rfl, rfl⟩) z' (LF_F L F))
theorem lz_ref {k : Nat} (L : LZ w z h t n s) (hx : ∀ z', LFa w z' k (txB t n (psP s)) → K 0 z') : w_X7_refuse 238 (nI k) (fun r w => (r = 0 ∨ r = 1) ∧ K r w) z := ct_ref1 L.1.2.1 L.2.2.1 (fun z' F => hx z' (LF_F L F))
theorem LZ_10 {x : Int32} (L : LZ w z h t n s) : LZ w (uI z 238 10 x) h t n s := by
  obtain ⟨c1, c2, c3, c4, c5, c6, c7, c8, c9⟩ := L.2.2.1
  have w' : ∀ k, k ≠ 10 → wI (uI z 238 10 x) 238 k = wI z 238 k := fun k hk => by rw [wI_uI, if_neg hk]
  exact LZ_T L (FCm_8 (FCm_r z)) L.2.1 rfl ⟨FCm_8 (FCm_r z), ⟨(w' 0 (by decide)).trans c2.1, (w' 1 (by decide)).trans c2.2.1, (w' 2 (by decide)).trans c2.2.2⟩, (w' 5 (by decide)).trans c3, c4, c5, (w' 6 (by decide)).trans c6, (w' 7 (by decide)).trans c7, (w' 8 (by decide)).trans c8, (w' 9 (by decide)).trans c9⟩
theorem L_DD {k : Nat} (L : LZ w z h t n s) (hk : k ≠ 0) : DDp t n (blm t n k s) k (txB t n (psP s)) := DD_blm L.2.1 L.2.2.1.2.2.2.2.1 hk
theorem lz_num {lo hi : Nat} {x y : Int32} (L : LZ w z h t n s) (hx0 : x = nI lo) (hlo : lo < 1000) (hy0 : y.toInt = (hi : Int) - 1) (hy : psB (numS t n lo hi s) = 0 → txK t n (psP (numS t n lo hi s)) ≠ 3 → ∀ z', LZ w z' h t n (numS t n lo hi s) → wI z' 238 10 = nI (numV t n lo hi s) → K 1 z') (hx : ∀ k pl, DDp t n (numS t n lo hi s) k pl → ∀ z', LFa w z' k pl → K 0 z') : w_X7_expectNumber 238 x y K z := by
  subst hx0
  obtain ⟨c1, c2, c3, c4, c5, c6, c7, c8, c9⟩ := L.2.2.1
  have b := L.2.1
  unfold w_X7_expectNumber
  rw [c8]
  refine ⟨LZ_1 L, ?_⟩
  unfold numS at hy hx
  rw [if_pos b] at hy hx
  by_cases k : txK t n (psP s) = 2
  · rw [if_pos k] at hy hx
    rw [c9, if_pos k]
    have v := (txK_2 k).2.2.2
    refine br_t (ckI_1.mpr k) ?_
    by_cases l1 : txV t n (psP s) < lo
    · rw [if_neg (by omega)] at hx
      exact br_t (nI_lt l1 (by omega)) (lz_ref (k := 3) L (fun z' F => hx 3 _ (L_DD L (by decide)) z' F))
    · refine br_f (nI_nlt (by omega) (by omega)) ?_
      by_cases l2 : txV t n (psP s) < hi
      · have eV : numV t n lo hi s = txV t n (psP s) := by
          unfold numV
          exact if_pos ⟨b, k, by omega, l2⟩
        rw [if_pos ⟨by omega, l2⟩] at hy hx
        rw [eV] at hy
        refine br_t (Int32.le_iff_toInt_le.mpr (by rw [nI_toInt (by omega)]; omega)) (lz_adv (LZ_10 L) (fun k' z' L' h10 => ⟨Or.inr rfl, hy b k' z' L' ?_⟩) (fun k' pl D z' F => ⟨Or.inl rfl, hx k' pl D z' F⟩))
        rw [h10, wI_uI, if_pos rfl]
      · rw [if_neg (by omega)] at hx
        exact br_f (fun q => by have q2 := Int32.le_iff_toInt_le.mp q; rw [nI_toInt (by omega)] at q2; omega) (lz_ref (k := 3) L (fun z' F => hx 3 _ (L_DD L (by decide)) z' F))
  · rw [if_neg k] at hx
    exact br_f (fun q => k (ckI_1.mp q)) (lz_ref (k := 2) L (fun z' F => hx 2 _ (L_DD L (by decide)) z' F))
theorem lz_mW {a : Nat} (L : LZ w z h t n s) (ha : 2 ≤ a ∧ a < 35) (hy : psB (mWd t n a s) = 0 → txK t n (psP (mWd t n a s)) ≠ 3 → ∀ z', LZ w z' h t n (mWd t n a s) → K 1 z') (hx : ∀ k pl, DDp t n (mWd t n a s) k pl → ∀ z', LFa w z' k pl → K 0 z') : w_X7_expectWord 238 a K z := by
  have b := L.2.1
  refine ⟨LZ_1 L, ct_wd L.1.2.1 L.1.2.2.1 L.2.2.1 ha ?_⟩
  unfold mWd at hy hx
  rw [isWd_l b] at hy hx
  cases c : isW t n (psP s) a
  · rw [c, if_neg bft] at hx
    exact br_t rfl ⟨LZ_1 L, lz_ref (k := 2) L (fun z' F => hx 2 _ (L_DD L (by decide)) z' F)⟩
  · rw [c, if_pos rfl] at hx hy
    exact br_f (by decide) ⟨LZ_1 L, lz_adv L (fun k' z' L' _ => ⟨Or.inr rfl, hy b k' z' L'⟩) (fun k' pl D z' F => ⟨Or.inl rfl, hx k' pl D z' F⟩)⟩
theorem lz_ch {a lo hi x : Nat} {y : Int32} (L : LZ w z h t n s) (ha : 2 ≤ a ∧ a < 35) (hlo : lo < 1000) (hy0 : y.toInt = (hi : Int) - 1) (hy : psB (chS t n a lo hi s) = 0 → txK t n (psP (chS t n a lo hi s)) ≠ 3 → ∀ z', LZ w z' h t n (chS t n a lo hi s) → wI z' 238 10 = nI (chV t n a lo hi x s) → K 1 z') (hx : ∀ k pl, DDp t n (chS t n a lo hi s) k pl → ∀ z', LFa w z' k pl → K 0 z') : w_X7_readChoice 238 a (nI lo) y (nI x) K z := by
  have b := L.2.1
  refine ⟨LZ_1 L, ct_wd L.1.2.1 L.1.2.2.1 L.2.2.1 ha ?_⟩
  unfold chS chV at hy
  unfold chS at hx
  rw [isWd_l b] at hy hx
  cases c : isW t n (psP s) a
  · rw [c, if_neg bft, if_neg bft] at hy
    exact br_t rfl ⟨LZ_1 L, hy b L.2.2.1.2.2.2.2.1 _ (LZ_10 L) (by rw [wI_uI, if_pos rfl])⟩
  · rw [c, if_pos rfl, if_pos rfl] at hy
    rw [c, if_pos rfl] at hx
    exact br_f (by decide) ⟨LZ_1 L, lz_adv L (fun k' z' L' _ => br_f (by decide) ⟨LZ_1 L', lz_num L' rfl hlo hy0 (fun b2 k2 z2 L2 h10 => br_f (by decide) (hy b2 k2 z2 L2 h10)) (fun k2 pl D z2 F => br_t rfl (hx k2 pl D z2 F))⟩) (fun k' pl D z' F => br_t rfl (hx k' pl (DD_num D) z' F))⟩
/-- a well that was told, but not this one -/
theorem lz_told {x : Int32} {un : Bool} (L : LZ w z h t n s) (h10 : psG s 1 ≤ 10) (U : txK t n (psP s) = 2 → (nI (txV t n (psP s)) = x ↔ un = true)) (h3 : un = true → txK t n (psP s) = 2 → ∀ z', LFa w z' 3 (txB t n (psP s)) → K 0 z') (hy : un = false → psB (bzA t n s) = 0 → txK t n (psP (bzA t n s)) ≠ 3 → ∀ z', LZ w z' h t n (bzA t n s) → wI z' 238 10 = nI (bzV t n s) → K 1 z') (hx : (un = false ∨ txK t n (psP s) ≠ 2) → ∀ k pl, DDp t n (bzA t n s) k pl → ∀ z', LFa w z' k pl → K 0 z') : w_X7_expectToldWell 238 x K z := by
  obtain ⟨c1, c2, c3, c4, c5, c6, c7, c8, c9⟩ := L.2.2.1
  have b := L.2.1
  have D := L.2.2.2.1
  unfold w_X7_expectToldWell
  rw [c8, L.1.2.2.2.1]
  refine ⟨LZ_1 L, ?_⟩
  by_cases k : txK t n (psP s) = 2
  · rw [c9, if_pos k]
    have v := (txK_2 k).2.2.2
    have U := U k
    refine br_t (ckI_1.mpr k) ⟨D.1, br_f (nI_pos (by omega)) ⟨D.1, ?_⟩⟩
    rw [D.2.1.2.1]
    have r3 : DDp t n (blm t n 3 s) 3 (txB t n (psP s)) := L_DD L (by decide)
    have out : ¬ txV t n (psP s) < psG s 1 → ∀ z', LFa w z' 3 (txB t n (psP s)) → K 0 z' := fun l => by
      cases e : un
      · refine hx (Or.inl e) 3 _ ?_
        unfold bzA numS
        rw [if_pos b, if_pos k, if_neg (fun q => l q.2)]
        exact r3
      · exact h3 e k
    by_cases l : txV t n (psP s) < psG s 1
    · have eA : bzA t n s = rdS t n s := by
        unfold bzA numS
        rw [if_pos b, if_pos k, if_pos ⟨Nat.zero_le _, l⟩]
      have eV : bzV t n s = txV t n (psP s) := by
        unfold bzV numV
        exact if_pos ⟨b, k, Nat.zero_le _, l⟩
      refine br_f (nI_ge l (by omega)) (br_f (nI_ge (b := 10) (by omega) (by decide)) (br_f (by decide) ⟨LZ_1 L, ?_⟩))
      rw [c9, if_pos k]
      cases e : un
      · have hy := hy e
        have hx := hx (Or.inl e)
        rw [eA] at hy hx
        rw [eV] at hy
        refine br_f (fun q => by have := U.mp q; rw [e] at this; exact Bool.noConfusion this) (lz_adv (LZ_10 L) (fun k' z' L' q10 => ⟨Or.inr rfl, hy b k' z' L' ?_⟩) (fun k' pl D z' F => ⟨Or.inl rfl, hx k' pl D z' F⟩))
        rw [q10, wI_uI, if_pos rfl]
      · exact br_t (U.mpr e) (lz_ref (k := 3) L (h3 e k))
    · refine br_t (nI_le (by omega) (by omega)) (br_t rfl ⟨LZ_1 L, lz_ref (k := 3) L (out l)⟩)
  · have hx := hx (Or.inr k)
    unfold bzA numS at hx
    rw [if_pos b, if_neg k] at hx
    exact br_f (fun q => k (ckI_1.mp q)) (lz_ref (k := 2) L (fun z' F => hx 2 _ (L_DD L (by decide)) z' F))
end CG
