/-! 99.si: the class reads lines -/
section CI
variable {w z : Wd} {h n : Nat} {t : Nat → Nat} {s : pst} {K : Int32 → Wd → Prop}
theorem lz_well (L : LZ w z h t n s) (h10 : psG s 1 ≤ 10) (hy : psB (wellS t n s) = 0 → txK t n (psP (wellS t n s)) ≠ 3 → ∀ z', LZ w z' h t n (wellS t n s) → K 1 z') (hx : ∀ k pl, DDp t n (wellS t n s) k pl → ∀ z', LFa w z' k pl → K 0 z') : w_X7_readWell 238 K z := by
  have D := L.2.2.2.1
  have b := L.2.1
  unfold w_X7_readWell
  rw [L.1.2.2.2.1, D.2.1.2.1]
  refine ⟨LZ_1 L, D.1, ?_⟩
  unfold wellS at hy hx
  by_cases c : psG s 1 = 10
  · have e : begS t n 1 10 s = blm t n 4 s := if_pos c
    have nb : psB (blm t n 4 s) ≠ 0 := blm_B (by decide)
    rw [e, if_neg nb] at hx
    exact br_f (nI_nlt (b := 10) (by omega) (by omega)) (lz_ref (k := 4) L (fun z' F => hx 4 _ (L_DD L (by decide)) z' F))
  · have e : begS t n 1 10 s = rdS t n s := by
      unfold begS
      rw [if_neg c, if_pos b]
    have b1 : psB (rdS t n s) = 0 := b
    rw [e, if_pos b1] at hy hx
    have g1 : psG (rdS t n s) = psG s := rfl
    obtain ⟨s1, hs1⟩ : ∃ s1, s1 = rdS t n s := ⟨_, rfl⟩
    have dE : ∀ k pl, DDp t n (wlE t n s1) k pl → ∀ z', LFa w z' k pl → K 0 z' := fun k pl Dd => by
      rw [hs1] at Dd
      refine hx k pl ?_
      split
      · exact DD_set Dd
      · exact Dd
    have dD : ∀ k pl, DDp t n (wlD t n s1) k pl → ∀ z', LFa w z' k pl → K 0 z' := fun k pl Dd => dE k pl (DD_ch Dd)
    have dC : ∀ k pl, DDp t n (wlC t n s1) k pl → ∀ z', LFa w z' k pl → K 0 z' := fun k pl Dd => dD k pl (DD_ch Dd)
    have dB : ∀ k pl, DDp t n (wlB t n s1) k pl → ∀ z', LFa w z' k pl → K 0 z' := fun k pl Dd => dC k pl (DD_ch Dd)
    have dM : ∀ k pl, DDp t n (mWd t n 5 (wlA t n s1)) k pl → ∀ z', LFa w z' k pl → K 0 z' := fun k pl Dd => dB k pl (DD_num Dd)
    have dA : ∀ k pl, DDp t n (wlA t n s1) k pl → ∀ z', LFa w z' k pl → K 0 z' := fun k pl Dd => dM k pl (DD_mW Dd)
    have dN : ∀ k pl, DDp t n (mWd t n 4 s1) k pl → ∀ z', LFa w z' k pl → K 0 z' := fun k pl Dd => dA k pl (DD_num Dd)
    have iR := wlR_in (t := t) (n := n) (s := s1)
    have iP := wlP_in (t := t) (n := n) (s := s1)
    have gE : psG (wlE t n s1) = psG s := by
      rw [hs1]
      exact (RO_wE (t := t) (n := n) (s := rdS t n s)).1
    rw [← hs1] at hy hx g1 b1
    refine br_t (nI_lt (b := 10) (by omega) (by decide)) (lz_adv L (fun k2 z2 L2 _ => br_f (by decide) ⟨LZ_1 L2, ?_⟩) (fun k pl Dd z' F => br_t rfl (dN k pl (DD_mW (by rw [hs1]; exact Dd)) z' F)))
    rw [← hs1] at L2
    refine lz_mW L2 (by decide) (fun b3 k3 z3 L3 => br_f (by decide) ⟨LZ_1 L3, lz_num (lo := 2) (hi := 13) L3 rfl (by decide) (by decide) (fun b4 k4 z4 L4 v4 => br_f (by decide) ⟨LZ_1 L4, lz_mW L4 (by decide) (fun b5 k5 z5 L5 => br_f (by decide) ⟨LZ_1 L5, ?_⟩) (fun k pl Dd z' F => br_t rfl (dM k pl Dd z' F))⟩) (fun k pl Dd z' F => br_t rfl (dA k pl Dd z' F))⟩) (fun k pl Dd z' F => br_t rfl (dN k pl Dd z' F))
    have v4' : wI z4 238 10 = nI (wlR t n s1) := v4
    rw [v4']
    refine lz_num (lo := 1) (hi := wlR t n s1 + 1) L5 rfl (by decide) (by rw [nI_toInt (by omega)]; omega) (fun b6 k6 z6 L6 v6 => br_f (by decide) ⟨LZ_1 L6, ?_⟩) (fun k pl Dd z' F => br_t rfl (dB k pl Dd z' F))
    have v6' : wI z6 238 10 = nI (wlU t n s1) := v6
    refine lz_ch (a := 6) (lo := 0) (hi := wlR t n s1) (x := 0) L6 (by decide) (by decide) (pk_sub_toInt (a := wlR t n s1) (b := 1) (by omega) (by decide)) (fun b7 k7 z7 L7 v7 => br_f (by decide) ⟨LZ_1 L7, ?_⟩) (fun k pl Dd z' F => br_t rfl (dC k pl Dd z' F))
    have v7' : wI z7 238 10 = nI (wlH t n s1) := v7
    refine lz_ch (a := 7) (lo := 1) (hi := 100) (x := 10) L7 (by decide) (by decide) (by decide) (fun b8 k8 z8 L8 v8 => br_f (by decide) ⟨LZ_1 L8, ?_⟩) (fun k pl Dd z' F => br_t rfl (dD k pl Dd z' F))
    have v8' : wI z8 238 10 = nI (wlP t n s1) := v8
    rw [v8']
    refine lz_ch (a := 8) (lo := 0) (hi := wlP t n s1 + 1) (x := wlP t n s1) L8 (by decide) (by decide) (by rw [nI_toInt (by omega)]; omega) (fun b9 k9 z9 L9 v9 => br_f (by decide) ⟨LZ_1 L9, ?_⟩) (fun k pl Dd z' F => br_t rfl (dE k pl Dd z' F))
    have v9' : wI z9 238 10 = nI (wlW t n s1) := v9
    have L9' : LZ w z9 h t n (wlE t n s1) := L9
    have b9' : psB (wlE t n s1) = 0 := b9
    have k9' : txK t n (psP (wlE t n s1)) ≠ 3 := k9
    rw [if_pos b9', g1] at hy
    rw [v6', v7', v9', L9'.1.2.2.2.1]
    clear dE dD dC dB dM dA dN hx v9 L9 b9 k9
    generalize wlE t n s1 = e9 at *
    generalize wlR t n s1 = x1 at *
    generalize wlU t n s1 = x2 at *
    generalize wlH t n s1 = x3 at *
    generalize wlP t n s1 = x4 at *
    generalize wlW t n s1 = x5 at *
    refine ⟨L9'.2.2.2.1.1, lz_addW L9' (by rw [gE]; omega) (fun z' L' => hy b9' k9' z' ?_)⟩
    rw [gE] at L'
    exact L'
theorem lz_bes (L : LZ w z h t n s) (b0 : psB s = 0) (h10 : psG s 1 ≤ 10) (hy : psB (besS t n (rdS t n s)) = 0 → txK t n (psP (besS t n (rdS t n s))) ≠ 3 → ∀ z', LZ w z' h t n (besS t n (rdS t n s)) → K 1 z') (hx : ∀ k pl, DDp t n (besS t n (rdS t n s)) k pl → ∀ z', LFa w z' k pl → K 0 z') : w_X7_readBeside 238 K z := by
  obtain ⟨s1, hs1⟩ : ∃ s1, s1 = rdS t n s := ⟨_, rfl⟩
  have g1 : psG s1 = psG s := by rw [hs1]; rfl
  rw [← hs1] at hy hx
  have dC : ∀ k pl, DDp t n (bzA t n (bzB t n s1)) k pl → ∀ z', LFa w z' k pl → K 0 z' := fun k pl Dd => by
    refine hx k pl ?_
    unfold besS
    split
    · exact DD_set Dd
    · exact Dd
  have dB : ∀ k pl, DDp t n (bzB t n s1) k pl → ∀ z', LFa w z' k pl → K 0 z' := fun k pl Dd => dC k pl (DD_bzA Dd)
  have dA : ∀ k pl, DDp t n (bzA t n s1) k pl → ∀ z', LFa w z' k pl → K 0 z' := fun k pl Dd => dB k pl (DD_bzB Dd)
  refine ⟨LZ_1 L, lz_adv L (fun k2 z2 L2 _ => br_f (by decide) ⟨LZ_1 L2, ?_⟩) (fun k pl Dd z' F => br_t rfl (dA k pl (DD_bzA (by rw [hs1]; exact Dd)) z' F))⟩
  rw [← hs1] at L2
  refine lz_told (un := false) L2 (by rw [g1]; exact h10) (fun k => ⟨fun e => ?_, fun e => Bool.noConfusion e⟩) (fun e => Bool.noConfusion e) (fun _ b3 k3 z3 L3 v3 => br_f (by decide) ⟨LZ_1 L3, ?_⟩) (fun _ k pl Dd z' F => br_t rfl (dA k pl Dd z' F))
  · have v := (txK_2 k).2.2.2
    have y := congrArg Int32.toInt e
    rw [nI_toInt (by omega), show (-1 : Int32).toInt = -1 from by decide] at y
    omega
  · rw [v3]
    have q := bzA_L b3
    have gA : psG (bzA t n s1) = psG s := (RO_bzA (t := t) (n := n) (s := s1)).1.trans g1
    have v3l : bzV t n s1 < psG s 1 := by
      have := q.2.2.1
      rw [g1] at this
      exact this
    have eB : ∀ u : Bool, (txK t n (psP (bzA t n s1)) = 2 → (u = true ↔ txV t n (psP (bzA t n s1)) = bzV t n s1)) → (u = false ∨ txK t n (psP (bzA t n s1)) ≠ 2) → bzB t n s1 = bzA t n s1 := fun u hu hc => by
      unfold bzB
      refine if_neg (fun y => ?_)
      rcases hc with hc | hc
      · have := (hu y.2.1).mpr y.2.2
        rw [hc] at this
        exact Bool.noConfusion this
      · exact hc y.2.1
    have hu : txK t n (psP (bzA t n s1)) = 2 → (decide (txV t n (psP (bzA t n s1)) = bzV t n s1) = true ↔ txV t n (psP (bzA t n s1)) = bzV t n s1) := fun _ => decide_eq_true_iff
    refine lz_told (un := decide (txV t n (psP (bzA t n s1)) = bzV t n s1)) L3 (by rw [gA]; exact h10) (fun k => ?_) (fun e k z' F => br_t rfl (dB 3 (txB t n (psP (bzA t n s1))) ?_ z' F)) (fun e b4 k4 z4 L4 v4 => br_f (by decide) ⟨LZ_1 L4, ?_⟩) (fun e k pl Dd z' F => br_t rfl (dC k pl (by rw [eB _ hu e]; exact Dd) z' F))
    · have v := (txK_2 k).2.2.2
      rw [nI_eq (by omega) (by omega)]
      exact decide_eq_true_iff.symm
    · unfold bzB
      rw [if_pos ⟨b3, k, of_decide_eq_true e⟩]
      exact DD_blm b3 k3 (by decide)
    · have eb := eB _ hu (Or.inl e)
      have q2 := bzA_L b4
      have v4l : bzV t n (bzA t n s1) < psG s 1 := by
        have := q2.2.2.1
        rw [gA] at this
        exact this
      have g4 : psG (bzA t n (bzA t n s1)) = psG s := (RO_bzA (t := t) (n := n) (s := bzA t n s1)).1.trans gA
      rw [v4, L4.1.2.2.2.1]
      refine ⟨L4.2.2.2.1.1, lz_join L4 (by rw [g4]; exact h10) (by rw [g4]; exact v3l) (by rw [g4]; exact v4l) (fun ne => ?_) (fun z' L' => hy ?_ ?_ z' ?_)⟩
      · have := of_decide_eq_false e
        rw [← q2.2.2.2.1] at this
        exact this ne.symm
      · unfold besS
        rw [eb, if_pos b4]
        exact b4
      · unfold besS
        rw [eb, if_pos b4]
        exact k4
      · unfold besS
        rw [eb, if_pos b4, g1]
        rw [g4] at L'
        exact L'
theorem lz_hour (L : LZ w z h t n s) (hy : psB (hourS t n (rdS t n s)) = 0 → txK t n (psP (hourS t n (rdS t n s))) ≠ 3 → ∀ z', LZ w z' h t n (hourS t n (rdS t n s)) → K 1 z') (hx : ∀ k pl, DDp t n (hourS t n (rdS t n s)) k pl → ∀ z', LFa w z' k pl → K 0 z') : w_X7_readHour 238 K z := by
  have dA : ∀ k pl, DDp t n (numS t n 0 1000 (rdS t n s)) k pl → ∀ z', LFa w z' k pl → K 0 z' := fun k pl Dd => hx k pl (DD_set Dd)
  refine ⟨LZ_1 L, lz_adv L (fun k2 z2 L2 _ => br_f (by decide) ⟨LZ_1 L2, lz_num (lo := 0) (hi := 1000) L2 rfl (by decide) (by decide) (fun b3 k3 z3 L3 v3 => br_f (by decide) ⟨LZ_1 L3, ?_⟩) (fun k pl Dd z' F => br_t rfl (dA k pl Dd z' F))⟩) (fun k pl Dd z' F => br_t rfl (dA k pl (DD_num Dd) z' F))⟩
  have gN : psG (numS t n 0 1000 (rdS t n s)) = psG (rdS t n s) := (RO_num (t := t) (n := n) (s := rdS t n s)).1
  have hN := L3.1.2.2.2.2.1
  have h26 := L3.1.2.2.2.2.2
  rw [v3, L3.1.2.2.2.1]
  refine ⟨L3.2.2.2.1.1, hy b3 k3 _ ?_⟩
  show LZ w _ h t n (setG (upG 26 (numV t n 0 1000 (rdS t n s)) (psG (rdS t n s))) (numS t n 0 1000 (rdS t n s)))
  clear hy hx dA v3 b3 k3
  obtain ⟨B, b, C, ⟨d0, d1, d2, d3, d4, d5, d6, d7, d8, d9⟩, W⟩ := L3
  rw [gN] at d1 d2 d3 d4 d5 d6 d7 d8 d9 W
  generalize numV t n 0 1000 (rdS t n s) = v1 at *
  have e : ∀ k, k ≠ 26 → upG 26 v1 (psG (rdS t n s)) k = psG (rdS t n s) k := fun k hk => upG_n hk
  refine ⟨LB_up B (by omega), b, CT_up C (by omega), ?_, ?_⟩
  · show DR _ h (upG 26 v1 (psG (rdS t n s)))
    refine ⟨d0, ⟨?_, ?_, ?_, ?_⟩, ⟨d2.1, arr_sim (ar1 d2.2 (by omega)) (fun j hj => e _ (by omega))⟩, ⟨d3.1, arr_sim (ar1 d3.2 (by omega)) (fun j hj => e _ (by omega))⟩, ⟨d4.1, arr_sim (ar1 d4.2 (by omega)) (fun j hj => e _ (by omega))⟩, ⟨d5.1, arr_sim (ar1 d5.2 (by omega)) (fun j hj => e _ (by omega))⟩, ⟨d6.1, arr_sim (ar1 d6.2 (by omega)) (fun j hj => e _ (by omega))⟩, ⟨d7.1, arr_sim (ar1 d7.2 (by omega)) (fun j hj => e _ (by omega))⟩, ⟨d8.1, arr_sim (ar1 d8.2 (by omega)) (fun j hj => e _ (by omega))⟩, ⟨d9.1, arr_sim (ar1 d9.2 (by omega)) (fun j hj => e _ (by omega))⟩⟩
    · rw [wI_uI, if_neg (by decide), e 0 (by decide)]; exact d1.1
    · rw [wI_uI, if_neg (by decide), e 1 (by decide)]; exact d1.2.1
    · rw [wI_uI, if_neg (by decide), e 2 (by decide)]; exact d1.2.2.1
    · rw [wI_uI, if_pos rfl, upG_s]
  · show LWs _ h (upG 26 v1 (psG (rdS t n s)))
    exact LW_cg (e 3 (by decide)) (fun i => e _ (by omega)) (LW_up W (by omega) (by omega))
end CI
