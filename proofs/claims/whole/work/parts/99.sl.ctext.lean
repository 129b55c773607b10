/-! 99.sl: the class reads a text -/
section CX2
variable {w z : Wd} {h n : Nat} {t : Nat → Nat} {s : pst} {K : Int32 → Wd → Prop}
theorem wd_ex : (wlN 3 ≠ wlN 9 ∨ (wlN 3 ≠ 0 ∧ wlN 9 ≠ 0 ∧ wcN 3 0 ≠ wcN 9 0)) ∧ (wlN 9 ≠ wlN 10 ∨ (wlN 9 ≠ 0 ∧ wlN 10 ≠ 0 ∧ wcN 9 0 ≠ wcN 10 0)) ∧ (wlN 12 ≠ wlN 19 ∨ (wlN 12 ≠ 0 ∧ wlN 19 ≠ 0 ∧ wcN 12 0 ≠ wcN 19 0)) := by decide
def costL (t : Nat → Nat) (n : Nat) (s : pst) : Nat := if psB (lineS t n s) = 0 then psP (lineS t n s) - psP s else 900
theorem lz_exs {c : Nat} (L : LZ w z h t n s) (h40 : 40 ≤ c) (hc : c < 256) (hy : psB (mS t n c s) = 0 → txK t n (psP (mS t n c s)) ≠ 3 → ∀ z', LZ w z' h t n (mS t n c s) → K 1 z') (hx : ∀ k pl, DDp t n (mS t n c s) k pl → ∀ z', LFa w z' k pl → K 0 z') : w_X7_expectSign 238 (nI c) K z := by
  have b := L.2.1
  refine ⟨LZ_1 L, ct_sg L.1.2.1 L.1.2.2.1 L.2.2.1 h40 hc ?_⟩
  unfold mS at hy hx
  rw [if_pos b] at hy hx
  by_cases k : txK t n (psP s) = c
  · rw [if_pos k] at hy hx
    rw [decide_eq_true k]
    exact br_f (by decide) ⟨LZ_1 L, lz_adv L (fun k z' L' _ => ⟨Or.inr rfl, hy b k z' L'⟩) (fun k pl D z' F => ⟨Or.inl rfl, hx k pl D z' F⟩)⟩
  · rw [if_neg k] at hx
    rw [decide_eq_false k]
    exact br_t rfl ⟨LZ_1 L, lz_ref (k := 2) L (fun z' F => hx 2 _ (L_DD L (by decide)) z' F)⟩
/-- what a law costs -/
theorem law_cost (V : TIs n s) (hn : n ≤ 900) (c1 : isWd t n 3 s = false) (c2 : isWd t n 10 s = false) (c3 : isWd t n 9 s = false) (c4 : isWd t n 19 s = false) (c5 : isWd t n 12 s = true) (b3 : psB (uG t n 30 1 (setG (upG 3 0 (psG s)) (rdS t n s))) = 0) : psG (uG t n 30 1 (setG (upG 3 0 (psG s)) (rdS t n s))) 3 ≤ costL t n s := by
  have tb := isWd_T c5
  have l := rd_lt V.1 tb.2
  have b0 : psB (setG (upG 3 0 (psG s)) (rdS t n s)) = 0 := tb.1
  have d0 : psD (setG (upG 3 0 (psG s)) (rdS t n s)) = 0 := V.2.1
  have G := uG_30 (t := t) (n := n) (s := setG (upG 3 0 (psG s)) (rdS t n s)) l.2 (by rw [d0]; decide)
  obtain ⟨a1, a2, a3, a4, a5, a6⟩ := (G.2.2 b0).2 b3
  rw [show psG (setG (upG 3 0 (psG s)) (rdS t n s)) 3 = 0 from upG_s 3 0 (psG s)] at a4
  have a4' : psG (uG t n 30 1 (setG (upG 3 0 (psG s)) (rdS t n s))) 3 + psP (rdS t n s) ≤ 0 + psP (uG t n 30 1 (setG (upG 3 0 (psG s)) (rdS t n s))) := a4
  have eL : lnS t n s = uG t n 30 1 (setG (upG 3 0 (psG s)) (rdS t n s)) := by
    unfold lnS
    rw [c1, if_neg bft, c2, if_neg bft, c3, if_neg bft, c4, if_neg bft, c5, if_pos rfl]
  unfold costL
  by_cases b : psB (lineS t n s) = 0
  · rw [if_pos b]
    have e : psP (lineS t n s) = txE t n (psP (lnS t n s)) ∧ psP (lnS t n s) ≤ txE t n (psP (lnS t n s)) := by
      unfold lineS stS at b ⊢
      by_cases b1 : psB (mS t n 59 (lnS t n s)) = 0
      · rw [if_pos b1]
        obtain ⟨-, k, e⟩ := mS_L b1
        have te := txE_in (t := t) (p := psP (lnS t n s)) (n := n) (by rw [eL]; exact a2)
        have tb2 := txB_in (t := t) (p := psP (lnS t n s)) (n := n) (by rw [eL]; exact a2)
        rw [e]
        exact ⟨rfl, by omega⟩
      · rw [if_neg b1] at b; exact absurd b b1
    rw [eL] at e
    omega
  · rw [if_neg b]
    omega
theorem lz_line (L : LZ w z h t n s) (V : TIs n s) (hy : psB (lnS t n s) = 0 → txK t n (psP (lnS t n s)) ≠ 3 → ∀ z', LZ w z' h t n (lnS t n s) → K 1 z') (hx : ∀ k pl, DDp t n (lnS t n s) k pl → ∀ z', LFa w z' k pl → K 0 z') : w_X7_readLine 1 (costL t n s) 238 K z := by
  have hn := L.1.2.2.1.1
  have b := L.2.1
  have h1 := V.2.2.1.1.1
  have h2 := V.2.2.1.1.2.1
  have wd : ∀ (a : Nat) (K : Int32 → Wd → Prop), (2 ≤ a ∧ a < 35) → K (b2i (isWd t n a s)) z → w_X7_isWord 238 a K z := fun a K ha k => ct_wd L.1.2.1 L.1.2.2.1 L.2.2.1 ha (by rw [← isWd_l b]; exact k)
  have ne : ∀ {a c : Nat}, (wlN a ≠ wlN c ∨ (wlN a ≠ 0 ∧ wlN c ≠ 0 ∧ wcN a 0 ≠ wcN c 0)) → isWd t n a s = true → isWd t n c s = false := fun hc k => by
    rw [isWd_l b] at k ⊢
    exact isW_ne hc k
  have M1 := LZ_1 L
  have wr : ∀ {x : Int32} {u : Wd}, (x = 0 ∨ x = 1) → K x u → (x = 0 ∨ x = 1) ∧ K x u := fun h k => ⟨h, k⟩
  have law := law_cost (t := t) V hn
  unfold lnS at hy hx
  refine ⟨M1, wd 3 _ (by decide) ?_⟩
  cases c1 : isWd t n 3 s
  case true =>
    rw [c1, if_pos rfl] at hy hx
    exact br_f (by decide) ⟨M1, lz_well (K := fun r40 w41 => (r40 = 0 ∨ r40 = 1) ∧ K r40 w41) L h1 (fun b1 k1 z' L' => ⟨Or.inr rfl, hy b1 k1 z' L'⟩) (fun k pl D z' F => ⟨Or.inl rfl, hx k pl D z' F⟩)⟩
  rw [c1, if_neg bft] at hy hx
  refine br_t rfl ⟨M1, wd 9 _ (by decide) ?_⟩
  cases c3 : isWd t n 9 s
  case true =>
    rw [ne wd_ex.2.1 c3, if_neg bft, c3, if_pos rfl] at hy hx
    exact br_f (by decide) ⟨M1, lz_bes (K := fun r40 w41 => (r40 = 0 ∨ r40 = 1) ∧ K r40 w41) L b h1 (fun b1 k1 z' L' => ⟨Or.inr rfl, hy b1 k1 z' L'⟩) (fun k pl D z' F => ⟨Or.inl rfl, hx k pl D z' F⟩)⟩
  refine br_t rfl ⟨M1, wd 10 _ (by decide) ?_⟩
  cases c2 : isWd t n 10 s
  case true =>
    rw [c2, if_pos rfl] at hy hx
    exact br_f (by decide) ⟨M1, lz_house (K := fun r40 w41 => (r40 = 0 ∨ r40 = 1) ∧ K r40 w41) L h1 h2 (fun b1 k1 z' L' => ⟨Or.inr rfl, hy b1 k1 z' L'⟩) (fun k pl D z' F => ⟨Or.inl rfl, hx k pl D z' F⟩)⟩
  rw [c2, if_neg bft, c3, if_neg bft] at hy hx
  refine br_t rfl ⟨M1, wd 12 _ (by decide) ?_⟩
  cases c5 : isWd t n 12 s
  case true =>
    have c4 := ne wd_ex.2.2 c5
    rw [c4, if_neg bft, c5, if_pos rfl] at hy hx
    exact br_f (by decide) ⟨M1, 1, costL t n s, ⟨by decide, by omega⟩, lz_law (K := fun r40 w41 => (r40 = 0 ∨ r40 = 1) ∧ K r40 w41) L V (isWd_T c5).2 (by decide) (fun b3 => law c1 c2 c3 c4 c5 b3) (fun b1 k1 z' L' => ⟨Or.inr rfl, hy b1 k1 z' L'⟩) (fun k pl D z' F => ⟨Or.inl rfl, hx k pl D z' F⟩)⟩
  refine br_t rfl ⟨M1, wd 19 _ (by decide) ?_⟩
  cases c4 : isWd t n 19 s
  case true =>
    rw [c4, if_pos rfl] at hy hx
    exact br_f (by decide) ⟨M1, lz_hour (K := fun r40 w41 => (r40 = 0 ∨ r40 = 1) ∧ K r40 w41) L (fun b1 k1 z' L' => ⟨Or.inr rfl, hy b1 k1 z' L'⟩) (fun k pl D z' F => ⟨Or.inl rfl, hx k pl D z' F⟩)⟩
  rw [c4, if_neg bft, c5, if_neg bft] at hx
  exact br_t rfl ⟨M1, lz_ref (k := 2) L (fun z' F => hx 2 _ (L_DD L (by decide)) z' F)⟩
/-- a line more is told -/
theorem LZ_ln (L : LZ w z h t n s) : LZ w (uI z h 0 (nI (psG s 0 + 1))) h t n (setG (upG 0 (psG s 0 + 1) (psG s)) s) := by
  have hN := L.1.2.2.2.2.1
  have h26 := L.1.2.2.2.2.2
  obtain ⟨B, b, C, ⟨d0, d1, d2, d3, d4, d5, d6, d7, d8, d9⟩, W⟩ := L
  have e : ∀ k, k ≠ 0 → upG 0 (psG s 0 + 1) (psG s) k = psG s k := fun k hk => upG_n hk
  refine ⟨LB_up B (by omega), b, CT_up C (by omega), ?_, ?_⟩
  · show DR _ h (upG 0 (psG s 0 + 1) (psG s))
    refine ⟨d0, ⟨?_, ?_, ?_, ?_⟩, ⟨d2.1, arr_sim (ar1 d2.2 (by omega)) (fun j hj => e _ (by omega))⟩, ⟨d3.1, arr_sim (ar1 d3.2 (by omega)) (fun j hj => e _ (by omega))⟩, ⟨d4.1, arr_sim (ar1 d4.2 (by omega)) (fun j hj => e _ (by omega))⟩, ⟨d5.1, arr_sim (ar1 d5.2 (by omega)) (fun j hj => e _ (by omega))⟩, ⟨d6.1, arr_sim (ar1 d6.2 (by omega)) (fun j hj => e _ (by omega))⟩, ⟨d7.1, arr_sim (ar1 d7.2 (by omega)) (fun j hj => e _ (by omega))⟩, ⟨d8.1, arr_sim (ar1 d8.2 (by omega)) (fun j hj => e _ (by omega))⟩, ⟨d9.1, arr_sim (ar1 d9.2 (by omega)) (fun j hj => e _ (by omega))⟩⟩
    · rw [wI_uI, if_pos rfl, upG_s]
    · rw [wI_uI, if_neg (by decide), e 1 (by decide)]; exact d1.2.1
    · rw [wI_uI, if_neg (by decide), e 2 (by decide)]; exact d1.2.2.1
    · rw [wI_uI, if_neg (by decide), e 26 (by decide)]; exact d1.2.2.2
  · show LWs _ h (upG 0 (psG s 0 + 1) (psG s))
    exact LW_cg (e 3 (by decide)) (fun i => e _ (by omega)) (LW_up W (by omega) (by omega))
theorem text_d {F : Nat} (b : psB s ≠ 0) : textS t n F s = s := by
  cases F with
  | zero => rfl
  | succ F => exact if_neg (fun y => b y.1)
theorem lz_text : ∀ F s z i i0 j0, LZ w z h t n s → TIs n s → n < F + psP s → i ≤ psP s → i0 ≤ 9 + psP s → j0 ≤ 85 + psP s → (∀ z', LZ w z' h t n (textS t n F s) → TIs n (textS t n F s) → K 1 z') → (∀ k pl, DDp t n (textS t n F s) k pl → psB (textS t n F s) ≠ 0 → ∀ z', LFa w z' k pl → K 0 z') → l_X7_readText_47 1000 2000 K (F + 1) 238 (nI i) i0 j0 z := by
  intro F
  induction F with
  | zero =>
    intro s z i i0 j0 L V hf
    have := V.1
    omega
  | succ F ih =>
    intro s z i i0 j0 L V hf hi hi0 hj0 hy hx
    have hn := L.1.2.2.1.1
    have b := L.2.1
    have vp := V.1
    unfold l_X7_readText_47
    rw [L.2.2.1.2.2.2.2.2.2.2.1]
    by_cases k : txK t n (psP s) = 0
    · have e : textS t n (F + 1) s = s := if_neg (fun y => y.2 k)
      rw [e] at hy
      exact ⟨fun _ => hy z L V, fun _ => ⟨LZ_1 L, br_t (ckI_4.mpr k) (hy z L V)⟩⟩
    · have e : textS t n (F + 1) s = textS t n F (lineS t n s) := if_pos ⟨b, k⟩
      rw [e] at hy hx
      have lt : psP s < n := by
        by_cases c : psP s < n
        · exact c
        · exact absurd (tst_end (by omega) vp) k
      have cost : costL t n s ≤ 900 := by
        unfold costL
        split
        · rename_i c
          have := (TI_line (t := t) V hn c).1.1
          omega
        · omega
      have dl : ∀ k pl, DDp t n (lnS t n s) k pl → ∀ z', LFa w z' k pl → K 0 z' := fun k pl D => by
        have q := DD_st D
        have e2 : textS t n F (lineS t n s) = lineS t n s := text_d q.2
        rw [e2] at hx
        exact hx k pl q.1 q.2
      refine br_f (nI_ge (b := 900) (by omega) (by decide)) ⟨LZ_1 L, br_f (fun y => k (ckI_4.mp y)) ⟨1, costL t n s, ⟨by omega, by omega⟩, lz_line L V (fun b1 k1 z1 L1 => br_f (by decide) ⟨LZ_1 L1, ?_⟩) (fun k pl D z' Fa => br_t rfl (dl k pl D z' Fa))⟩⟩
      refine lz_exs (c := 59) L1 (by decide) (by decide) (fun b2 k2 z2 L2 => br_f (by decide) ⟨LZ_1 L2, ?_⟩) (fun k pl D z' Fa => br_t rfl ?_)
      · have eL : lineS t n s = setG (upG 0 (psG (mS t n 59 (lnS t n s)) 0 + 1) (psG (mS t n 59 (lnS t n s)))) (mS t n 59 (lnS t n s)) := if_pos b2
        have bL : psB (lineS t n s) = 0 := by rw [eL]; exact b2
        obtain ⟨t1, t2, -⟩ := TI_line (t := t) V hn bL
        have L3 := LZ_ln L2
        rw [← eL] at L3
        rw [L2.1.2.2.2.1, L2.2.2.2.1.2.1.1, show (nI (psG (mS t n 59 (lnS t n s)) 0) + 1 : Int32) = nI (psG (mS t n 59 (lnS t n s)) 0 + 1) from nI_add _ 1, show (nI i + 1 : Int32) = nI (i + 1) from nI_add i 1]
        have ec : costL t n s = psP (lineS t n s) - psP s := if_pos bL
        exact ⟨L2.2.2.2.1.1, ih (lineS t n s) _ (i + 1) (i0 + 1) (j0 + costL t n s) L3 t1 (by omega) (by omega) (by omega) (by omega) hy hx⟩
      · rcases D with ⟨d1, d2, d3⟩ | ⟨d1, d2, d3, d4⟩
        · have eL : lineS t n s = mS t n 59 (lnS t n s) := if_neg (by omega)
          have e2 : textS t n F (lineS t n s) = lineS t n s := text_d (by rw [eL]; omega)
          rw [e2, eL] at hx
          exact hx k pl (Or.inl ⟨d1, d2, d3⟩) (by omega) z' Fa
        · have eL : lineS t n s = setG (upG 0 (psG (mS t n 59 (lnS t n s)) 0 + 1) (psG (mS t n 59 (lnS t n s)))) (mS t n 59 (lnS t n s)) := if_pos d1
          have bL : psB (lineS t n s) = 0 := by rw [eL]; exact d1
          have DL : DDp t n (lineS t n s) k pl := by
            rw [eL]
            exact Or.inr ⟨d1, d2, d3, d4⟩
          obtain ⟨t1, t2, -⟩ := TI_line (t := t) V hn bL
          obtain ⟨F', hF⟩ : ∃ F', F = F' + 1 := ⟨F - 1, by have := t1.1; omega⟩
          subst hF
          have kL : txK t n (psP (lineS t n s)) = 3 := by rw [eL]; exact d2
          have e2 : textS t n (F' + 1) (lineS t n s) = textS t n F' (lineS t n (lineS t n s)) := if_pos ⟨bL, by omega⟩
          have wf : ∀ a, isWd t n a (lineS t n s) = false := fun a => DD_wd DL
          have e3 : lnS t n (lineS t n s) = blm t n 2 (lineS t n s) := by
            unfold lnS
            rw [wf, if_neg bft, wf, if_neg bft, wf, if_neg bft, wf, if_neg bft, wf, if_neg bft]
          have q := DD_st (DD_bl (j := 2) DL)
          have e4 : lineS t n (lineS t n s) = stS t n (blm t n 2 (lineS t n s)) := by
            show stS t n (lnS t n (lineS t n s)) = _
            rw [e3]
          rw [e2, e4, text_d q.2] at hx
          exact hx k pl q.1 q.2 z' Fa
end CX2
