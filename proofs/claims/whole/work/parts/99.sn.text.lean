/-! 99.sn: a whole text, on both sides -/
def st00 : pst := (0, 0, 0, 0, fun _ => 0)
def resT (t : Nat → Nat) (n : Nat) : pst := textS t n 901 st00
section TT
variable {w u z : Wd} {n : Nat} {t : Nat → Nat} {K : Int32 → Wd → Prop}
theorem GI_0 : GI (fun _ => 0) := ⟨⟨by decide, by decide, rfl, rfl, by decide⟩, fun v hv => absurd hv (Nat.not_lt_zero v), fun _ _ _ => rfl, fun v hv => absurd hv (Nat.not_lt_zero v), ⟨by decide, Or.inl rfl⟩, fun v hv => absurd hv (Nat.not_lt_zero v)⟩
theorem TI_0 (n : Nat) : TIs n st00 := ⟨Nat.zero_le _, rfl, GI_0, Nat.le_refl _⟩
theorem text_DD {s : pst} {k pl F : Nat} (D : DDp t n s k pl) : DDp t n (textS t n (F + 1) s) k pl ∧ psB (textS t n (F + 1) s) ≠ 0 := by
  rcases D with ⟨d1, d2, d3⟩ | ⟨d1, d2, d3, d4⟩
  · rw [text_d (by omega)]
    exact ⟨Or.inl ⟨d1, d2, d3⟩, by omega⟩
  · have D : DDp t n s k pl := Or.inr ⟨d1, d2, d3, d4⟩
    have e2 : textS t n (F + 1) s = textS t n F (lineS t n s) := if_pos ⟨d1, by omega⟩
    have wf : ∀ a, isWd t n a s = false := fun a => DD_wd D
    have e3 : lnS t n s = blm t n 2 s := by
      unfold lnS
      rw [wf, if_neg bft, wf, if_neg bft, wf, if_neg bft, wf, if_neg bft, wf, if_neg bft]
    have q := DD_st (DD_bl (j := 2) D)
    have e4 : lineS t n s = stS t n (blm t n 2 s) := by
      show stS t n (lnS t n s) = _
      rw [e3]
    rw [e2, e4, text_d q.2]
    exact q
theorem q_text (S : SH w) (hn9 : n ≤ 900) (htp : ∀ k, k < n → t k < 256 ∧ wI w 239 k = (nI (t k)).toInt8.toInt32) (hy : ∀ z', LZ w z' (wN w) t n (resT t n) → TIs n (resT t n) → K 1 z') (hx : ∀ k pl, DDp t n (resT t n) k pl → psB (resT t n) ≠ 0 → ∀ z', LFa w z' k pl → K 0 z') : w_X7_readText 1000 2000 238 (nI n) K w := by
  have R := S.2.2.2.2.2.2.2.1
  have N261 := SH_N S
  refine ⟨R.1, ⟨by decide, by decide⟩, fun r3 w4 e1 e2 => ⟨⟨by decide, by decide⟩, ?_⟩⟩
  obtain ⟨w0, hw0⟩ : ∃ w0, w0 = uI (uI (uI (uI (uI w 238 0 0) 238 5 (nI n)) 238 7 0) 238 1 0) 238 2 (-1) := ⟨_, rfl⟩
  have c0 : cx rzT w w0 := by
    rw [hw0]
    exact cx_trans (cx_trans (cx_trans (cx_trans (cx_uI (Or.inl rfl)) (cx_uI (Or.inl rfl))) (cx_uI (Or.inl rfl))) (cx_uI (Or.inl rfl))) (cx_uI (Or.inl rfl))
  have n0 : wN w0 = wN w := by rw [hw0]; rfl
  have f0 : wI w0 238 0 = 0 := by
    rw [hw0, wI_uI, if_neg (by decide), wI_uI, if_neg (by decide), wI_uI, if_neg (by decide), wI_uI, if_neg (by decide), wI_uI, if_pos rfl]
  have f5 : wI w0 238 5 = nI n := by
    rw [hw0, wI_uI, if_neg (by decide), wI_uI, if_neg (by decide), wI_uI, if_neg (by decide), wI_uI, if_pos rfl]
  have f7 : wI w0 238 7 = nI 0 := by
    rw [hw0, wI_uI, if_neg (by decide), wI_uI, if_neg (by decide), wI_uI, if_pos rfl]; rfl
  have f1 : wI w0 238 1 = 0 := by
    rw [hw0, wI_uI, if_neg (by decide), wI_uI, if_pos rfl]
  have f2 : wI w0 238 2 = -1 := by
    rw [hw0, wI_uI, if_pos rfl]
  have r0 : wR w0 = wR w := by rw [hw0]; rfl
  have t0 : wI w0 239 = wI w 239 := (c0.2 239 (by omega)).2.2 (by unfold rzT; omega) |>.1
  rw [← hw0] at e1 e2
  subst e1; subst e2
  rw [n0]
  refine q_hinit n0 (by omega) (fun X H => ?_)
  have cX := H.1
  have w238 := (cX.2 238 (by omega)).2.2 id
  have w239 := (cX.2 239 (by omega)).2.2 id
  have R0 : RrS w0 := RrS_cx c0 (congrFun r0 238) R
  have RX : RrS X := RrS_cx cX w238.2.2 R0
  have e01 : wn X 1 = 0 := ((cX.2 1 (by omega)).2.1).trans (((c0.2 1 (by omega)).2.1).trans (SH_0 S))
  obtain ⟨DX, LX0⟩ := hi_DR H e01
  have c1 : cx (fun r => r = 238) X (uR X 238 3 (wN w)) := cx_uRh
  have hI : ∀ r, wI (uR X 238 3 (wN w)) r = wI X r := fun r => rfl
  have RZ1 : RrS (uR X 238 3 (wN w)) := by
    refine ⟨RX.1, ⟨?_, RX.2.1.2⟩, ?_, RX.2.2.2⟩
    · rw [vaR, if_neg (by decide)]; exact RX.2.1.1
    · rw [vaR, if_neg (by decide)]; exact RX.2.2.1
  have B : LBs w (uR X 238 3 (wN w)) (wN w) t n := by
    refine ⟨?_, RZ1, ⟨hn9, fun k hk => ?_⟩, by rw [vaR, if_pos rfl], Nat.le_refl _, N261⟩
    · refine cx_trans (cx_trans c0 (cx_mono (fun _ y => y.elim) cX)) (cx_mono (fun r y => Or.inl y) c1)
    · rw [hI, w239.1, t0]
      exact htp k hk
  have D1 : DR (uR X 238 3 (wN w)) (wN w) (fun _ => 0) := DR_cx c1 (fun i _ => by omega) DX
  have L1 : LWs (uR X 238 3 (wN w)) (wN w) (fun _ => 0) := LWs_cx c1 DX.1 ⟨by omega, by have := LX0.1; omega⟩ rfl LX0
  obtain ⟨z1, hz1⟩ : ∃ z1, z1 = uR X 238 3 (wN w) := ⟨_, rfl⟩
  rw [← hz1] at B D1 L1 RZ1 ⊢
  have g238 : wI z1 238 = wI w0 238 := by rw [hz1, hI]; exact w238.1
  refine ⟨RX.1, by omega, q_tok (p := 0) (b0 := (wI z1 238 6).toBitVec.toNat) RZ1 B.2.2.1 (f := wI z1 238) (r2 := wI z1 240) (by rw [g238]; exact f5) (Nat.zero_le _) ⟨FCm_r z1, rfl, fun _ _ _ _ _ => rfl, nI_all _, by rw [g238]; exact f7⟩ (fun k z2 h2 h8 h9 => br_f (by decide) ⟨902, ?_⟩) (fun k z2 F h240 hf e1 e2 => br_t rfl ?_)⟩
  · have hf := h2.2.2.1
    have C2 : CTk z1 z2 t n 0 := ⟨h2.1, ⟨(hf 0 (by decide) (by decide) (by decide) (by decide)).trans (by rw [g238]; exact f0), (hf 1 (by decide) (by decide) (by decide) (by decide)).trans (by rw [g238]; exact f1), (hf 2 (by decide) (by decide) (by decide) (by decide)).trans (by rw [g238]; exact f2)⟩, (hf 5 (by decide) (by decide) (by decide) (by decide)).trans (by rw [g238]; exact f5), Nat.zero_le _, k, h2.2.2.2.1, h2.2.2.2.2, h8, h9⟩
    have c2 : cx rzT z1 z2 := cx_eqW h2.1.1
    have LZ2 : LZ w z2 (wN w) t n st00 := by
      refine ⟨⟨cx_trans B.1 c2, FCm_M RZ1 h2.1, ⟨hn9, fun k hk => ?_⟩, by rw [h2.1.2]; exact B.2.2.2.1, Nat.le_refl _, N261⟩, rfl, ⟨FCm_r _, C2.2⟩, DR_cx c2 (fun i _ => by unfold rzT; omega) D1, LWs_cx c2 D1.1 ⟨by unfold rzT; omega, ?_⟩ (congrFun h2.1.1.2.2.1 1) L1⟩
      · rw [(h2.1.1.2.2.2 239 (by decide)).1]
        exact B.2.2.1.2 k hk
      · have := L1.1
        unfold rzT
        omega
    exact lz_text 901 st00 z2 0 9 85 LZ2 (TI_0 n) (show n < 901 + 0 by omega) (Nat.zero_le _) (by show 9 ≤ 9 + 0; decide) (by show 85 ≤ 85 + 0; decide) hy hx
  · have D0 : DDp t n st00 1 (txB t n 0) := Or.inr ⟨rfl, k, rfl, rfl⟩
    have q := text_DD (F := 900) D0
    have c2 : cx rzT z1 z2 := cx_eqW F.1
    exact hx 1 _ q.1 q.2 z2 ⟨cx_trans B.1 c2, FCm_M RZ1 F, (hf 0 (by decide) (by decide) (by decide) (by decide) (by decide) (by decide)).trans (by rw [g238]; exact f0), e1, e2⟩
/-! the reference -/
theorem p_clear {E : Nat → Wd → Prop} (M : okM u 245) (f : Nat → Int32) (hE : ∀ z, FRm u z → wI z 245 = f → (∀ k, k < 1215 → wI z 247 k = 0) → E 245 z) : ∀ d k z, k + d = 1215 → FRm u z → wI z 245 = f → (∀ j, j < k → wI z 247 j = 0) → l_X12_hills_52 E K (d + 1) 245 (nI k) z := by
  intro d
  induction d with
  | zero =>
    intro k z hk F hf r
    have : k = 1215 := by omega
    subst this
    exact br_t (by decide) (hE z F hf r)
  | succ d ih =>
    intro k z hk F hf r
    have Mz := FRm_M M F
    have m1 := okM_tell Mz
    unfold l_X12_hills_52
    rw [m1.1, m1.2.2, nI_clamp (by omega), show (nI k + 1 : Int32) = nI (k + 1) from nI_add k 1]
    refine br_f (nI_ge (b := 1215) (by omega) (by decide)) ⟨Mz.1, m1.2.1, vp_in_nI (by omega) (by decide), ih (k + 1) _ (by omega) (FRm_7 F) (by rw [wI_uI_ne (by decide)]; exact hf) (fun j hj => ?_)⟩
    rw [wI_uI]
    by_cases e : j = k
    · rw [if_pos e]
    · rw [if_neg e]; exact r j (by omega)
theorem p_keep {g : Nat → Nat} (M : okM u 245) (f : Nat → Int32) (hE : ∀ z, eqW (fun t => t = 245 ∨ t = 246 ∨ t = 247) u z → wR z = wR u → wI z 245 = f → (∀ k, k < 1215 → wI z 246 k = nI (g k)) → K (nI (g 0)) z) : ∀ d k z, k + d = 1215 → eqW (fun t => t = 245 ∨ t = 246 ∨ t = 247) u z → wR z = wR u → wI z 245 = f → (∀ j, j < 1215 → wI z 247 j = nI (g j)) → (∀ j, j < k → wI z 246 j = nI (g j)) → l_X12_hills_141 K (d + 1) 245 (nI k) z := by
  intro d
  induction d with
  | zero =>
    intro k z hk F hR hf r7 r
    have : k = 1215 := by omega
    subst this
    have Mz : okM z 245 := okM_cx (cx_eqW F) (congrFun hR 245) M
    refine br_t (by decide) ⟨Mz.1, ?_⟩
    rw [Mz.2.1.1, Mz.2.1.2.2, show (0 : Int32).toNatClampNeg = 0 from rfl, r 0 (by decide)]
    exact ⟨Mz.2.1.2.1, vp_in_nI (n := 0) (by decide) (by decide), hE z F hR hf r⟩
  | succ d ih =>
    intro k z hk F hR hf r7 r
    have Mz : okM z 245 := okM_cx (cx_eqW F) (congrFun hR 245) M
    have m1 := okM_tell Mz
    unfold l_X12_hills_141
    rw [m1.1, m1.2.2, Mz.2.1.1, Mz.2.1.2.2, nI_clamp (by omega), r7 k (by omega), show (nI k + 1 : Int32) = nI (k + 1) from nI_add k 1]
    refine br_f (nI_ge (b := 1215) (by omega) (by decide)) ⟨Mz.1, Mz.2.1.2.1, m1.2.1, vp_in_nI (by omega) (by decide), vp_in_nI (by omega) (by decide), ih (k + 1) _ (by omega) (eqW_trans F (eqW_uI (Or.inr (Or.inl rfl)))) hR (by rw [wI_uI_ne (by decide)]; exact hf) (fun j hj => by rw [wI_uI_ne (by decide)]; exact r7 j hj) (fun j hj => ?_)⟩
    rw [wI_uI]
    by_cases e : j = k
    · rw [if_pos e, e]
    · rw [if_neg e]; exact r j (by omega)
theorem r_hills {N : Nat} (M : okM u 245) (T : TPt u t n) (hN : n ≤ N) (hN9 : N ≤ 900) (h6 : wI u 245 6 = nI N) (hy : psB (resT t n) = 0 → TIs n (resT t n) → ∀ z, eqW (fun t => t = 245 ∨ t = 246 ∨ t = 247) u z → wR z = wR u → wI z 245 4 = 0 → wI z 245 6 = 0 → wI z 245 14 = 0 → wI z 245 15 = -1 → (∀ k, k < 1215 → wI z 246 k = nI (psG (resT t n) k)) → K (nI (psG (resT t n) 0)) z) (hx : psB (resT t n) ≠ 0 → psB (resT t n) ≤ 4 → ∀ z, FRm u z → wI z 245 4 = 0 → wI z 245 6 = 0 → wI z 245 14 = nI (psB (resT t n)) → wI z 245 15 = nI (psL (resT t n)) → K (-10 - nI (psB (resT t n))) z) : w_X12_hills 245 (nI n) K u := by
  have e6 : wI (uI u 245 4 0) 245 6 = nI N := by rw [wI_uI, if_neg (by decide)]; exact h6
  have M1 : okM (uI u 245 4 0) 245 := M
  unfold w_X12_hills
  rw [e6]
  refine ⟨M.1, p_withinI 0 N (by decide) (by rw [Int32.toInt_toInt64]; exact nI_toInt (by omega)) ?_⟩
  rw [decide_eq_true (show (0 : Int) ≤ (nI n).toInt ∧ (nI n).toInt ≤ (N : Int) from by rw [nI_toInt (by omega)]; omega)]
  obtain ⟨z0, hz0⟩ : ∃ z0, z0 = uI (uI (uI (uI (uI (uI u 245 4 0) 245 7 (nI n)) 245 6 0) 245 8 0) 245 12 0) 245 16 0 := ⟨_, rfl⟩
  have F0 : FRm u z0 := by rw [hz0]; exact FRm_5 (FRm_5 (FRm_5 (FRm_5 (FRm_5 (FRm_5 ⟨eqW_refl _ _, rfl⟩)))))
  have g4 : wI z0 245 4 = 0 := by
    rw [hz0, wI_uI, if_neg (by decide), wI_uI, if_neg (by decide), wI_uI, if_neg (by decide), wI_uI, if_neg (by decide), wI_uI, if_neg (by decide), wI_uI, if_pos rfl]
  have g7 : wI z0 245 7 = nI n := by
    rw [hz0, wI_uI, if_neg (by decide), wI_uI, if_neg (by decide), wI_uI, if_neg (by decide), wI_uI, if_neg (by decide), wI_uI, if_pos rfl]
  have g6 : wI z0 245 6 = 0 := by
    rw [hz0, wI_uI, if_neg (by decide), wI_uI, if_neg (by decide), wI_uI, if_neg (by decide), wI_uI, if_pos rfl]
  have g8 : wI z0 245 8 = nI 0 := by
    rw [hz0, wI_uI, if_neg (by decide), wI_uI, if_neg (by decide), wI_uI, if_pos rfl]; rfl
  have g12 : wI z0 245 12 = 0 := by
    rw [hz0, wI_uI, if_neg (by decide), wI_uI, if_pos rfl]
  have g16 : wI z0 245 16 = nI 0 := by
    rw [hz0, wI_uI, if_pos rfl]; rfl
  rw [← hz0]
  refine br_f (by decide) ⟨M.1, 1216, p_clear M (wI z0 245) (fun z F hf r => ⟨(FRm_M M F).1, ?_⟩) 1215 0 z0 rfl F0 rfl (fun j hj => absurd hj (Nat.not_lt_zero j))⟩
  refine r_tok (p := 0) (pl := 0) (d := 0) (g := fun _ => 0) M T (Nat.zero_le _) F (by rw [hf]; exact ⟨g4, g6, g7⟩) (by rw [hf]; exact g8) (by rw [hf]; exact g12) (by rw [hf]; exact g16) (fun k hk => by rw [r k hk]; rfl) (fun z1 R1 => ⟨902, r_text M T 901 st00 z1 (fun _ => ⟨TI_0 n, show n < 901 + 0 by omega⟩) R1 (fun z2 R2 V2 => ?_)⟩)
  have R2' : RZ u z2 t n (resT t n) := R2
  have V2' : psB (resT t n) = 0 → TIs n (resT t n) := V2
  obtain ⟨q1, q2, q3, q4, q5, q6, q7⟩ := R2'
  have M2 := FRm_M M q1
  unfold j_X12_hills_97
  have w12 : ∀ x, wI (uI z2 245 14 x) 245 12 = nI (psB (resT t n)) := fun x => by rw [wI_uI, if_neg (by decide)]; exact q3.2
  have w13 : ∀ x, wI (uI z2 245 14 x) 245 13 = wI z2 245 13 := fun x => by rw [wI_uI, if_neg (by decide)]
  have w12' : ∀ x y, wI (uI (uI z2 245 14 x) 245 15 y) 245 12 = nI (psB (resT t n)) := fun x y => by rw [wI_uI, if_neg (by decide)]; exact w12 x
  rw [w12, q3.2]
  refine ⟨M2.1, ?_⟩
  have k4 : ∀ x y, wI (uI (uI z2 245 14 x) 245 15 y) 245 4 = 0 := fun x y => by rw [wI_uI, if_neg (by decide), wI_uI, if_neg (by decide)]; exact q2.1
  have k6 : ∀ x y, wI (uI (uI z2 245 14 x) 245 15 y) 245 6 = 0 := fun x y => by rw [wI_uI, if_neg (by decide), wI_uI, if_neg (by decide)]; exact q2.2.1
  have k14 : ∀ x y, wI (uI (uI z2 245 14 x) 245 15 y) 245 14 = x := fun x y => by rw [wI_uI, if_neg (by decide), wI_uI, if_pos rfl]
  have k15 : ∀ x y, wI (uI (uI z2 245 14 x) 245 15 y) 245 15 = y := fun x y => by rw [wI_uI, if_pos rfl]
  by_cases b : psB (resT t n) = 0
  · have nb : nI (psB (resT t n)) = 0 := by rw [b]; rfl
    rw [w12', nb]
    refine br_t rfl (br_t rfl ⟨1216, p_keep M (wI (uI (uI z2 245 14 0) 245 15 (-1)) 245) (fun z3 F3 hR3 hf3 r3 => ?_) 1215 0 _ rfl ?_ q1.2 rfl (fun j hj => by rw [wI_uI_ne (by decide), wI_uI_ne (by decide)]; exact q5 j hj) (fun j hj => absurd hj (Nat.not_lt_zero j))⟩)
    · exact hy b (V2' b) z3 F3 hR3 (by rw [hf3]; exact k4 _ _) (by rw [hf3]; exact k6 _ _) (by rw [hf3]; exact k14 _ _) (by rw [hf3]; exact k15 _ _) r3
    · exact eqW_mono (fun r y => y.elim Or.inl (fun y => Or.inr (Or.inr y))) (FRm_5 (FRm_5 q1)).1
  · have nb : ¬ nI (psB (resT t n)) = 0 := fun y => b ((nI_eq (a := psB (resT t n)) (b := 0) (by omega) (by decide)).mp y)
    rw [w13, q7 b]
    refine br_f nb ?_
    rw [w12']
    exact br_f nb (hx b q3.1 _ (FRm_5 (FRm_5 q1)) (k4 _ _) (k6 _ _) (k14 _ _) (k15 _ _))
end TT
