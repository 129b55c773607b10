/-! 99.sk: the class keeps a law -/
section CK
variable {w z : Wd} {h n : Nat} {t : Nat → Nat} {s : pst} {K : Int32 → Wd → Prop}
theorem cx_nw {T U : Nat → Prop} {w z z' : Wd} (a : cx T w z) (b : cx U z z') (hU : ∀ r, r < wN w → ¬ U r) : cx T w z' := ⟨Nat.le_trans a.1 b.1, fun r hr => by
  have hr2 := Nat.lt_of_lt_of_le hr a.1
  obtain ⟨a1, a2, a3⟩ := a.2 r hr
  obtain ⟨b1, b2, b3⟩ := b.2 r hr2
  have b3 := b3 (hU r hr)
  exact ⟨b1.trans a1, b2.trans a2, fun y => ⟨b3.1.trans (a3 y).1, b3.2.1.trans (a3 y).2.1, b3.2.2.trans (a3 y).2.2⟩⟩⟩
theorem cx_upN {T : Nat → Prop} {w z : Wd} {t0 k : Nat} {x : Int32} (a : cx T w z) (h0 : wN w ≤ t0) : cx T w (uI z t0 k x) := cx_nw a (cx_uI (T := fun r => r = t0) rfl) (fun r hr e => by omega)
theorem vaR {w : Wd} {r k v j : Nat} : wR (uR w r k v) r j = if j = k then v else wR w r j := by
  rw [wR_uR_same]
  unfold va_up
  rfl
theorem cx_uRh {w : Wd} {r k v : Nat} : cx (fun q => q = r) w (uR w r k v) := ⟨Nat.le_refl _, fun q hq => ⟨rfl, rfl, fun y => ⟨rfl, rfl, wR_uR_ne y⟩⟩⟩
theorem LZ_k12 {x : Int32} (L : LZ w z h t n s) : LZ w (uI z 238 12 x) h t n s := by
  obtain ⟨c1, c2, c3, c4, c5, c6, c7, c8, c9⟩ := L.2.2.1
  have w' : ∀ k, k ≠ 12 → wI (uI z 238 12 x) 238 k = wI z 238 k := fun k hk => by rw [wI_uI, if_neg hk]
  exact LZ_T L (FCm_8 (FCm_r z)) L.2.1 rfl ⟨FCm_8 (FCm_r z), ⟨(w' 0 (by decide)).trans c2.1, (w' 1 (by decide)).trans c2.2.1, (w' 2 (by decide)).trans c2.2.2⟩, (w' 5 (by decide)).trans c3, c4, c5, (w' 6 (by decide)).trans c6, (w' 7 (by decide)).trans c7, (w' 8 (by decide)).trans c8, (w' 9 (by decide)).trans c9⟩
theorem DR_cg {g g' : Nat → Nat} (e : ∀ k, k ≠ 3 → k < 299 → g' k = g k) (D : DR z h g) : DR z h g' := by
  obtain ⟨d0, d1, d2, d3, d4, d5, d6, d7, d8, d9⟩ := D
  refine ⟨d0, ⟨by rw [e 0 (by decide) (by decide)]; exact d1.1, by rw [e 1 (by decide) (by decide)]; exact d1.2.1, by rw [e 2 (by decide) (by decide)]; exact d1.2.2.1, by rw [e 26 (by decide) (by decide)]; exact d1.2.2.2⟩, ⟨d2.1, arr_sim d2.2 (fun j hj => e _ (by omega) (by omega))⟩, ⟨d3.1, arr_sim d3.2 (fun j hj => e _ (by omega) (by omega))⟩, ⟨d4.1, arr_sim d4.2 (fun j hj => e _ (by omega) (by omega))⟩, ⟨d5.1, arr_sim d5.2 (fun j hj => e _ (by omega) (by omega))⟩, ⟨d6.1, arr_sim d6.2 (fun j hj => e _ (by omega) (by omega))⟩, ⟨d7.1, arr_sim d7.2 (fun j hj => e _ (by omega) (by omega))⟩, ⟨d8.1, arr_sim d8.2 (fun j hj => e _ (by omega) (by omega))⟩, ⟨d9.1, arr_sim d9.2 (fun j hj => e _ (by omega) (by omega))⟩⟩
/-- the law that was read becomes the draft's -/
theorem lz_keep {mc ms i0 j0 : Nat} {z3 : Wd} {s3 : pst} (B : LBs w z3 h t n) (b : psB s3 = 0) (C : CTk z3 z3 t n (psP s3)) (D : DR z3 h (psG s3)) (cd : CCd z3 (psG s3)) (h9 : psG s3 3 ≤ 900) (hy : ∀ z', LZ w z' h t n s3 → K 1 z') : ∃ m, l_X7_readLaw_35 mc ms K m 238 (wN z3) 0 i0 j0 (wA z3 20 (psG s3 3)) := by
  have hN := B.2.2.2.2.1
  have h26 := B.2.2.2.2.2
  have Nw : wN w ≤ wN z3 := B.1.1
  have h8 : h + 8 < wN z3 := D.2.2.2.2.2.2.2.2.2.2.1.2.1
  have go : ∀ d i zi, i + d = psG s3 3 → cx (fun _ => False) z3 zi → isK zi (wN z3) 20 → wn zi (wN z3) = psG s3 3 → (∀ k, k < i → wI zi (wN z3) k = nI (cvS (psG s3 (299 + k)))) → l_X7_readLaw_35 mc ms K (d + 1) 238 (wN z3) (nI i) i0 j0 zi := by
    intro d
    induction d with
    | zero =>
      intro i zi hi c k1 k2 k3
      have e : i = psG s3 3 := by omega
      subst e
      have Ri := RrS_cx c (by rw [(c.2 238 (by omega)).2.2 id |>.2.2]) B.2.1
      have Dk : isK zi h 1 := cx_isK c D.1
      have r3 : wR zi 238 3 = h := by rw [((c.2 238 (by omega)).2.2 id).2.2]; exact B.2.2.2.1
      unfold l_X7_readLaw_35
      rw [k2, r3]
      refine ⟨Or.inr k1, br_t (nI_le (Nat.le_refl _) (by omega)) ⟨Ri.1, Dk, by omega, hy _ ?_⟩⟩
      have c5 : cx (fun r => r = h) z3 (uR zi h 4 (wN z3)) := cx_trans (cx_mono (fun _ y => y.elim) c) cx_uRh
      have a238 := (c5.2 238 (by omega)).2.2 (by omega)
      have a239 := (c5.2 239 (by omega)).2.2 (by omega)
      have hI : wI (uR zi h 4 (wN z3)) h = wI z3 h := ((c.2 h D.1.2.1).2.2 id).1
      have hR : ∀ j, j ≠ 4 → wR (uR zi h 4 (wN z3)) h j = wR z3 h j := fun j hj => by
        rw [vaR, if_neg hj, ((c.2 h D.1.2.1).2.2 id).2.2]
      refine ⟨⟨cx_nw B.1 c5 (fun r hr e => by omega), RrS_cx c5 a238.2.2 B.2.1, ⟨B.2.2.1.1, fun k hk => by rw [a239.1]; exact B.2.2.1.2 k hk⟩, by rw [a238.2.2]; exact B.2.2.2.1, hN, h26⟩, b, ?_, ?_, ?_, ?_⟩
      · obtain ⟨c1, c2, c3, c4, c5, c6, c7, c8, c9⟩ := C
        exact ⟨FCm_r _, by rw [a238.1]; exact c2, by rw [a238.1]; exact c3, c4, c5, by rw [a238.1]; exact c6, by rw [a238.1]; exact c7, by rw [a238.1]; exact c8, by rw [a238.1]; exact c9⟩
      · obtain ⟨d0, d1, d2, d3, d4, d5, d6, d7, d8, d9⟩ := D
        refine ⟨cx_isK c5 d0, by rw [hI]; exact d1, ⟨(hR 5 (by decide)).trans d2.1, arr_cx c5 d2.2 (by omega)⟩, ⟨(hR 6 (by decide)).trans d3.1, arr_cx c5 d3.2 (by omega)⟩, ⟨(hR 7 (by decide)).trans d4.1, arr_cx c5 d4.2 (by omega)⟩, ⟨(hR 8 (by decide)).trans d5.1, arr_cx c5 d5.2 (by omega)⟩, ⟨(hR 9 (by decide)).trans d6.1, arr_cx c5 d6.2 (by omega)⟩, ⟨(hR 10 (by decide)).trans d7.1, arr_cx c5 d7.2 (by omega)⟩, ⟨(hR 11 (by decide)).trans d8.1, arr_cx c5 d8.2 (by omega)⟩, ⟨(hR 12 (by decide)).trans d9.1, arr_cx c5 d9.2 (by omega)⟩⟩
      · rw [vaR, if_pos rfl]
        exact Or.inr h8
      · rw [vaR, if_pos rfl]
        exact Or.inr ⟨k1, k2, k3⟩
    | succ d ih =>
      intro i zi hi c k1 k2 k3
      have Ri := RrS_cx c (by rw [(c.2 238 (by omega)).2.2 id |>.2.2]) B.2.1
      unfold l_X7_readLaw_35
      rw [k2, Ri.2.2.1, Ri.2.2.2.2, nI_clamp (by omega), show (nI i + 1 : Int32) = nI (i + 1) from nI_add i 1, ((c.2 240 (by omega)).2.2 id).1, cd.2 i (by omega)]
      refine ⟨Or.inr k1, br_f (nI_ge (by omega) (by omega)) ⟨Ri.1, Ri.2.2.2.1, br_f (nI_ge (b := 900) (by omega) (by decide)) ⟨vp_in_nI (by omega) (by decide), k1, vp_in_nI (by omega) (by omega), ih (i + 1) _ (by omega) (cx_upN c (Nat.le_refl _)) k1 k2 (fun k hk => ?_)⟩⟩⟩
      rw [wI_uI]
      by_cases e : k = i
      · rw [if_pos e, e]
      · rw [if_neg e]
        exact k3 k (by omega)
  exact ⟨psG s3 3 + 1, go (psG s3 3) 0 _ (by omega) (cx_wA z3 20 (psG s3 3)) (wA_is0 (by omega)) wA_n0 (fun k hk => absurd hk (Nat.not_lt_zero k))⟩
theorem lz_law {mc ms : Nat} (L : LZ w z h t n s) (V : TIs n s) (k0 : txK t n (psP s) ≠ 0) (hmc : 1 ≤ mc) (hms : psB (uG t n 30 1 (setG (upG 3 0 (psG s)) (rdS t n s))) = 0 → psG (uG t n 30 1 (setG (upG 3 0 (psG s)) (rdS t n s))) 3 ≤ ms) (hy : psB (uG t n 30 1 (setG (upG 3 0 (psG s)) (rdS t n s))) = 0 → txK t n (psP (uG t n 30 1 (setG (upG 3 0 (psG s)) (rdS t n s)))) ≠ 3 → ∀ z', LZ w z' h t n (uG t n 30 1 (setG (upG 3 0 (psG s)) (rdS t n s))) → K 1 z') (hx : ∀ k pl, DDp t n (uG t n 30 1 (setG (upG 3 0 (psG s)) (rdS t n s))) k pl → ∀ z', LFa w z' k pl → K 0 z') : w_X7_readLaw mc ms 238 K z := by
  have hn := L.1.2.2.1.1
  have l := rd_lt V.1 k0
  obtain ⟨s2, hs2⟩ : ∃ s2, s2 = setG (upG 3 0 (psG s)) (rdS t n s) := ⟨_, rfl⟩
  have g2 : psG s2 = upG 3 0 (psG s) := by rw [hs2]; rfl
  have b2 : psB s2 = 0 := by rw [hs2]; exact L.2.1
  have p2 : psP s2 = txE t n (psP s) := by rw [hs2]; rfl
  have d2 : psD s2 = 0 := by rw [hs2]; exact V.2.1
  have V2 : IVs n s2 := by
    refine ⟨by omega, fun _ => ⟨by omega, ?_, ?_⟩⟩
    · rw [p2]; exact l.2
    · rw [g2, upG_s]; exact Nat.zero_le _
  have V3 := uG_IV (t := t) (q := 1) (by decide) V2 (fuU30 V2)
  rw [← hs2] at hms hy hx
  have L0 := LZ_k12 (x := 0) L
  have e12 : wI (uI z 238 12 0) 238 12 = 0 := by rw [wI_uI, if_pos rfl]
  refine ⟨LZ_1 L, ct_adv L0.1.2.1 L0.1.2.2.1 L0.2.2.1 (fun k z2 C2 _ h12 h240 => br_f (by decide) ?_) (fun k z2 F => br_t rfl (hx 1 (txB t n (txE t n (psP s))) (DD_uG (by decide) V2 (fuU30 V2) (Or.inr ⟨b2, by rw [p2]; exact k, rfl, by rw [p2]⟩)) z2 (LF_F L0 F)))⟩
  have L2 : LZ w z2 h t n (rdS t n s) := LZ_T (s' := rdS t n s) L0 C2.1 L.2.1 rfl C2
  have CZ2 : CZ z2 z2 t n s2 := by
    refine ⟨b2, by rw [p2]; exact L2.2.2.1, ?_, fun k hk => ?_⟩
    · rw [h12, e12, g2, upG_s]; rfl
    · rw [g2, upG_s] at hk; exact absurd hk (Nat.not_lt_zero k)
  have q := q_truth (K := fun r6 w7 => ((r6 = 0 → K 0 w7) ∧ (¬ r6 = 0 → isK w7 238 7 ∧ w_J9_max_7cf53 (wI w7 238 12) 0 (fun r10 w11 => ¬ r10 < 0 ∧ r10.toNatClampNeg ≤ 100000 ∧ (1 ≤ mc ∧ 0 + r10.toNatClampNeg ≤ ms) ∧ ∀ r15 w16, r15 = wN w11 → w16 = wA w11 20 r10.toNatClampNeg → ∃ n32, l_X7_readLaw_35 mc ms K n32 238 r15 0 1 (0 + r10.toNatClampNeg) w16) w7))) L2.1.2.1 L2.1.2.2.1 V2 CZ2
  rw [d2] at q
  refine ⟨LZ_1 L2, q (fun b3 k3 z3 C3 => br_f (by decide) ?_) (fun k pl D z3 F => br_t rfl (hx k pl D z3 (LF_F L2 F)))⟩
  obtain ⟨f1, f2, f3⟩ := LZ_F L2 C3.2.1.1
  have v3 := V3.1.2 b3
  have g3 : psG (uG t n 30 1 s2) 3 ≤ 900 := by omega
  have Gd3 := (((uG_30 (t := t) (n := n) (s := s2) (by rw [p2]; exact l.2) (by omega)).2.2 b2).2 b3).2.2.2.2.1
  have eG : ∀ k, k ≠ 3 → k < 299 → psG (uG t n 30 1 s2) k = psG s k := fun k k1 k2 => by
    rw [Gd3 k k1 (by omega), g2, upG_n k1]
  refine ⟨f1.2.1.1, ?_⟩
  rw [C3.2.2.1]
  refine br_f (nI_pos (by omega)) ?_
  show ¬ nI (psG (uG t n 30 1 s2) 3) < 0 ∧ (nI (psG (uG t n 30 1 s2) 3)).toNatClampNeg ≤ 100000 ∧ (1 ≤ mc ∧ 0 + (nI (psG (uG t n 30 1 s2) 3)).toNatClampNeg ≤ ms) ∧ ∀ r15 w16, r15 = wN z3 → w16 = wA z3 20 (nI (psG (uG t n 30 1 s2) 3)).toNatClampNeg → ∃ n32, l_X7_readLaw_35 mc ms K n32 238 r15 0 1 (0 + (nI (psG (uG t n 30 1 s2) 3)).toNatClampNeg) w16
  rw [nI_clamp (by omega)]
  refine ⟨nI_pos (by omega), by omega, ⟨hmc, by have := hms b3; omega⟩, fun r15 w16 e1 e2 => ?_⟩
  subst e1
  subst e2
  exact lz_keep f1 b3 ⟨FCm_r _, C3.2.1.2⟩ (DR_cg eG f2) C3.2.2 g3 (fun z' L' => hy b3 k3 z' L')
end CK
