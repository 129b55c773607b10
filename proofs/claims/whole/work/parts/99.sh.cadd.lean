/-! 99.sh: the class's draft grows -/
section CH
variable {w z : Wd} {h n : Nat} {t : Nat → Nat} {s : pst} {g : Nat → Nat} {K : Wd → Prop}
theorem ar1 {t0 t1 m k : Nat} {x : Int32} {p : Nat → Nat} (a : arr z t1 m p) (ne : t1 ≠ t0) : arr (uI z t0 k x) t1 m p := ⟨a.1, a.2.1, fun j hj => by rw [wI_uI_ne ne]; exact a.2.2 j hj⟩
theorem LB_up {t0 k : Nat} {x : Int32} (L : LBs w z h t n) (h0 : wN w ≤ t0) : LBs w (uI z t0 k x) h t n := by
  obtain ⟨b1, b2, b3, b4, b5, b6⟩ := L
  refine ⟨⟨b1.1, fun r hr => ⟨(b1.2 r hr).1, (b1.2 r hr).2.1, fun y => ?_⟩⟩, b2, ⟨b3.1, fun j hj => ?_⟩, b4, b5, b6⟩
  · have q := (b1.2 r hr).2.2 y
    exact ⟨(wI_uI_ne (by omega)).trans q.1, q.2.1, q.2.2⟩
  · rw [wI_uI_ne (by omega)]
    exact b3.2 j hj
theorem CT_up {t0 k p : Nat} {x : Int32} (C : CTk z z t n p) (h0 : 261 ≤ t0) : CTk (uI z t0 k x) (uI z t0 k x) t n p := by
  obtain ⟨c1, c2, c3, c4, c5, c6, c7, c8, c9⟩ := C
  have e : wI (uI z t0 k x) 238 = wI z 238 := wI_uI_ne (by omega)
  exact ⟨FCm_r _, by rw [e]; exact c2, by rw [e]; exact c3, c4, c5, by rw [e]; exact c6, by rw [e]; exact c7, by rw [e]; exact c8, by rw [e]; exact c9⟩
theorem lawR_cg {g' : Nat → Nat} {c : Nat} (e3 : g' 3 = g 3) (e : ∀ i, g' (299 + i) = g (299 + i)) (L : lawR z c g) : lawR z c g' := by
  rcases L with ⟨l1, l2, l3⟩ | l
  · exact Or.inl ⟨l1, l2, e3.trans l3⟩
  · refine Or.inr ?_
    rw [e3]
    exact arr_sim l (fun k _ => by rw [e k])
theorem LW_up {t0 k : Nat} {x : Int32} (L : LWs z h g) (h0 : 261 ≤ t0) (h8 : t0 ≤ h + 8) : LWs (uI z t0 k x) h g := by
  refine ⟨L.1, ?_⟩
  rcases L.2 with ⟨l1, l2, l3⟩ | l
  · exact Or.inl ⟨l1, l2, l3⟩
  · have := L.1
    have c : wR z h 4 ≠ t0 := by omega
    exact Or.inr (ar1 l c)
theorem LW_cg {g' : Nat → Nat} (e3 : g' 3 = g 3) (e : ∀ i, g' (299 + i) = g (299 + i)) (L : LWs z h g) : LWs z h g' := ⟨L.1, lawR_cg e3 e L.2⟩
section AW
variable {r x y d v j : Nat}
theorem addW_n {k : Nat} (k1 : k ≠ 1) (k2 : k ≠ 15 + g 1) (k3 : k ≠ 47 + g 1) (k4 : k ≠ 5 + g 1) (k5 : k ≠ 37 + g 1) (k6 : k ≠ 27 + g 1) : addW g r x y d v k = g k := by
  unfold addW
  rw [upG_n k1, upG_n k2, upG_n k3, upG_n k4, upG_n k5, upG_n k6]
theorem addW_27 (hw : g 1 < 10) (hj : j < 10) : addW g r x y d v (27 + j) = if j = g 1 then r else g (27 + j) := by
  by_cases e : j = g 1
  · rw [if_pos e, e]
    unfold addW
    rw [upG_n (by omega), upG_n (by omega), upG_n (by omega), upG_n (by omega), upG_n (by omega), upG_s]
  · rw [if_neg e]
    exact addW_n (by omega) (by omega) (by omega) (by omega) (by omega) (by omega)
theorem addW_37 (hw : g 1 < 10) (hj : j < 10) : addW g r x y d v (37 + j) = if j = g 1 then x else g (37 + j) := by
  by_cases e : j = g 1
  · rw [if_pos e, e]
    unfold addW
    rw [upG_n (by omega), upG_n (by omega), upG_n (by omega), upG_n (by omega), upG_s]
  · rw [if_neg e]
    exact addW_n (by omega) (by omega) (by omega) (by omega) (by omega) (by omega)
theorem addW_5 (hw : g 1 < 10) (hj : j < 10) : addW g r x y d v (5 + j) = if j = g 1 then y else g (5 + j) := by
  by_cases e : j = g 1
  · rw [if_pos e, e]
    unfold addW
    rw [upG_n (by omega), upG_n (by omega), upG_n (by omega), upG_s]
  · rw [if_neg e]
    exact addW_n (by omega) (by omega) (by omega) (by omega) (by omega) (by omega)
theorem addW_47 (hw : g 1 < 10) (hj : j < 10) : addW g r x y d v (47 + j) = if j = g 1 then d else g (47 + j) := by
  by_cases e : j = g 1
  · rw [if_pos e, e]
    unfold addW
    rw [upG_n (by omega), upG_n (by omega), upG_s]
  · rw [if_neg e]
    exact addW_n (by omega) (by omega) (by omega) (by omega) (by omega) (by omega)
theorem addW_15 (hw : g 1 < 10) (hj : j < 10) : addW g r x y d v (15 + j) = if j = g 1 then v else g (15 + j) := by
  by_cases e : j = g 1
  · rw [if_pos e, e]
    unfold addW
    rw [upG_n (by omega), upG_s]
  · rw [if_neg e]
    exact addW_n (by omega) (by omega) (by omega) (by omega) (by omega) (by omega)
end AW
theorem lz_addW {r x y d v : Nat} (L : LZ w z h t n s) (hw : psG s 1 < 10) (hk : ∀ z', LZ w z' h t n (setG (addW (psG s) r x y d v) s) → K z') : w_X1_addWell h (nI r) (nI x) (nI y) (nI d) (nI v) K z := by
  obtain ⟨B, b, C, D, W⟩ := L
  have hN := B.2.2.2.2.1
  have h26 := B.2.2.2.2.2
  obtain ⟨d0, d1, d2, d3, d4, d5, d6, d7, d8, d9⟩ := D
  have e1 : wI z h 1 = nI (psG s 1) := d1.2.1
  have f1 : wI (uI z (h + 1) (psG s 1) (nI r)) h 1 = nI (psG s 1) := by rw [wI_uI_ne (by omega)]; exact e1
  have f2 : wI (uI (uI z (h + 1) (psG s 1) (nI r)) (h + 2) (psG s 1) (nI x)) h 1 = nI (psG s 1) := by rw [wI_uI_ne (by omega)]; exact f1
  have f3 : wI (uI (uI (uI z (h + 1) (psG s 1) (nI r)) (h + 2) (psG s 1) (nI x)) (h + 3) (psG s 1) (nI y)) h 1 = nI (psG s 1) := by rw [wI_uI_ne (by omega)]; exact f2
  have f4 : wI (uI (uI (uI (uI z (h + 1) (psG s 1) (nI r)) (h + 2) (psG s 1) (nI x)) (h + 3) (psG s 1) (nI y)) (h + 4) (psG s 1) (nI d)) h 1 = nI (psG s 1) := by rw [wI_uI_ne (by omega)]; exact f3
  have f5 : wI (uI (uI (uI (uI (uI z (h + 1) (psG s 1) (nI r)) (h + 2) (psG s 1) (nI x)) (h + 3) (psG s 1) (nI y)) (h + 4) (psG s 1) (nI d)) (h + 5) (psG s 1) (nI v)) h 1 = nI (psG s 1) := by rw [wI_uI_ne (by omega)]; exact f4
  unfold w_X1_addWell
  rw [d2.1, d3.1, d4.1, d5.1, d6.1, e1, nI_clamp (by omega), f1, nI_clamp (by omega), f2, nI_clamp (by omega), f3, nI_clamp (by omega), f4, nI_clamp (by omega), f5, d2.2.2.1, d3.2.2.1, d4.2.2.1, d5.2.2.1, d6.2.2.1, show (nI (psG s 1) + 1 : Int32) = nI (psG s 1 + 1) from nI_add _ 1]
  refine ⟨d0, br_f (nI_pos (by omega)) (br_t (nI_lt (b := 10) hw (by decide)) ⟨d2.2.1, vp_in_nI hw (by decide), d3.2.1, vp_in_nI hw (by decide), d4.2.1, vp_in_nI hw (by decide), d5.2.1, vp_in_nI hw (by decide), d6.2.1, vp_in_nI hw (by decide), hk _ ?_⟩)⟩
  refine ⟨LB_up (LB_up (LB_up (LB_up (LB_up (LB_up B (by omega)) (by omega)) (by omega)) (by omega)) (by omega)) (by omega), b, CT_up (CT_up (CT_up (CT_up (CT_up (CT_up C (by omega)) (by omega)) (by omega)) (by omega)) (by omega)) (by omega), ?_, ?_⟩
  · show DR _ h (addW (psG s) r x y d v)
    have n0 := addW_n (g := psG s) (r := r) (x := x) (y := y) (d := d) (v := v) (k := 0) (by omega) (by omega) (by omega) (by omega) (by omega) (by omega)
    have n2 := addW_n (g := psG s) (r := r) (x := x) (y := y) (d := d) (v := v) (k := 2) (by omega) (by omega) (by omega) (by omega) (by omega) (by omega)
    have n26 := addW_n (g := psG s) (r := r) (x := x) (y := y) (d := d) (v := v) (k := 26) (by omega) (by omega) (by omega) (by omega) (by omega) (by omega)
    have hrow : ∀ k, wI (uI (uI (uI (uI (uI z (h + 1) (psG s 1) (nI r)) (h + 2) (psG s 1) (nI x)) (h + 3) (psG s 1) (nI y)) (h + 4) (psG s 1) (nI d)) (h + 5) (psG s 1) (nI v)) h k = wI z h k := fun k => by
      rw [wI_uI_ne (by omega), wI_uI_ne (by omega), wI_uI_ne (by omega), wI_uI_ne (by omega), wI_uI_ne (by omega)]
    refine ⟨d0, ⟨?_, ?_, ?_, ?_⟩, ⟨d2.1, ?_⟩, ⟨d3.1, ?_⟩, ⟨d4.1, ?_⟩, ⟨d5.1, ?_⟩, ⟨d6.1, ?_⟩, ⟨d7.1, ?_⟩, ⟨d8.1, ?_⟩, ⟨d9.1, ?_⟩⟩
    · rw [wI_uI, if_neg (by decide), hrow, n0]; exact d1.1
    · rw [wI_uI, if_pos rfl]
      rw [show addW (psG s) r x y d v 1 = psG s 1 + 1 from upG_s _ _ _]
    · rw [wI_uI, if_neg (by decide), hrow, n2]; exact d1.2.2.1
    · rw [wI_uI, if_neg (by decide), hrow, n26]; exact d1.2.2.2
    · exact ar1 (ar1 (ar1 (ar1 (ar1 (arr_up d2.2 (fun j hj => addW_27 hw hj)) (by omega)) (by omega)) (by omega)) (by omega)) (by omega)
    · exact ar1 (ar1 (ar1 (ar1 (arr_up (ar1 d3.2 (by omega)) (fun j hj => addW_37 hw hj)) (by omega)) (by omega)) (by omega)) (by omega)
    · exact ar1 (ar1 (ar1 (arr_up (ar1 (ar1 d4.2 (by omega)) (by omega)) (fun j hj => addW_5 hw hj)) (by omega)) (by omega)) (by omega)
    · exact ar1 (ar1 (arr_up (ar1 (ar1 (ar1 d5.2 (by omega)) (by omega)) (by omega)) (fun j hj => addW_47 hw hj)) (by omega)) (by omega)
    · exact ar1 (arr_up (ar1 (ar1 (ar1 (ar1 d6.2 (by omega)) (by omega)) (by omega)) (by omega)) (fun j hj => addW_15 hw hj)) (by omega)
    · exact arr_sim (ar1 (ar1 (ar1 (ar1 (ar1 (ar1 d7.2 (by omega)) (by omega)) (by omega)) (by omega)) (by omega)) (by omega)) (fun j hj => addW_n (by omega) (by omega) (by omega) (by omega) (by omega) (by omega))
    · exact arr_sim (ar1 (ar1 (ar1 (ar1 (ar1 (ar1 d8.2 (by omega)) (by omega)) (by omega)) (by omega)) (by omega)) (by omega)) (fun j hj => addW_n (by omega) (by omega) (by omega) (by omega) (by omega) (by omega))
    · exact arr_sim (ar1 (ar1 (ar1 (ar1 (ar1 (ar1 d9.2 (by omega)) (by omega)) (by omega)) (by omega)) (by omega)) (by omega)) (fun j hj => addW_n (by omega) (by omega) (by omega) (by omega) (by omega) (by omega))
  · show LWs _ h (addW (psG s) r x y d v)
    refine LW_cg (addW_n (by omega) (by omega) (by omega) (by omega) (by omega) (by omega)) (fun i => addW_n (by omega) (by omega) (by omega) (by omega) (by omega) (by omega)) ?_
    exact LW_up (LW_up (LW_up (LW_up (LW_up (LW_up W (by omega) (by omega)) (by omega) (by omega)) (by omega) (by omega)) (by omega) (by omega)) (by omega) (by omega)) (by omega) (by omega)
theorem lz_addH {x f : Nat} (L : LZ w z h t n s) (h6 : psG s 2 < 6) (hk : ∀ z', LZ w z' h t n (setG (addH (psG s) x f) s) → K z') : w_X1_addHouse h (nI x) (nI f) K z := by
  obtain ⟨B, b, C, D, W⟩ := L
  have hN := B.2.2.2.2.1
  have h26 := B.2.2.2.2.2
  obtain ⟨d0, d1, d2, d3, d4, d5, d6, d7, d8, d9⟩ := D
  have e1 : wI z h 2 = nI (psG s 2) := d1.2.2.1
  have f1 : wI (uI z (h + 7) (psG s 2) (nI x)) h 2 = nI (psG s 2) := by rw [wI_uI_ne (by omega)]; exact e1
  have f2 : wI (uI (uI z (h + 7) (psG s 2) (nI x)) (h + 8) (psG s 2) (nI f)) h 2 = nI (psG s 2) := by rw [wI_uI_ne (by omega)]; exact f1
  unfold w_X1_addHouse
  rw [d8.1, d9.1, e1, nI_clamp (by omega), f1, nI_clamp (by omega), f2, d8.2.2.1, d9.2.2.1, show (nI (psG s 2) + 1 : Int32) = nI (psG s 2 + 1) from nI_add _ 1]
  refine ⟨d0, br_f (nI_pos (by omega)) (br_t (nI_lt (b := 6) h6 (by decide)) ⟨d8.2.1, vp_in_nI h6 (by decide), d9.2.1, vp_in_nI h6 (by decide), hk _ ?_⟩)⟩
  have nn : ∀ k, k ≠ 2 → k ≠ 73 + psG s 2 → k ≠ 67 + psG s 2 → addH (psG s) x f k = psG s k := fun k k1 k2 k3 => by
    unfold addH
    rw [upG_n k1, upG_n k2, upG_n k3]
  refine ⟨LB_up (LB_up (LB_up B (by omega)) (by omega)) (by omega), b, CT_up (CT_up (CT_up C (by omega)) (by omega)) (by omega), ?_, ?_⟩
  · show DR _ h (addH (psG s) x f)
    have hrow : ∀ k, wI (uI (uI z (h + 7) (psG s 2) (nI x)) (h + 8) (psG s 2) (nI f)) h k = wI z h k := fun k => by
      rw [wI_uI_ne (by omega), wI_uI_ne (by omega)]
    have o : ∀ {t1 m : Nat} {p : Nat → Nat}, arr z t1 m p → t1 ≠ h → t1 ≠ h + 7 → t1 ≠ h + 8 → arr (uI (uI (uI z (h + 7) (psG s 2) (nI x)) (h + 8) (psG s 2) (nI f)) h 2 (nI (psG s 2 + 1))) t1 m p := fun a a1 a2 a3 => ar1 (ar1 (ar1 a a2) a3) a1
    refine ⟨d0, ⟨?_, ?_, ?_, ?_⟩, ⟨d2.1, arr_sim (o d2.2 (by omega) (by omega) (by omega)) (fun j hj => nn _ (by omega) (by omega) (by omega))⟩, ⟨d3.1, arr_sim (o d3.2 (by omega) (by omega) (by omega)) (fun j hj => nn _ (by omega) (by omega) (by omega))⟩, ⟨d4.1, arr_sim (o d4.2 (by omega) (by omega) (by omega)) (fun j hj => nn _ (by omega) (by omega) (by omega))⟩, ⟨d5.1, arr_sim (o d5.2 (by omega) (by omega) (by omega)) (fun j hj => nn _ (by omega) (by omega) (by omega))⟩, ⟨d6.1, arr_sim (o d6.2 (by omega) (by omega) (by omega)) (fun j hj => nn _ (by omega) (by omega) (by omega))⟩, ⟨d7.1, arr_sim (o d7.2 (by omega) (by omega) (by omega)) (fun j hj => nn _ (by omega) (by omega) (by omega))⟩, ⟨d8.1, ?_⟩, ⟨d9.1, ?_⟩⟩
    · rw [wI_uI, if_neg (by decide), hrow, nn 0 (by omega) (by omega) (by omega)]; exact d1.1
    · rw [wI_uI, if_neg (by decide), hrow, nn 1 (by omega) (by omega) (by omega)]; exact d1.2.1
    · rw [wI_uI, if_pos rfl, show addH (psG s) x f 2 = psG s 2 + 1 from upG_s _ _ _]
    · rw [wI_uI, if_neg (by decide), hrow, nn 26 (by omega) (by omega) (by omega)]; exact d1.2.2.2
    · refine ar1 (ar1 (arr_up d8.2 (fun j hj => ?_)) (by omega)) (by omega)
      by_cases e : j = psG s 2
      · rw [if_pos e, e]
        unfold addH
        rw [upG_n (by omega), upG_n (by omega), upG_s]
      · rw [if_neg e]
        exact nn _ (by omega) (by omega) (by omega)
    · refine ar1 (arr_up (ar1 d9.2 (by omega)) (fun j hj => ?_)) (by omega)
      by_cases e : j = psG s 2
      · rw [if_pos e, e]
        unfold addH
        rw [upG_n (by omega), upG_s]
      · rw [if_neg e]
        exact nn _ (by omega) (by omega) (by omega)
  · show LWs _ h (addH (psG s) x f)
    refine LW_cg (nn _ (by omega) (by omega) (by omega)) (fun i => nn _ (by omega) (by omega) (by omega)) ?_
    exact LW_up (LW_up (LW_up W (by omega) (by omega)) (by omega) (by omega)) (by omega) (by omega)
theorem q_hasW {K : Int32 → Wd → Prop} {v : Nat} (D : DR z h g) (h10 : g 1 ≤ 10) (hv : v < g 1) (hk : K 1 z) : w_X1_hasWell h (nI v) K z := by
  unfold w_X1_hasWell
  rw [D.2.1.2.1]
  exact br_f (nI_pos (by omega)) ⟨D.1, br_f (nI_ge hv (by omega)) (br_f (nI_ge (b := 10) (by omega) (by decide)) hk)⟩
theorem lz_join {a c : Nat} (L : LZ w z h t n s) (h10 : psG s 1 ≤ 10) (ha : a < psG s 1) (hc : c < psG s 1) (hac : a ≠ c) (hk : ∀ z', LZ w z' h t n (setG (joinG (psG s) a c) s) → K z') : w_X1_joinWells h (nI a) (nI c) K z := by
  obtain ⟨B, b, C, D, W⟩ := L
  have hN := B.2.2.2.2.1
  have h26 := B.2.2.2.2.2
  refine ⟨D.1, q_hasW D h10 ha (br_f (by decide) ⟨D.1, q_hasW D h10 hc (br_f (by decide) ⟨D.1, ?_⟩)⟩)⟩
  obtain ⟨d0, d1, d2, d3, d4, d5, d6, d7, d8, d9⟩ := D
  have ea : wI z (h + 6) a = nI (psG s (57 + a)) := d7.2.2.2 a (by omega)
  have ec : wI (uI z (h + 6) a (nI (psG s (57 + a) ||| 2 ^ c))) (h + 6) c = nI (psG s (57 + c)) := by
    rw [wI_uI, if_neg (fun e => hac e.symm)]
    exact d7.2.2.2 c (by omega)
  rw [d7.1, d7.2.2.1, nI_clamp (by omega), nI_clamp (by omega), ea, p_one (by omega), p_one (by omega), fa_or, ec, fa_or]
  refine ⟨d7.2.1, vp_in_nI (by omega) (by decide), vp_in_nI (by omega) (by decide), vp_in_nI (by omega) (by decide), vp_in_nI (by omega) (by decide), hk _ ?_⟩
  refine ⟨LB_up (LB_up B (by omega)) (by omega), b, CT_up (CT_up C (by omega)) (by omega), ?_, ?_⟩
  · show DR _ h (joinG (psG s) a c)
    have nn : ∀ k, (k < 57 ∨ 67 ≤ k) → joinG (psG s) a c k = psG s k := fun k hk => joinG_n (by omega) (by omega)
    have hrow : ∀ k, wI (uI (uI z (h + 6) a (nI (psG s (57 + a) ||| 2 ^ c))) (h + 6) c (nI (psG s (57 + c) ||| 2 ^ a))) h k = wI z h k := fun k => by
      rw [wI_uI_ne (by omega), wI_uI_ne (by omega)]
    have o : ∀ {t1 m : Nat} {p : Nat → Nat}, arr z t1 m p → t1 ≠ h + 6 → arr (uI (uI z (h + 6) a (nI (psG s (57 + a) ||| 2 ^ c))) (h + 6) c (nI (psG s (57 + c) ||| 2 ^ a))) t1 m p := fun y y1 => ar1 (ar1 y y1) y1
    refine ⟨d0, ⟨?_, ?_, ?_, ?_⟩, ⟨d2.1, arr_sim (o d2.2 (by omega)) (fun j hj => nn _ (by omega))⟩, ⟨d3.1, arr_sim (o d3.2 (by omega)) (fun j hj => nn _ (by omega))⟩, ⟨d4.1, arr_sim (o d4.2 (by omega)) (fun j hj => nn _ (by omega))⟩, ⟨d5.1, arr_sim (o d5.2 (by omega)) (fun j hj => nn _ (by omega))⟩, ⟨d6.1, arr_sim (o d6.2 (by omega)) (fun j hj => nn _ (by omega))⟩, ⟨d7.1, ?_⟩, ⟨d8.1, arr_sim (o d8.2 (by omega)) (fun j hj => nn _ (by omega))⟩, ⟨d9.1, arr_sim (o d9.2 (by omega)) (fun j hj => nn _ (by omega))⟩⟩
    · rw [hrow, nn 0 (by omega)]; exact d1.1
    · rw [hrow, nn 1 (by omega)]; exact d1.2.1
    · rw [hrow, nn 2 (by omega)]; exact d1.2.2.1
    · rw [hrow, nn 26 (by omega)]; exact d1.2.2.2
    · refine arr_up (arr_up (q := fun j => if j = a then psG s (57 + a) ||| 2 ^ c else psG s (57 + j)) d7.2 (fun j hj => rfl)) (fun j hj => ?_)
      rw [joinG_v hac]
  · show LWs _ h (joinG (psG s) a c)
    refine LW_cg (joinG_n (by omega) (by omega)) (fun i => joinG_n (by omega) (by omega)) ?_
    exact LW_up (LW_up W (by omega) (by omega)) (by omega) (by omega)
end CH
