/-! 95: calls: well, house, fault, count, wakesIn, stays -/
section SI
variable {w : Wd} {B : Nat} {L F : Wd → Prop} {g : Nat → Nat}
theorem rdW (I : INVx w B g) {c v : Nat} (h : c + v < 1215) (s0 : Int32) : isK w (wR w 245 0) 20 ∧ vp_in (nI c + nI v) (wn w (wR w 245 0)) ∧ wI (uI w 245 4 s0) (wR w 245 0) (nI c + nI v).toNatClampNeg = nI (g (c + v)) := by
  have J := INVx_t (k := 4) (v := s0) I (by decide) (by decide) (by decide)
  obtain ⟨a1, a2, a3⟩ := p_rd (k := c + v) J.2.2.2.1 h (P := fun z => z = nI (g (c + v))) rfl
  rw [← nI_add] at a2 a3
  exact ⟨a1, a2, a3⟩
def wlV (g : Nat → Nat) (v a : Nat) : Nat := if a = 0 then g (27 + v) else if a = 1 then g (37 + v) else if a = 2 then g (5 + v) else if a = 3 then g (47 + v) else if a = 4 then g (15 + v) else if a = 5 then ph g v 0 else if a = 6 then (if upb g 0 v then 1 else 0) else if a = 7 then (if (g 25).testBit v then 1 else 0) else g (57 + v)
theorem nI_ne {a b : Nat} (ha : a < 2 ^ 31) (hb : b < 2 ^ 31) (h : a ≠ b) : ¬ nI a = nI b := fun z => h ((nI_eq ha hb).mp z)
theorem jn_well {x y : Int32} (I : INV w B) (hB : B + 99 < 2 ^ 24) (hk : ∀ u, INV u (B + 99) → L u) {K : Int32 → Wd → Prop} (hc : ∀ r w1, isK w1 245 12 → w_X12_well 245 x y (fun b w2 => tlT L F r b.toInt64 w2) w1 → K r w1) : w_L_well 2 12 64 x y 260 K w := by
  obtain ⟨g, I⟩ := INV_x I
  have hW := I.2.1
  have h10 := hW.1.1.2.1
  have bad : ∀ N, wN w ≤ N → ∀ k : Int32, 0 < k → ¬ k = 0 → j_X12_well_31 (fun b w2 => tlT L F k b.toInt64 w2) 245 x y k 245 (wJ w N) := fun N hN k hk1 hk0 => by
    have J := INVx_J I hN
    have J1 := INVx_t (k := 4) (v := k) J (by decide) (by decide) (by decide)
    refine ⟨INVx_M J, INVx_M J, ?_⟩
    rw [fw]
    exact br_f (fun q => by rw [fa_le] at q; rw [fa_lt] at hk1; omega) (finK J1 hk0 (fw _ _) hB hk)
  refine ⟨I.1.1.1, ⟨by decide, by decide⟩, I.1.1.1, ⟨by decide, by decide⟩, q_needWell I.1 hW I.2.2.1 (fun c => ⟨⟨by decide, by decide⟩, q_within 0 8 (by decide) (by decide) (fun cn => ?_) (fun cn N hN => Or.inr ⟨rfl, ?_⟩)⟩) (fun c N hN => Or.inl ⟨rfl, ?_⟩)⟩
  · obtain ⟨v, rfl, hv, -⟩ := isB_v c
    obtain ⟨a, ha⟩ : ∃ a : Nat, y.toInt = a := ⟨y.toInt.toNat, by omega⟩
    have ha8 : a ≤ 8 := by omega
    have ey := nI_v ha
    subst ey
    obtain ⟨h, Lx, e0, k5⟩ := x_P I
    have H := Lx.1.1.1.2.2
    have hso := set_lt hW.1 (show g 25 < 2 ^ g 1 from hW.2.2.1.2.1)
    have ref : ∀ val : Int32, val = nI (wlV g v a) → K 0 (uL w 260 (0 : Int32).toNatClampNeg val.toInt64) := fun val hval => by
      have Io := INVx_o (v := val.toInt64) I
      have N0 := rq_0 (val := val.toInt64) I
      refine hc _ (uL w 260 0 val.toInt64) (INVx_M Io) ⟨INVx_M Io, p_isWell Io.2.2.2.1 hW.1 ?_⟩
      rw [i64_32, c]
      refine br_f (by decide) (p_withinI 0 8 (by decide) (by decide) ?_)
      rw [decide_eq_true cn]
      refine br_f (by decide) ⟨INVx_M Io, INVx_M Io, ?_⟩
      rw [fw]
      refine br_t (by decide) ?_
      have fin : tlT L F 0 val.toInt64 (uI (uL w 260 0 val.toInt64) 245 4 0) := rFin I N0 hB hk
      have rd := fun (c' : Nat) (hc' : c' + v < 1215) => rdW (c := c') (v := v) Io hc' 0
      have e : a = 0 ∨ a = 1 ∨ a = 2 ∨ a = 3 ∨ a = 4 ∨ a = 5 ∨ a = 6 ∨ a = 7 ∨ a = 8 := by omega
      rcases e with rfl | rfl | rfl | rfl | rfl | rfl | rfl | rfl | rfl
      · obtain ⟨a1, a2, a3⟩ := rd 27 (by omega)
        refine br_t rfl ⟨a1, a2, ?_⟩
        rw [show (27 + nI v : Int32) = nI 27 + nI v from rfl, a3, show nI (g (27 + v)) = val from hval.symm]
        exact fin
      · obtain ⟨a1, a2, a3⟩ := rd 37 (by omega)
        refine br_f (by decide) (br_t rfl ⟨a1, a2, ?_⟩)
        rw [show (37 + nI v : Int32) = nI 37 + nI v from rfl, a3, show nI (g (37 + v)) = val from hval.symm]
        exact fin
      · obtain ⟨a1, a2, a3⟩ := rd 5 (by omega)
        refine br_f (by decide) (br_f (by decide) (br_t rfl ⟨a1, a2, ?_⟩))
        rw [show (5 + nI v : Int32) = nI 5 + nI v from rfl, a3, show nI (g (5 + v)) = val from hval.symm]
        exact fin
      · obtain ⟨a1, a2, a3⟩ := rd 47 (by omega)
        refine br_f (by decide) (br_f (by decide) (br_f (by decide) (br_t rfl ⟨a1, a2, ?_⟩)))
        rw [show (47 + nI v : Int32) = nI 47 + nI v from rfl, a3, show nI (g (47 + v)) = val from hval.symm]
        exact fin
      · obtain ⟨a1, a2, a3⟩ := rd 15 (by omega)
        refine br_f (by decide) (br_f (by decide) (br_f (by decide) (br_f (by decide) (br_t rfl ⟨a1, a2, ?_⟩))))
        rw [show (15 + nI v : Int32) = nI 15 + nI v from rfl, a3, show nI (g (15 + v)) = val from hval.symm]
        exact fin
      · refine br_f (by decide) (br_f (by decide) (br_f (by decide) (br_f (by decide) (br_f (by decide) (br_t rfl (p_phaseIn N0.2.1 hW.1 hW.2.2.1 hW.2.2.2.2 hv (n := 0) (by decide) ?_))))))
        rw [show nI (ph g v 0) = val from hval.symm]
        exact fin
      · refine br_f (by decide) (br_f (by decide) (br_f (by decide) (br_f (by decide) (br_f (by decide) (br_f (by decide) (br_t rfl (p_isUp N0.2.1 hW.1 hW.2.2.1 hW.2.2.2.2 hv ?_)))))))
        have hval' : val = nI (if upb g 0 v then 1 else 0) := hval
        cases q : upb g 0 v
        · rw [q] at hval'
          rw [hval'] at fin ⊢
          exact br_t rfl fin
        · rw [q] at hval'
          rw [hval'] at fin ⊢
          exact br_f (by decide) fin
      · obtain ⟨a1, a2, a3⟩ := rdW (c := 25) (v := 0) Io (by decide) 0
        refine br_f (by decide) (br_f (by decide) (br_f (by decide) (br_f (by decide) (br_f (by decide) (br_f (by decide) (br_f (by decide) (br_t rfl ⟨a1, a2, ?_⟩)))))))
        rw [show wI (uI (uL w 260 0 val.toInt64) 245 4 0) (wR (uL w 260 0 val.toInt64) 245 0) (25 : Int32).toNatClampNeg = nI (g 25) from a3]
        refine p_xhas (by omega) (by omega) ?_
        have hval' : val = nI (if (g 25).testBit v then 1 else 0) := hval
        cases q : (g 25).testBit v
        · rw [q] at hval'
          rw [hval'] at fin ⊢
          exact br_t rfl fin
        · rw [q] at hval'
          rw [hval'] at fin ⊢
          exact br_f (by decide) fin
      · obtain ⟨a1, a2, a3⟩ := rd 57 (by omega)
        refine br_f (by decide) (br_f (by decide) (br_f (by decide) (br_f (by decide) (br_f (by decide) (br_f (by decide) (br_f (by decide) (br_f (by decide) ⟨a1, a2, ?_⟩)))))))
        rw [show (57 + nI v : Int32) = nI 57 + nI v from rfl, a3, show nI (g (57 + v)) = val from hval.symm]
        exact fin
    have fin : ∀ val : Int32, val = nI (wlV g v a) → isK w 260 21 ∧ vp_in 0 (wn w 260) ∧ K 0 (uL w 260 (0 : Int32).toNatClampNeg val.toInt64) := fun val hval => INVx_out I (ref val hval)
    rw [I.1.1.2.1, e0, Lx.1.1.1.2.1]
    refine ⟨I.1.1.1, k5, Lx.1.1.1.1, H.1, ?_⟩
    have e : a = 0 ∨ a = 1 ∨ a = 2 ∨ a = 3 ∨ a = 4 ∨ a = 5 ∨ a = 6 ∨ a = 7 ∨ a = 8 := by omega
    rcases e with rfl | rfl | rfl | rfl | rfl | rfl | rfl | rfl | rfl
    · exact br_t rfl (q_roundOf H (by omega) (fin _ rfl))
    · exact br_f (by decide) (br_t rfl (q_upOf H (by omega) (fin _ rfl)))
    · exact br_f (by decide) (br_f (by decide) (br_t rfl (q_shiftOf Lx.1.1 (by omega) (fin _ rfl))))
    · exact br_f (by decide) (br_f (by decide) (br_f (by decide) (br_t rfl (q_deepOf H (by omega) (fin _ rfl)))))
    · exact br_f (by decide) (br_f (by decide) (br_f (by decide) (br_f (by decide) (br_t rfl (q_waterOf Lx.1.1 (by omega) (fin _ rfl))))))
    · exact br_f (by decide) (br_f (by decide) (br_f (by decide) (br_f (by decide) (br_f (by decide) (br_t rfl (q_phaseOf Lx.1.1 hW hv (fin _ rfl)))))))
    · refine br_f (by decide) (br_f (by decide) (br_f (by decide) (br_f (by decide) (br_f (by decide) (br_f (by decide) (br_t rfl (q_isAwake Lx.1.1 hW hv ?_)))))))
      cases q : upb g 0 v
      · exact br_t rfl (fin 0 (by show (0 : Int32) = nI (if upb g 0 v then 1 else 0); rw [q]; rfl))
      · exact br_f (by decide) (fin 1 (by show (1 : Int32) = nI (if upb g 0 v then 1 else 0); rw [q]; rfl))
    · refine br_f (by decide) (br_f (by decide) (br_f (by decide) (br_f (by decide) (br_f (by decide) (br_f (by decide) (br_f (by decide) (br_t rfl (q_isSour Lx.1.1 hW hv ?_))))))))
      cases q : (g 25).testBit v
      · exact br_t rfl (fin 0 (by show (0 : Int32) = nI (if (g 25).testBit v then 1 else 0); rw [q]; rfl))
      · exact br_f (by decide) (fin 1 (by show (1 : Int32) = nI (if (g 25).testBit v then 1 else 0); rw [q]; rfl))
    · exact br_f (by decide) (br_f (by decide) (br_f (by decide) (br_f (by decide) (br_f (by decide) (br_f (by decide) (br_f (by decide) (br_f (by decide) (q_besideOf H (by omega) (fin _ rfl)))))))))
  · have J := INVx_J I hN
    refine hc _ _ (INVx_M J) ⟨INVx_M J, p_isWell J.2.2.2.1 hW.1 ?_⟩
    rw [i64_32, c]
    refine br_f (by decide) (p_withinI 0 8 (by decide) (by decide) ?_)
    rw [decide_eq_false cn]
    exact br_t rfl (bad N hN 2 (by decide) (by decide))
  · have J := INVx_J I hN
    refine hc _ _ (INVx_M J) ⟨INVx_M J, p_isWell J.2.2.2.1 hW.1 ?_⟩
    rw [i64_32, c]
    exact br_t rfl (bad N hN 1 (by decide) (by decide))
theorem jn_house {x y : Int32} (I : INV w B) (hB : B + 99 < 2 ^ 24) (hk : ∀ u, INV u (B + 99) → L u) {K : Int32 → Wd → Prop} (hc : ∀ r w1, isK w1 245 12 → w_X12_house 245 x y (fun b w2 => tlT L F r b.toInt64 w2) w1 → K r w1) : w_L_house 2 12 64 x y 260 K w := by
  obtain ⟨g, I⟩ := INV_x I
  have hW := I.2.1
  have h6 := hW.1.1.2.2.1
  have bad : ∀ N, wN w ≤ N → ∀ k : Int32, 0 < k → ¬ k = 0 → j_X12_house_28 (fun b w2 => tlT L F k b.toInt64 w2) 245 x y k 245 (wJ w N) := fun N hN k hk1 hk0 => by
    have J := INVx_J I hN
    have J1 := INVx_t (k := 4) (v := k) J (by decide) (by decide) (by decide)
    refine ⟨INVx_M J, INVx_M J, ?_⟩
    rw [fw]
    exact br_f (fun q => by rw [fa_le] at q; rw [fa_lt] at hk1; omega) (finK J1 hk0 (fw _ _) hB hk)
  refine ⟨I.1.1.1, ⟨by decide, by decide⟩, I.1.1.1, ⟨by decide, by decide⟩, q_needHouse I.1 hW I.2.2.1 (fun c => ⟨⟨by decide, by decide⟩, q_within 0 1 (by decide) (by decide) (fun cn => ?_) (fun cn N hN => Or.inr ⟨rfl, ?_⟩)⟩) (fun c N hN => Or.inl ⟨rfl, ?_⟩)⟩
  · obtain ⟨v, rfl, hv, -⟩ := isB_v c
    obtain ⟨a, ha⟩ : ∃ a : Nat, y.toInt = a := ⟨y.toInt.toNat, by omega⟩
    have ha8 : a ≤ 1 := by omega
    have ey := nI_v ha
    subst ey
    obtain ⟨h, Lx, e0, k5⟩ := x_P I
    have H := Lx.1.1.1.2.2
    have ref : ∀ val : Int32, val = nI (if a = 0 then g (67 + v) else g (73 + v)) → K 0 (uL w 260 (0 : Int32).toNatClampNeg val.toInt64) := fun val hval => by
      have Io := INVx_o (v := val.toInt64) I
      have N0 := rq_0 (val := val.toInt64) I
      refine hc _ (uL w 260 0 val.toInt64) (INVx_M Io) ⟨INVx_M Io, p_isHouse Io.2.2.2.1 hW.1 ?_⟩
      rw [c]
      refine br_f (by decide) (p_withinI 0 1 (by decide) (by decide) ?_)
      rw [decide_eq_true cn]
      refine br_f (by decide) ⟨INVx_M Io, INVx_M Io, ?_⟩
      rw [fw]
      refine br_t (by decide) ?_
      have fin : tlT L F 0 val.toInt64 (uI (uL w 260 0 val.toInt64) 245 4 0) := rFin I N0 hB hk
      by_cases a0 : a = 0
      · obtain ⟨a1, a2, a3⟩ := rdW (c := 67) (v := v) Io (by omega) 0
        rw [if_pos a0] at hval
        refine br_t (by rw [a0]; rfl) ⟨a1, a2, ?_⟩
        rw [show (67 + nI v : Int32) = nI 67 + nI v from rfl, a3, ← hval]
        exact fin
      · obtain ⟨a1, a2, a3⟩ := rdW (c := 73) (v := v) Io (by omega) 0
        rw [if_neg a0] at hval
        refine br_f (nI_ne0 (by omega) (by omega)) ⟨a1, a2, ?_⟩
        rw [show (73 + nI v : Int32) = nI 73 + nI v from rfl, a3, ← hval]
        exact fin
    by_cases a0 : a = 0
    · refine br_t (by rw [a0]; rfl) ?_
      rw [I.1.1.2.1, e0, Lx.1.1.1.2.1]
      exact ⟨I.1.1.1, k5, Lx.1.1.1.1, H.1, q_needOf H (by omega) (INVx_out I (ref _ (by rw [if_pos a0])))⟩
    · refine br_f (nI_ne0 (by omega) (by omega)) ?_
      rw [I.1.1.2.1, e0, Lx.1.1.1.2.1]
      exact ⟨I.1.1.1, k5, Lx.1.1.1.1, H.1, q_fromOf H (by omega) (INVx_out I (ref _ (by rw [if_neg a0])))⟩
  · have J := INVx_J I hN
    refine hc _ _ (INVx_M J) ⟨INVx_M J, p_isHouse J.2.2.2.1 hW.1 ?_⟩
    rw [c]
    refine br_f (by decide) (p_withinI 0 1 (by decide) (by decide) ?_)
    rw [decide_eq_false cn]
    exact br_t rfl (bad N hN 2 (by decide) (by decide))
  · have J := INVx_J I hN
    refine hc _ _ (INVx_M J) ⟨INVx_M J, p_isHouse J.2.2.2.1 hW.1 ?_⟩
    rw [c]
    exact br_t rfl (bad N hN 1 (by decide) (by decide))
theorem jn_fault {x : Int32} (I : INV w B) (hB : B + 99 < 2 ^ 24) (hk : ∀ u, INV u (B + 99) → L u) {K : Int32 → Wd → Prop} (hc : ∀ r w1, isK w1 245 12 → w_X12_fault 245 x (fun t w2 => (r = t → L w2) ∧ (¬ r = t → F w2)) w1 → K r w1) : w_X11_fault 64 x K w := by
  obtain ⟨g, I⟩ := INV_x I
  have J1 := INVx_t (k := 4) (v := 0) I (by decide) (by decide) (by decide)
  have ft := I.2.2.2.2.2.2.2
  have k7 := I.1.2.2.2.2.2.2.2.1.1
  have fin := hk _ (x_INV J1 (by omega) hB)
  unfold w_X11_fault
  rw [I.1.1.2.2.2.2.2.1]
  by_cases x0 : x = 0
  · refine br_t x0 ⟨I.1.1.1, k7, hc _ w (INVx_M I) ⟨INVx_M I, br_t x0 ?_⟩⟩
    rw [wI_uI, if_neg (by decide)]
    exact br_t ft.1 fin
  refine br_f x0 ?_
  by_cases x1 : x = 1
  · refine br_t x1 ⟨I.1.1.1, k7, hc _ w (INVx_M I) ⟨INVx_M I, br_f x0 (br_t x1 ?_)⟩⟩
    rw [wI_uI, if_neg (by decide)]
    exact br_t ft.2 fin
  · exact br_f x1 (hc _ w (INVx_M I) ⟨INVx_M I, br_f x0 (br_f x1 (br_t rfl fin))⟩)
theorem jn_wakesIn {x : Int32} (I : INV w B) (hB : B + 99 < 2 ^ 24) (hk : ∀ u, INV u (B + 99) → L u) {K : Int32 → Wd → Prop} (hc : ∀ r w1, isK w1 245 12 → w_X12_wakesIn 245 x (fun b w2 => tlT L F r b.toInt64 w2) w1 → K r w1) : w_L_wakesIn 1 6 64 x 260 K w := by
  obtain ⟨g, I⟩ := INV_x I
  have hW := I.2.1
  have h10 := hW.1.1.2.1
  refine ⟨I.1.1.1, ⟨by decide, by decide⟩, I.1.1.1, ⟨by decide, by decide⟩, q_needWell I.1 hW I.2.2.1 (fun c => ?_) (fun c N hN => ⟨rfl, ?_⟩)⟩
  · obtain ⟨v, rfl, hv, -⟩ := isB_v c
    obtain ⟨h, Lx, e0, k5⟩ := x_P I
    have H := Lx.1.1.1.2.2
    rw [I.1.1.2.1, e0]
    refine ⟨I.1.1.1, k5, Lx.1.1.1.1, q_isAwake Lx.1.1 hW hv ?_⟩
    have ref : ∀ val : Int32, val = (if upb g 0 v then 0 else nI (g (27 + v)) - nI (ph g v 0)) → K 0 (uL w 260 (0 : Int32).toNatClampNeg val.toInt64) := fun val hval => by
      have Io := INVx_o (v := val.toInt64) I
      have N0 := rq_0 (val := val.toInt64) I
      have fin : tlT L F 0 val.toInt64 (uI (uL w 260 0 val.toInt64) 245 4 0) := rFin I N0 hB hk
      refine hc _ (uL w 260 0 val.toInt64) (INVx_M Io) ⟨INVx_M Io, p_isWell N0.2.1 hW.1 ?_⟩
      rw [i64_32, c]
      refine br_f (by decide) ⟨N0.2.1.1.1, p_isUp N0.2.1 hW.1 hW.2.2.1 hW.2.2.2.2 hv ?_⟩
      cases q : upb g 0 v
      · rw [q, if_neg (by decide)] at hval
        obtain ⟨a1, a2, a3⟩ := p_rd (k := 27 + v) N0.2.1 (by omega) (P := fun z => z = nI (g (27 + v))) rfl
        rw [show nI (27 + v) = 27 + nI v from (nI_add 27 v).symm] at a2 a3
        refine br_t rfl ⟨N0.2.1.1.1, a1, a2, ?_⟩
        rw [a3]
        refine p_phaseIn N0.2.1 hW.1 hW.2.2.1 hW.2.2.2.2 hv (n := 0) (by decide) ?_
        rw [← hval]
        exact fin
      · rw [q, if_pos rfl] at hval
        rw [hval] at fin ⊢
        exact br_f (by decide) fin
    cases q : upb g 0 v
    · refine br_t rfl ⟨Lx.1.1.1.1, ?_⟩
      rw [Lx.1.1.1.2.1]
      exact ⟨H.1, q_roundOf H (by omega) ⟨Lx.1.1.1.1, q_phaseOf Lx.1.1 hW hv (INVx_out I (ref _ (by rw [q]; rfl)))⟩⟩
    · exact br_f (by decide) (INVx_out I (ref 0 (by rw [q]; rfl)))
  · have J := INVx_J I hN
    have J1 := INVx_t (k := 4) (v := 0) J (by decide) (by decide) (by decide)
    have J2 := INVx_t (k := 4) (v := 1) J1 (by decide) (by decide) (by decide)
    refine hc _ _ (INVx_M J) ⟨INVx_M J, p_isWell J1.2.2.2.1 hW.1 ?_⟩
    rw [i64_32, c]
    exact br_t rfl ⟨INVx_M J1, INVx_M J1, finK J2 (by decide) (fw _ _) hB hk⟩
theorem jn_stays {x : Int32} (I : INV w B) (hB : B + 99 < 2 ^ 24) (hk : ∀ u, INV u (B + 99) → L u) {K : Int32 → Wd → Prop} (hc : ∀ r w1, isK w1 245 12 → w_X12_stays 245 x (fun b w2 => tlT L F r b.toInt64 w2) w1 → K r w1) : w_L_stays 1 6 64 x 260 K w := by
  obtain ⟨g, I⟩ := INV_x I
  have hW := I.2.1
  have h10 := hW.1.1.2.1
  refine ⟨I.1.1.1, ⟨by decide, by decide⟩, I.1.1.1, ⟨by decide, by decide⟩, q_needWell I.1 hW I.2.2.1 (fun c => ?_) (fun c N hN => ⟨rfl, ?_⟩)⟩
  · obtain ⟨v, rfl, hv, -⟩ := isB_v c
    obtain ⟨h, Lx, e0, k5⟩ := x_P I
    have H := Lx.1.1.1.2.2
    have q37 := (hW.1.2.1 v hv).1
    rw [I.1.1.2.1, e0, Lx.1.1.1.2.1]
    refine ⟨I.1.1.1, k5, Lx.1.1.1.1, H.1, q_everSleeps H hW.1 hv ?_⟩
    have ref : ∀ val : Int32, val = (if g (37 + v) = g (27 + v) then -1 else if upb g 0 v then nI (g (37 + v)) - nI (ph g v 0) else nI (g (27 + v)) - nI (ph g v 0)) → K 0 (uL w 260 (0 : Int32).toNatClampNeg val.toInt64) := fun val hval => by
      have Io := INVx_o (v := val.toInt64) I
      have N0 := rq_0 (val := val.toInt64) I
      have fin : tlT L F 0 val.toInt64 (uI (uL w 260 0 val.toInt64) 245 4 0) := rFin I N0 hB hk
      refine hc _ (uL w 260 0 val.toInt64) (INVx_M Io) ⟨INVx_M Io, p_isWell N0.2.1 hW.1 ?_⟩
      rw [i64_32, c]
      obtain ⟨a1, a2, a3⟩ := p_rd (k := 27 + v) N0.2.1 (by omega) (P := fun z => z = nI (g (27 + v))) rfl
      obtain ⟨-, b2, b3⟩ := p_rd (k := 37 + v) N0.2.1 (by omega) (P := fun z => z = nI (g (37 + v))) rfl
      rw [show nI (27 + v) = 27 + nI v from (nI_add 27 v).symm] at a2 a3
      rw [show nI (37 + v) = 37 + nI v from (nI_add 37 v).symm] at b2 b3
      refine br_f (by decide) ⟨N0.2.1.1.1, a1, b2, a2, ?_⟩
      rw [a3, b3]
      by_cases e : g (37 + v) = g (27 + v)
      · rw [if_pos e] at hval
        rw [hval] at fin ⊢
        exact br_t (by rw [e]) fin
      rw [if_neg e] at hval
      refine br_f (nI_ne (by omega) (by omega) e) (p_isUp N0.2.1 hW.1 hW.2.2.1 hW.2.2.2.2 hv ?_)
      cases q : upb g 0 v
      · rw [q, if_neg (by decide)] at hval
        refine br_t rfl ⟨N0.2.1.1.1, a1, a2, ?_⟩
        rw [a3]
        refine p_phaseIn N0.2.1 hW.1 hW.2.2.1 hW.2.2.2.2 hv (n := 0) (by decide) ?_
        rw [← hval]
        exact fin
      · rw [q, if_pos rfl] at hval
        refine br_f (by decide) ⟨N0.2.1.1.1, a1, b2, ?_⟩
        rw [b3]
        refine p_phaseIn N0.2.1 hW.1 hW.2.2.1 hW.2.2.2.2 hv (n := 0) (by decide) ?_
        rw [← hval]
        exact fin
    by_cases e : g (37 + v) = g (27 + v)
    · rw [decide_eq_false (by omega)]
      exact br_t rfl (INVx_out I (ref (-1) (by rw [if_pos e])))
    rw [decide_eq_true (by omega)]
    refine br_f (by decide) ⟨Lx.1.1.1.1, q_isAwake Lx.1.1 hW hv ?_⟩
    rw [Lx.1.1.1.2.1]
    cases q : upb g 0 v
    · exact br_t rfl ⟨Lx.1.1.1.1, H.1, q_roundOf H (by omega) ⟨Lx.1.1.1.1, q_phaseOf Lx.1.1 hW hv (INVx_out I (ref _ (by rw [if_neg e, q]; rfl)))⟩⟩
    · exact br_f (by decide) ⟨Lx.1.1.1.1, H.1, q_upOf H (by omega) ⟨Lx.1.1.1.1, q_phaseOf Lx.1.1 hW hv (INVx_out I (ref _ (by rw [if_neg e, q]; rfl)))⟩⟩
  · have J := INVx_J I hN
    have J1 := INVx_t (k := 4) (v := 0) J (by decide) (by decide) (by decide)
    have J2 := INVx_t (k := 4) (v := 1) J1 (by decide) (by decide) (by decide)
    refine hc _ _ (INVx_M J) ⟨INVx_M J, p_isWell J1.2.2.2.1 hW.1 ?_⟩
    rw [i64_32, c]
    exact br_t rfl ⟨INVx_M J1, INVx_M J1, finK J2 (by decide) (fw _ _) hB hk⟩
end SI
