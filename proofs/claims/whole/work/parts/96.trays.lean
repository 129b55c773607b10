/-! 96: calls: count, tray, write, copy -/
def psum (g : Nat → Nat) : Nat → Nat
  | 0 => 0
  | i + 1 => psum g i + cb (g (57 + i))
theorem psum_le (g : Nat → Nat) : ∀ i, psum g i ≤ 10 * i
  | 0 => Nat.le_refl _
  | i + 1 => by
    have := psum_le g i
    have := cb_le (g (57 + i))
    show psum g i + cb (g (57 + i)) ≤ _
    omega
section CT
variable {w : Wd} {B : Nat} {L F : Wd → Prop} {g : Nat → Nat}
theorem q_pairs {h : Nat} {K : Int32 → Wd → Prop} (H : HR w h g) (hh : wfH g) (hk : K (nI (psum g (g 1) / 2)) w) : w_X1_pairs h K w := by
  have h10 := hh.1.2.1
  have go : ∀ d i, i + d = g 1 → l_X1_pairs_4 K (d + 1) h (nI (psum g i)) (nI i) w := by
    intro d
    induction d with
    | zero =>
      intro i hi
      have : i = g 1 := by omega
      subst this
      have := psum_le g (g 1)
      unfold l_X1_pairs_4
      rw [H.2.1.2.1, show (nI (psum g (g 1)) / 2 : Int32) = nI (psum g (g 1) / 2) from pk_div (d := 2) (by omega) (by decide) (by decide)]
      exact ⟨H.1, br_t (nI_le (Nat.le_refl _) (by omega)) hk⟩
    | succ d ih =>
      intro i hi
      unfold l_X1_pairs_4
      rw [H.2.1.2.1]
      refine ⟨H.1, br_f (nI_ge (by omega) (by omega)) (q_besideOf H (by omega) (p_bitCount (set_lt hh (hh.2.1 i (by omega)).2.2.2) ?_))⟩
      rw [nI_add, nI_1]
      exact ih (i + 1) (by omega)
  exact ⟨g 1 + 1, go (g 1) 0 (by omega)⟩
theorem p_pairs {K : Int32 → Wd → Prop} (R : RS w 245 g) (hh : wfH g) (hk : K (nI (psum g (g 1) / 2)) w) : w_X12_pairs 245 K w := by
  have h10 := hh.1.2.1
  have go : ∀ d i, i + d = g 1 → l_X12_pairs_4 K (d + 1) 245 (nI (psum g i)) (nI i) w := by
    intro d
    induction d with
    | zero =>
      intro i hi
      have : i = g 1 := by omega
      subst this
      have := psum_le g (g 1)
      unfold l_X12_pairs_4
      rw [show (nI (psum g (g 1)) / 2 : Int32) = nI (psum g (g 1) / 2) from pk_div (d := 2) (by omega) (by decide) (by decide)]
      exact ⟨R.1.1, p_wells R (br_t (nI_le (Nat.le_refl _) (by omega)) hk)⟩
    | succ d ih =>
      intro i hi
      obtain ⟨a1, a2, a3⟩ := p_rd (k := 57 + i) R (by omega) (P := fun z => z = nI (g (57 + i))) rfl
      rw [show nI (57 + i) = 57 + nI i from (nI_add 57 i).symm] at a2 a3
      refine ⟨R.1.1, p_wells R (br_f (nI_ge (by omega) (by omega)) ⟨R.1.1, a1, a2, ?_⟩)⟩
      rw [a3]
      refine p_size (set_lt hh (hh.2.1 i (by omega)).2.2.2) ?_
      rw [nI_add, nI_1]
      exact ih (i + 1) (by omega)
  exact ⟨g 1 + 1, go (g 1) 0 (by omega)⟩
theorem jn_count {x : Int32} (I : INV w B) (hB : B + 99 < 2 ^ 24) (hk : ∀ u, INV u (B + 99) → L u) {K : Int32 → Wd → Prop} (hc : ∀ r w1, isK w1 245 12 → w_X12_count 245 x (fun t w2 => (r = t → L w2) ∧ (¬ r = t → F w2)) w1 → K r w1) : w_X11_count 64 x K w := by
  obtain ⟨g, I⟩ := INV_x I
  have hW := I.2.1
  have h10 := hW.1.1.2.1
  obtain ⟨h, e, P⟩ := I.2.2.1
  have Lx := P.2.1
  have e0 := P.1.2.1
  have k5 := P.1.1
  have H := Lx.1.1.1.2.2
  have J1 := INVx_t (k := 4) (v := 0) I (by decide) (by decide) (by decide)
  have R1 := J1.2.2.2.1
  have fin := hk _ (x_INV J1 (by omega) hB)
  have rd0 := fun (c : Nat) (hc' : c < 1215) => rdW (c := c) (v := 0) I (by omega) 0
  have ez : ∀ c : Nat, nI c + nI 0 = nI c := fun c => nI_add c 0
  have hso := set_lt hW.1 (show g 25 < 2 ^ g 1 from hW.2.2.1.2.1)
  have ho := set_lt hW.1 (show ups g 0 < 2 ^ g 1 from mk_lt _ _)
  have at0 : ∀ c : Nat, c < 1215 → isK w (wR w 245 0) 20 ∧ vp_in (nI c) (wn w (wR w 245 0)) ∧ wI (uI w 245 4 0) (wR w 245 0) (nI c).toNatClampNeg = nI (g c) := fun c hc' => by
    have z := rd0 c hc'
    rw [ez] at z
    exact z
  unfold w_X11_count
  rw [I.1.1.2.1, e0, Lx.1.1.1.2.1, I.1.1.2.2.2.2.2.1]
  refine ⟨I.1.1.1, k5, Lx.1.1.1.1, ?_⟩
  by_cases x0 : x = 0
  · subst x0
    obtain ⟨a1, a2, a3⟩ := at0 0 (by decide)
    refine br_t rfl ⟨H.1, hc _ w (INVx_M I) ⟨INVx_M I, br_t rfl ⟨a1, a2, ?_⟩⟩⟩
    rw [H.2.1.1, show wI (uI w 245 4 0) (wR w 245 0) (0 : Int32).toNatClampNeg = nI (g 0) from a3]
    exact br_t rfl fin
  refine br_f x0 ?_
  by_cases x1 : x = 1
  · subst x1
    refine br_t rfl ⟨H.1, hc _ w (INVx_M I) ⟨INVx_M I, br_f x0 (br_t rfl (p_wells R1 ?_))⟩⟩
    rw [H.2.1.2.1]
    exact br_t rfl fin
  refine br_f x1 ?_
  by_cases x2 : x = 2
  · subst x2
    obtain ⟨a1, a2, a3⟩ := at0 2 (by decide)
    refine br_t rfl ⟨H.1, hc _ w (INVx_M I) ⟨INVx_M I, br_f x0 (br_f x1 (br_t rfl ⟨a1, a2, ?_⟩))⟩⟩
    rw [H.2.1.2.2, show wI (uI w 245 4 0) (wR w 245 0) (2 : Int32).toNatClampNeg = nI (g 2) from a3]
    exact br_t rfl fin
  refine br_f x2 ?_
  by_cases x3 : x = 3
  · subst x3
    obtain ⟨a1, a2, a3⟩ := at0 26 (by decide)
    refine br_t rfl (hc _ w (INVx_M I) ⟨INVx_M I, br_f x0 (br_f x1 (br_f x2 (br_t rfl ⟨a1, a2, ?_⟩)))⟩)
    rw [Lx.1.1.2.1.1, show wI (uI w 245 4 0) (wR w 245 0) (26 : Int32).toNatClampNeg = nI (g 26) from a3]
    exact br_t rfl fin
  refine br_f x3 ?_
  by_cases x4 : x = 4
  · subst x4
    exact br_t rfl (q_awakeBits Lx.1.1 hW (p_bitCount ho (hc _ w (INVx_M I) ⟨INVx_M I, br_f x0 (br_f x1 (br_f x2 (br_f x3 (br_t rfl (p_upIn R1 hW.1 hW.2.2.1 hW.2.2.2.2 (n := 0) (by decide) (p_size ho (br_t rfl fin)))))))⟩)))
  refine br_f x4 ?_
  by_cases x5 : x = 5
  · subst x5
    obtain ⟨a1, a2, a3⟩ := at0 25 (by decide)
    rw [Lx.1.1.2.1.2]
    refine br_t rfl (p_bitCount hso (hc _ w (INVx_M I) ⟨INVx_M I, br_f x0 (br_f x1 (br_f x2 (br_f x3 (br_f x4 (br_t rfl ⟨a1, a2, ?_⟩)))))⟩))
    rw [show wI (uI w 245 4 0) (wR w 245 0) (25 : Int32).toNatClampNeg = nI (g 25) from a3]
    exact p_size hso (br_t rfl fin)
  refine br_f x5 ?_
  by_cases x6 : x = 6
  · subst x6
    exact br_t rfl ⟨H.1, q_pairs H hW.1 (hc _ w (INVx_M I) ⟨INVx_M I, br_f x0 (br_f x1 (br_f x2 (br_f x3 (br_f x4 (br_f x5 (br_t rfl (p_pairs R1 hW.1 (br_t rfl fin))))))))⟩)⟩
  refine br_f x6 ?_
  by_cases x7 : x = 7
  · subst x7
    obtain ⟨a1, a2, a3⟩ := at0 4 (by decide)
    refine br_t rfl (hc _ w (INVx_M I) ⟨INVx_M I, br_f x0 (br_f x1 (br_f x2 (br_f x3 (br_f x4 (br_f x5 (br_f x6 (br_t rfl ⟨a1, a2, ?_⟩)))))))⟩)
    rw [P.2.2.1, show wI (uI w 245 4 0) (wR w 245 0) (4 : Int32).toNatClampNeg = nI (g 4) from a3]
    exact br_t rfl fin
  refine br_f x7 ?_
  by_cases x8 : x = 8
  · subst x8
    obtain ⟨n, tt, t1, t2, t3, -⟩ := I.2.2.2.2.2.2.1
    refine br_t rfl ⟨I.1.2.2.2.2.2.2.2.1.1, hc _ w (INVx_M I) ⟨INVx_M I, br_f x0 (br_f x1 (br_f x2 (br_f x3 (br_f x4 (br_f x5 (br_f x6 (br_f x7 (br_t rfl ?_))))))))⟩⟩
    rw [wI_uI, if_neg (by decide), t2, t3]
    exact br_t rfl fin
  refine br_f x8 ?_
  by_cases x9 : x = 9
  · subst x9
    obtain ⟨a1, a2, a3⟩ := at0 3 (by decide)
    have h9 := hW.1.1.2.2.2.1
    have ln : (wR w h 4 = 1 ∨ isK w (wR w h 4) 20) ∧ wn w (wR w h 4) = g 3 := by
      rcases H.2.2.2.2.2.2.2.2 with ⟨q1, q2, q3⟩ | q
      · exact ⟨Or.inl q1, by rw [q1, q2, q3]⟩
      · exact ⟨Or.inr q.1, q.2.1⟩
    rw [ln.2]
    have ref : ∀ v : Int32, v = (if nI (g 3) ≤ 0 then 0 else 1) → K v w := fun v hv => by
      refine hc _ w (INVx_M I) ⟨INVx_M I, br_f x0 (br_f x1 (br_f x2 (br_f x3 (br_f x4 (br_f x5 (br_f x6 (br_f x7 (br_f x8 (br_t rfl ⟨a1, a2, ?_⟩)))))))))⟩
      rw [show wI (uI w 245 4 0) (wR w 245 0) (3 : Int32).toNatClampNeg = nI (g 3) from a3]
      by_cases q : nI (g 3) ≤ 0
      · rw [if_pos q] at hv; exact br_t q (br_t hv fin)
      · rw [if_neg q] at hv; exact br_f q (br_t hv fin)
    refine br_t rfl ⟨H.1, ln.1, fun q => ref 0 ?_, fun q => ref 1 ?_⟩
    · rw [if_pos (show nI (g 3) ≤ 0 from q)]
    · rw [if_neg (show ¬ nI (g 3) ≤ 0 from q)]
  · exact br_f x9 (hc _ w (INVx_M I) ⟨INVx_M I, br_f x0 (br_f x1 (br_f x2 (br_f x3 (br_f x4 (br_f x5 (br_f x6 (br_f x7 (br_f x8 (br_f x9 (br_t rfl fin))))))))))⟩)
end CT
/-- cells of trays -/
def trT (t : Nat) : Prop := (230 ≤ t ∧ t ≤ 237) ∨ t = 245 ∨ (257 ≤ t ∧ t ≤ 260)
theorem trT_noH : noH trT := fun t z => by unfold trT at z; omega
theorem INV_tr {w u : Wd} {B : Nat} {g : Nat → Nat} (I : INVx w B g) (c : cx trT w u) (hR : wR u = wR w) (f : fl3 w u) (ht : ∀ i, i < 4 → TR u i) (hB : B + 99 < 2 ^ 24) : INV u (B + 99) := by
  have s := SH_e c hR I.1
  have W := SH_N I.1
  have no : ∀ t, ((125 ≤ t ∧ t ≤ 229) ∨ (238 ≤ t ∧ t ≤ 240) ∨ (248 ≤ t ∧ t ≤ 250)) → wI u t = wI w t := fun t ht => ((c.2 t (by omega)).2.2 (fun k => by unfold trT at k; omega)).1
  obtain ⟨o1, o2, ⟨n, tt, o3⟩, o4⟩ := I.2.2.2.2
  refine ⟨s, ⟨g, WF_mono I.2.1 (by omega) hB, CP_cx c trT_noH (fun t z => by unfold trT at z; omega) I.2.2.1, RS_cx c s (by unfold trT; omega) I.2.2.2.1⟩, fun i hi => ?_, ht, ⟨n, tt, o3.1, ?_, ?_, fun k hk => ?_⟩, ?_⟩
  · obtain ⟨g', h, e, b, q1, q2, q3, q4, q5⟩ := o1 i hi
    exact ⟨g', h, e, b, WF_mono q1 (by omega) hB, PG_cx c trT_noH (fun t z k => by unfold trT at k; unfold pgT at z; omega) q2, fun k hk => by rw [no 248 (by omega)]; exact q3 k hk, by rw [no (125 + 35 * i) (by omega)]; exact q4, by rw [no 249 (by omega)]; exact q5⟩
  · rw [no 238 (by omega)]; exact o3.2.1
  · rw [f.1]; exact o3.2.2.1
  · have z := o3.2.2.2 k hk
    exact ⟨z.1, by rw [no 250 (by omega)]; exact z.2.1, by rw [no 239 (by omega)]; exact z.2.2⟩
  · unfold FT
    rw [f.2.1, f.2.2, no 238 (by omega)]
    exact o4
/-- the tail of a call that answers nothing -/
def tlV (L F : Wd → Prop) (rc : Int32) (w : Wd) : Prop := isK w 245 12 ∧ w_X12_thrown 245 (fun r3 w3 => (r3 = rc → L w3) ∧ (¬ r3 = rc → F w3)) w
theorem tlV_i {L F : Wd → Prop} {k : Int32} {w : Wd} (s : SH w) (h4 : wI w 245 4 = k) (hL : L w) : tlV L F k w := by
  have z := s.2.2.2.2.2.2.2.2.2.2.1.1
  refine ⟨z, z, ?_⟩
  rw [h4]
  exact br_t rfl hL
theorem wL_uL (w : Wd) (t k j : Nat) (v : Int64) : wL (uL w t k v) t j = if j = k then v else wL w t j := by
  show va_up w.2.2.2.2.1 t (vp_updL (w.2.2.2.2.1 t) k v) t j = _
  rw [va_up_self]
  by_cases e : j = k
  · subst e; rw [if_pos rfl]; exact pk_uLs
  · rw [if_neg e]; exact pk_uLn e
theorem wL_uLn {w : Wd} {t r k : Nat} {v : Int64} (h : r ≠ t) : wL (uL w t k v) r = wL w r := va_up_ne _ _ h
section TY2
variable {w : Wd} {B : Nat} {L F : Wd → Prop} {g : Nat → Nat}
theorem TR_other {u : Wd} {i j : Nat} (hi : i < 4) (hj : j < 4) (ne : j ≠ i) (h1 : ∀ t, (230 ≤ t ∧ t ≤ 237) → t ≠ 230 + 2 * i → t ≠ 231 + 2 * i → wI u t = wI w t ∧ wL u t = wL w t) (h2 : wI u 257 j = wI w 257 j) (h3 : wI u 258 j = wI w 258 j) (h4 : ∀ k, k < 30 → wL u 259 (30 * j + k) = wL w 259 (30 * j + k)) (t : TR w j) : TR u j := by
  obtain ⟨b, s', m, v, q1, q2, ⟨q3, q4, q5, q6⟩, q7, q8, q9⟩ := t
  have a0 := h1 (230 + 2 * j) (by omega) (by omega) (by omega)
  have a1 := h1 (231 + 2 * j) (by omega) (by omega) (by omega)
  exact ⟨b, s', m, v, q1, q2, ⟨by rw [a0.1]; exact q3, by rw [a0.1]; exact q4, by rw [a0.1]; exact q5, fun k hk => by rw [a1.2]; exact q6 k hk⟩, by rw [h2]; exact q7, by rw [h3]; exact q8, fun k hk => by rw [h4 k hk]; exact q9 k hk⟩
theorem jn_tray {x y z : Int32} (I : INV w B) (hB : B + 99 < 2 ^ 24) (hk : ∀ u, INV u (B + 99) → L u) {K : Int32 → Wd → Prop} (hc : ∀ r w1, isK w1 245 12 → w_X12_tray 245 x y z (fun w2 => tlV L F r w2) w1 → K r w1) : w_L_tray 3 18 64 x y z K w := by
  obtain ⟨g, I⟩ := INV_x I
  have s := I.1
  have bad : ∀ N, wN w ≤ N → ∀ k : Int32, 0 < k → ¬ k = 0 → j_X12_tray_41 (fun w2 => tlV L F k w2) 245 x y z k 245 (wJ w N) := fun N hN k hk1 hk0 => by
    have J := INVx_J I hN
    have J1 := INVx_t (k := 4) (v := k) J (by decide) (by decide) (by decide)
    refine ⟨INVx_M J, INVx_M J, ?_⟩
    rw [fw]
    exact br_f (fun q => by rw [fa_le] at q; rw [fa_lt] at hk1; omega) (tlV_i J1.1 (fw _ _) (hk _ (x_INV J1 (by omega) hB)))
  have isT : ∀ {w1 : Wd} {K' : Int32 → Wd → Prop}, (isB 4 x.toInt = true → K' 1 w1) → (isB 4 x.toInt = false → K' 0 w1) → w_X12_isTray x K' w1 := fun {w1 K'} h1 h2 => by
    unfold w_X12_isTray
    refine p_withinI 0 3 (by decide) (by decide) ⟨b2i_or _, ?_⟩
    cases e : isB 4 x.toInt
    · have e' := of_decide_eq_false e
      rw [decide_eq_false (by omega)]
      exact h2 e
    · have e' := of_decide_eq_true e
      rw [decide_eq_true (by omega)]
      exact h1 e
  refine ⟨s.1.1, ⟨by decide, by decide⟩, s.1.1, ⟨by decide, by decide⟩, q_anyTray s (fun i hi hx => ⟨⟨by decide, by decide⟩, q_within 0 3 (by decide) (by decide) (fun c1 => ⟨⟨by decide, by decide⟩, q_within 0 30 (by decide) (by decide) (fun c2 => ?_) (fun c2 N hN => Or.inr ⟨rfl, ?_⟩)⟩) (fun c1 N hN => Or.inr ⟨rfl, ?_⟩)⟩) (fun c N hN => Or.inl ⟨rfl, ?_⟩)⟩
  · have tx : isB 4 x.toInt = true := by rw [hx]; exact isB_t (by rw [nI_toInt (by omega)]; omega)
    obtain ⟨so, hso⟩ : ∃ so : Nat, y.toInt = so := ⟨y.toInt.toNat, by omega⟩
    obtain ⟨m, hm⟩ : ∃ m : Nat, z.toInt = m := ⟨z.toInt.toNat, by omega⟩
    have S := s.2.2.2.2.2.2.1 i hi
    refine ⟨S.1, S.1, 30 + 1, ?_⟩
    obtain ⟨u0, hu0⟩ : ∃ u0, u0 = uI (uI (uI w (230 + 2 * i) 0 1) (230 + 2 * i) 2 y) (230 + 2 * i) 1 z := ⟨_, rfl⟩
    have R0 : wR u0 = wR w := by rw [hu0]; rfl
    have k0 : ∀ r k, isK w r k → isK u0 r k := fun r k q => by rw [hu0]; exact q
    have n0 : ∀ r, wn u0 r = wn w r := fun r => by rw [hu0]; rfl
    have i0 : ∀ r, r ≠ 230 + 2 * i → wI u0 r = wI w r := fun r hr => by rw [hu0, sI_uI, wI_sIn hr, sI_uI, wI_sIn hr, sI_uI, wI_sIn hr]
    have l0 : wL u0 = wL w := by rw [hu0]; rfl
    have v0 : wI u0 (230 + 2 * i) 0 = 1 ∧ wI u0 (230 + 2 * i) 1 = z ∧ wI u0 (230 + 2 * i) 2 = y := by
      rw [hu0]
      refine ⟨?_, ?_, ?_⟩
      · rw [wI_uI, if_neg (by decide), wI_uI, if_neg (by decide), wI_uI, if_pos rfl]
      · rw [wI_uI, if_pos rfl]
      · rw [wI_uI, if_neg (by decide), wI_uI, if_pos rfl]
    have N0 : wN u0 = wN w := by rw [hu0]; rfl
    have c0 : cx trT w u0 := by
      rw [hu0]
      have tt : trT (230 + 2 * i) := by unfold trT; omega
      exact cx_trans (cx_trans (cx_uI tt) (cx_uI tt)) (cx_uI tt)
    have S0 : isK u0 (230 + 2 * i) 10 ∧ wR u0 (230 + 2 * i) 3 = 231 + 2 * i ∧ isK u0 (231 + 2 * i) 21 ∧ wn u0 (231 + 2 * i) = 30 := ⟨k0 _ _ S.1, by rw [R0]; exact S.2.1, k0 _ _ S.2.2.1, by rw [n0]; exact S.2.2.2⟩
    rw [← hu0]
    have go : ∀ E : Wd → Prop, (∀ u, eqW (fun r => r = 231 + 2 * i) u0 u → wR u = wR u0 → wI u = wI u0 → (∀ k, k < 30 → wL u (231 + 2 * i) k = 0) → E u) → ∀ d j u, j + d = 30 → eqW (fun r => r = 231 + 2 * i) u0 u → wR u = wR u0 → wI u = wI u0 → (∀ k, k < j → wL u (231 + 2 * i) k = 0) → l_X10_layOut_17 E (d + 1) (230 + 2 * i) (nI j) u := by
      intro E hE d
      induction d with
      | zero =>
        intro j u hj e hR hI hz
        have : j = 30 := by omega
        subst this
        unfold l_X10_layOut_17
        rw [hR, S0.2.1, eqW_wn e, S0.2.2.2]
        exact ⟨(eqW_isK e).mpr S0.1, (eqW_isK e).mpr S0.2.2.1, br_t (by decide) (hE u e hR hI hz)⟩
      | succ d ih =>
        intro j u hj e hR hI hz
        unfold l_X10_layOut_17
        rw [hR, S0.2.1, eqW_wn e, S0.2.2.2, nI_clamp (by omega), nI_1]
        refine ⟨(eqW_isK e).mpr S0.1, (eqW_isK e).mpr S0.2.2.1, br_f (nI_ge (b := 30) (by omega) (by decide)) ⟨vp_in_nI (by omega) (by decide), ih (j + 1) _ (by omega) (eqW_trans e (eqW_uL rfl)) hR hI (fun k hk' => ?_)⟩⟩
        rw [wL_uL]
        by_cases ek : k = j
        · rw [if_pos ek]
        · rw [if_neg ek]; exact hz k (by omega)
    refine go _ (fun u1 e1 R1 I1 Z1 => ?_) 30 0 u0 (by omega) (eqW_refl _ _) rfl rfl (fun k hk' => absurd hk' (Nat.not_lt_zero k))
    have c1' : cx trT w u1 := cx_trans c0 (cx_mono (fun t q => by subst q; unfold trT; omega) (cx_eqW e1))
    have R1' : wR u1 = wR w := R1.trans R0
    have s1 : SH u1 := SH_e c1' R1' s
    have M1 := s1.2.2.2.2.2.2.2.2.2.2.1.1
    refine hc _ u1 M1 (isT (fun _ => br_f (by decide) (p_withinI 0 3 (by decide) (by decide) ?_)) (fun q => by rw [tx] at q; cases q))
    rw [decide_eq_true c1]
    refine br_f (by decide) (p_withinI 0 30 (by decide) (by decide) ?_)
    rw [decide_eq_true c2]
    refine br_f (by decide) ⟨M1, M1, ?_⟩
    rw [fw, hx, (m26 s1).1, (m27 s1).1, (m26 s1).2.2, (m27 s1).2.2, nI_clamp (n := i) (by omega)]
    refine br_t (by decide) ⟨(m26 s1).2.1, vp_in_nI hi (by decide), (m27 s1).2.1, vp_in_nI hi (by decide), 30 + 1, ?_⟩
    obtain ⟨v0', hv0⟩ : ∃ v0', v0' = uI (uI (uI u1 245 4 0) 257 i y) 258 i z := ⟨_, rfl⟩
    have cv : cx trT u1 v0' := by
      rw [hv0]
      exact cx_trans (cx_trans (cx_uI (by unfold trT; omega)) (cx_uI (by unfold trT; omega))) (cx_uI (by unfold trT; omega))
    have Rv : wR v0' = wR u1 := by rw [hv0]; rfl
    have Lv : wL v0' = wL u1 := by rw [hv0]; rfl
    have sv : SH v0' := SH_e cv Rv s1
    have iv : ∀ r, r ≠ 245 → r ≠ 257 → r ≠ 258 → wI v0' r = wI u1 r := fun r a b c => by rw [hv0, sI_uI, wI_sIn c, sI_uI, wI_sIn b, sI_uI, wI_sIn a]
    have iv7 : ∀ k, wI v0' 257 k = if k = i then y else wI u1 257 k := fun k => by
      rw [hv0, sI_uI, wI_sIn (t := 258) (by decide), wI_uI]
      by_cases e : k = i
      · rw [if_pos e, if_pos e]
      · rw [if_neg e, if_neg e, sI_uI, wI_sIn (by decide)]
    have iv8 : ∀ k, wI v0' 258 k = if k = i then z else wI u1 258 k := fun k => by
      rw [hv0, wI_uI]
      by_cases e : k = i
      · rw [if_pos e, if_pos e]
      · rw [if_neg e, if_neg e, sI_uI, wI_sIn (by decide), sI_uI, wI_sIn (by decide)]
    have iv5 : ∀ k, k ≠ 4 → wI v0' 245 k = wI u1 245 k := fun k hk' => by rw [hv0, sI_uI, wI_sIn (t := 258) (by decide), sI_uI, wI_sIn (t := 257) (by decide), wI_uI, if_neg hk']
    have iv54 : wI v0' 245 4 = 0 := by rw [hv0, sI_uI, wI_sIn (t := 258) (by decide), sI_uI, wI_sIn (t := 257) (by decide), wI_uI, if_pos rfl]
    rw [← hv0]
    have gr : ∀ E : Wd → Prop, (∀ v, eqW (fun r => r = 259) v0' v → wR v = wR v0' → wI v = wI v0' → (∀ k, k < 30 → wL v 259 (30 * i + k) = 0) → (∀ k, (k < 30 * i ∨ 30 * i + 30 ≤ k) → wL v 259 k = wL v0' 259 k) → E v) → ∀ d j v, j + d = 30 → eqW (fun r => r = 259) v0' v → wR v = wR v0' → wI v = wI v0' → (∀ k, k < j → wL v 259 (30 * i + k) = 0) → (∀ k, (k < 30 * i ∨ 30 * i + 30 ≤ k) → wL v 259 k = wL v0' 259 k) → l_X12_tray_69 E (d + 1) 245 (nI i) (nI j) v := by
      intro E hE d
      induction d with
      | zero =>
        intro j v hj e hR hI hz ho
        have : j = 30 := by omega
        subst this
        exact br_t (by decide) (hE v e hR hI hz ho)
      | succ d ih =>
        intro j v hj e hR hI hz ho
        have sV : SH v := SH_e (cx_eqW e) hR sv
        have ei : ((30 * nI i) + nI j : Int32) = nI (30 * i + j) := by rw [show (30 * nI i : Int32) = nI (30 * i) from pk_mul 30 i, nI_add]
        refine br_f (nI_ge (b := 30) (by omega) (by decide)) ⟨sV.2.2.2.2.2.2.2.2.2.2.1.1, ?_⟩
        rw [(m28 sV).1, (m28 sV).2.2, ei, nI_clamp (by omega), nI_1]
        refine ⟨(m28 sV).2.1, vp_in_nI (by omega) (by decide), ih (j + 1) _ (by omega) (eqW_trans e (eqW_uL rfl)) hR hI (fun k hk' => ?_) (fun k hk' => ?_)⟩
        · rw [wL_uL]
          by_cases ek : k = j
          · rw [if_pos (by omega)]
          · rw [if_neg (by omega)]; exact hz k (by omega)
        · rw [wL_uL, if_neg (by omega)]; exact ho k hk'
    refine gr _ (fun v e hR hI hz ho => ?_) 30 0 v0' (by omega) (eqW_refl _ _) rfl rfl (fun k hk' => absurd hk' (Nat.not_lt_zero k)) (fun _ _ => rfl)
    have cV : cx trT w v := cx_trans (cx_trans c1' cv) (cx_mono (fun t q => by subst q; unfold trT; omega) (cx_eqW e))
    have RV : wR v = wR w := (hR.trans Rv).trans R1'
    have LV : ∀ r, r ≠ 259 → r ≠ 231 + 2 * i → wL v r = wL w r := fun r a b => by rw [(e.2.2.2 r a).2.1, Lv, (e1.2.2.2 r b).2.1, l0]
    have LV9 : wL v0' 259 = wL w 259 := by rw [Lv, (e1.2.2.2 259 (by omega)).2.1, l0]
    have IV : ∀ r, r ≠ 245 → r ≠ 257 → r ≠ 258 → r ≠ 230 + 2 * i → wI v r = wI w r := fun r a b c d => by rw [hI, iv r a b c, I1, i0 r d]
    have IV1 : wI u1 = wI u0 := I1
    have f3 : fl3 w v := by
      have q : ∀ k, k ≠ 4 → wI v 245 k = wI w 245 k := fun k hk' => by rw [hI, iv5 k hk', I1, i0 245 (by omega)]
      exact ⟨q 6 (by decide), q 14 (by decide), q 15 (by decide)⟩
    refine tlV_i (SH_e cV RV s) (by rw [hI]; exact iv54) (hk v (INV_tr I cV RV f3 (fun j hj => ?_) hB))
    by_cases ej : j = i
    · subst ej
      refine ⟨true, so, m, fun _ => 0, by omega, by omega, ⟨?_, ?_, ?_, fun k hk' => ?_⟩, ?_, ?_, fun k hk' => hz k hk'⟩
      · rw [hI, iv _ (by omega) (by omega) (by omega), I1, v0.1]; rfl
      · rw [hI, iv _ (by omega) (by omega) (by omega), I1, v0.2.1]; exact nI_v hm
      · rw [hI, iv _ (by omega) (by omega) (by omega), I1, v0.2.2]; exact nI_v hso
      · rw [(e.2.2.2 _ (by omega)).2.1, Lv]; exact Z1 k hk'
      · rw [hI, iv7, if_pos rfl, if_pos rfl]; exact nI_v hso
      · rw [hI, iv8, if_pos rfl]; exact nI_v hm
    · refine TR_other (w := w) hi hj ej (fun t ht a b => ⟨IV t (by omega) (by omega) (by omega) a, LV t (by omega) b⟩) ?_ ?_ (fun k hk' => ?_) (I.2.2.2.2.2.1 j hj)
      · rw [hI, iv7, if_neg ej, I1, i0 257 (by omega)]
      · rw [hI, iv8, if_neg ej, I1, i0 258 (by omega)]
      · rw [ho _ (by omega), LV9]
  · have J := INVx_J I hN
    have tx : isB 4 x.toInt = true := by rw [hx]; exact isB_t (by rw [nI_toInt (by omega)]; omega)
    refine hc _ _ (INVx_M J) (isT (fun _ => br_f (by decide) (p_withinI 0 3 (by decide) (by decide) ?_)) (fun q => by rw [tx] at q; cases q))
    rw [decide_eq_true c1]
    refine br_f (by decide) (p_withinI 0 30 (by decide) (by decide) ?_)
    rw [decide_eq_false c2]
    exact br_t rfl (bad N hN 2 (by decide) (by decide))
  · have J := INVx_J I hN
    have tx : isB 4 x.toInt = true := by rw [hx]; exact isB_t (by rw [nI_toInt (by omega)]; omega)
    refine hc _ _ (INVx_M J) (isT (fun _ => br_f (by decide) (p_withinI 0 3 (by decide) (by decide) ?_)) (fun q => by rw [tx] at q; cases q))
    rw [decide_eq_false c1]
    exact br_t rfl (bad N hN 2 (by decide) (by decide))
  · have J := INVx_J I hN
    exact hc _ _ (INVx_M J) (isT (fun q => by rw [c] at q; cases q) (fun _ => br_t rfl (bad N hN 1 (by decide) (by decide))))
end TY2
