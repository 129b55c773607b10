/-! 81: calls: a year -/
def nx (x : Int32) : Int32 := (1103515245 * x) + 12345
def vl (x : Int32) : Int32 := x_iushr (nx x) 16
def ddV (x n : Int32) : Int32 := if 2 ≤ x_irem (vl x) 6 then (if 1 ≤ n then (if 4 ≤ x_irem (vl x) 6 then (if x_irem (vl x) 6 = 4 then 2000 + x_irem (vl (nx x)) n else 2100 + x_irem (vl (nx x)) n) else ((x_irem (vl (nx x)) n * 100) + 1) + x_irem (vl (nx (nx x))) 5) else -2) else -1
def ddS (x n : Int32) : Int32 := if 2 ≤ x_irem (vl x) 6 then (if 1 ≤ n then (if 4 ≤ x_irem (vl x) 6 then nx (nx x) else nx (nx (nx x))) else nx x) else nx x
theorem q_next {w : Wd} {t : Nat} {x : Int32} {K : Int32 → Wd → Prop} (hK : isK w t 3) (hx : wI w t 0 = x) (hk : ∀ u, eqW (fun r => r = t) w u → wI u t 0 = nx x → K (vl x) u) : w_X3_next t K w := by
  have e : wI (uI w t 0 (nx x)) t 0 = nx x := by rw [wI_uI, if_pos rfl]
  refine ⟨hK, ?_⟩
  rw [hx]
  rw [show wI (uI w t 0 ((1103515245 * x) + 12345)) t 0 = nx x from e]
  exact hk _ (eqW_uI rfl) e
theorem q_nextDeed {w : Wd} {t : Nat} {x n : Int32} {K : Int32 → Wd → Prop} (hK : isK w t 3) (hx : wI w t 0 = x) (hk : ∀ u, eqW (fun r => r = t) w u → wI u t 0 = ddS x n → K (ddV x n) u) : w_X3_nextDeed t n K w := by
  unfold ddS ddV at hk
  refine ⟨hK, q_next hK hx (fun u1 h1 x1 => ?_)⟩
  have K1 : isK u1 t 3 := (eqW_isK h1).mpr hK
  by_cases c : 2 ≤ x_irem (vl x) 6
  case neg =>
    rw [if_neg c, if_neg c] at hk
    exact br_f c (hk u1 h1 x1)
  rw [if_pos c, if_pos c] at hk
  refine br_t c ?_
  by_cases d : 1 ≤ n
  case neg =>
    rw [if_neg d, if_neg d] at hk
    exact br_f d (hk u1 h1 x1)
  rw [if_pos d, if_pos d] at hk
  refine br_t d ⟨K1, q_next K1 x1 (fun u2 h2 x2 => ⟨fun z => by subst z; exact absurd d (by decide), ?_⟩)⟩
  have K2 : isK u2 t 3 := (eqW_isK h2).mpr K1
  by_cases e : 4 ≤ x_irem (vl x) 6
  · rw [if_pos e, if_pos e] at hk
    refine br_t e ?_
    by_cases f : x_irem (vl x) 6 = 4
    · rw [if_pos f] at hk; exact br_t f (hk u2 (eqW_trans h1 h2) x2)
    · rw [if_neg f] at hk; exact br_f f (hk u2 (eqW_trans h1 h2) x2)
  · rw [if_neg e, if_neg e] at hk
    exact br_f e ⟨K2, q_next K2 x2 (fun u3 h3 x3 => hk u3 (eqW_trans (eqW_trans h1 h2) h3) x3)⟩
/-- after i draws of a year: the row, the seed, how many were done -/
noncomputable def yrS (g : Nat → Nat) (x : Int32) : Nat → (Nat → Nat) × Int32 × Nat
  | 0 => (g, x, 0)
  | i + 1 => if whyT (yrS g x i).1 (ddV (yrS g x i).2.1 (nI ((yrS g x i).1 1))).toInt = 0 then (kdR (yrS g x i).1 (ddV (yrS g x i).2.1 (nI ((yrS g x i).1 1))).toInt, ddS (yrS g x i).2.1 (nI ((yrS g x i).1 1)), (yrS g x i).2.2 + 1) else ((yrS g x i).1, ddS (yrS g x i).2.1 (nI ((yrS g x i).1 1)), (yrS g x i).2.2)
theorem yrS_WF {g : Nat → Nat} {B : Nat} {x : Int32} (hW : WF g B) : ∀ {i : Nat}, B + i < 2 ^ 24 → WF (yrS g x i).1 (B + i) ∧ (yrS g x i).2.2 ≤ i
  | 0, _ => ⟨hW, Nat.le_refl _⟩
  | i + 1, h => by
    have z := yrS_WF hW (x := x) (i := i) (by omega)
    unfold yrS
    split
    · rename_i c
      exact ⟨(kdR_WF z.1 (by omega) c).1, by show (yrS g x i).2.2 + 1 ≤ i + 1; omega⟩
    · exact ⟨WF_mono z.1 (by omega) h, by show (yrS g x i).2.2 ≤ i + 1; omega⟩
theorem cx_new {T : Nat → Prop} {w u : Wd} {t k : Nat} {v : Int32} (c : cx T w u) (ht : wN w ≤ t) : cx T w (uI u t k v) := ⟨c.1, fun r hr => by
  have z := c.2 r hr
  refine ⟨z.1, z.2.1, fun n => ⟨?_, (z.2.2 n).2.1, (z.2.2 n).2.2⟩⟩
  rw [sI_uI, wI_sIn (by omega)]
  exact (z.2.2 n).1⟩
theorem cx_newE {T : Nat → Prop} {w u v : Wd} {t : Nat} (c : cx T w u) (ht : wN w ≤ t) (e : eqW (fun r => r = t) u v) : cx T w v := ⟨by show w.1 ≤ v.1; rw [e.1]; exact c.1, fun r hr => by
  have z := c.2 r hr
  have y := e.2.2.2 r (by omega)
  refine ⟨(congrFun e.2.1 r).trans z.1, (congrFun e.2.2.1 r).trans z.2.1, fun n => ⟨y.1.trans (z.2.2 n).1, y.2.1.trans (z.2.2 n).2.1, y.2.2.trans (z.2.2 n).2.2⟩⟩⟩
/-- a cell of another kind changes: lands stay -/
theorem LX_k3 {w u : Wd} {r h t : Nat} {g : Nat → Nat} (hK : isK w t 3) (e : eqW (fun x => x = t) w u) (L : LX w r h g) : LX u r h g := by
  have nk : ∀ x k, isK w x k → k ≠ 3 → x ≠ t := fun x k hx hk z => by
    subst z
    exact hk (hx.2.2.symm.trans hK.2.2)
  have H := L.1.1.1.2.2
  have n20 : ∀ x, isK w x 20 → x ≠ t := fun x hx => nk x 20 hx (by decide)
  have c := cx_eqW e
  have t64 := hK.1
  have hf : ∀ x, hT w h x → x ≠ t := fun x z => by
    have h0 := nk h 1 H.1 (by decide)
    have h1 := n20 _ H.2.2.1.2.1
    have h2 := n20 _ H.2.2.2.1.2.1
    have h3 := n20 _ L.2.2.2.1
    have h4 := n20 _ H.2.2.2.2.1.2.1
    have h5 := n20 _ L.2.2.2.2
    have h6 := n20 _ H.2.2.2.2.2.1.2.1
    have h7 := n20 _ H.2.2.2.2.2.2.1.2.1
    have h8 := n20 _ H.2.2.2.2.2.2.2.1.2.1
    have h9 : wR w h 4 ≠ t := by
      rcases H.2.2.2.2.2.2.2.2 with q | q
      · rw [q.1]; omega
      · exact n20 _ q.1
    unfold hT at z
    omega
  refine ⟨LA_cx c (fun x z => z.elim (hf x) (fun q => ?_)) L.1, L.2.1, ?_, cx_isK c L.2.2.2.1, cx_isK c L.2.2.2.2⟩
  · have r0 := nk r 2 L.1.1.1.1 (by decide)
    have r1 := n20 _ L.1.1.2.2.1.2.1
    have r2 := n20 _ L.1.1.2.2.2.2.1
    unfold landT at q
    omega
  · rw [(cx_at c H.1 (nk h 1 H.1 (by decide))).2.2]
    exact L.2.2.1
theorem PG_k3 {w u : Wd} {p h e t : Nat} {g : Nat → Nat} (hK : isK w t 3) (c : eqW (fun x => x = t) w u) (P : PG w p h e g) : PG u p h e g := by
  obtain ⟨a1, a2, a3, ⟨a4, a5⟩, a6⟩ := P
  have nk : ∀ x k, isK w x k → k ≠ 3 → x ≠ t := fun x k hx hk z => by
    subst z
    exact hk (hx.2.2.symm.trans hK.2.2)
  have n0 := nk p 5 a1.1 (by decide)
  have f0 := c.2.2.2 p n0
  refine ⟨PS_cx (cx_eqW c) n0 (nk _ 24 a1.2.2.2.1 (by decide)) a1, LX_k3 hK c a2, by rw [f0.1]; exact a3, ⟨by rw [f0.1]; exact a4, a5⟩, fun s hs => ?_⟩
  obtain ⟨h', g', b1, b2⟩ := a6 s hs
  exact ⟨h', g', LX_k3 hK c b1, b2⟩
theorem LX_wA {w : Wd} {r h k n : Nat} {g : Nat → Nat} (L : LX w r h g) : LX (wA w k n) r h g := LX_cx (T := fun _ => False) (cx_wA w k n) (fun _ z => z.elim) (fun _ _ z => z) L
theorem isK_wA (w : Wd) (k n : Nat) (h : 64 ≤ wN w) : isK (wA w k n) (wN w) k := ⟨h, Nat.lt_succ_self _, va_up_self _ _ _⟩
section JY
variable {w : Wd} {B : Nat} {L F : Wd → Prop} {g : Nat → Nat}
theorem p_num {m : Int32} {x : Int32} {K : Int32 → Wd → Prop} (hM : isK w 245 12) (hm : ¬ m = 0) (hx : wI w 245 19 = x) (hk : wI (uI w 245 19 (nx x)) 245 19 = nx x → K (x_irem (vl x) m) (uI w 245 19 (nx x))) : w_X12_numberOf 245 m K w := by
  have e : wI (uI w 245 19 (nx x)) 245 19 = nx x := by rw [wI_uI, if_pos rfl]
  refine ⟨hM, hm, ?_⟩
  rw [hx]
  rw [show wI (uI w 245 19 ((1103515245 * x) + 12345)) 245 19 = nx x from e]
  exact hk e
/-- what a draw of a year does on the reference's side -/
theorem p_draw145 {Bk : Nat → Int32 → Int32 → Int32 → Wd → Prop} {KK : Int32 → Wd → Prop} {d a2 a3 a4 : Int32} (R : RS w 245 g) (hW : WF g B) (hB : B + 1 < 2 ^ 24) (hk1 : whyT g d.toInt = 0 → ∀ u, eqW (refT 245) w u → RS u 245 (kdR g d.toInt) → Bk 245 a2 (a3 + 1) (a4 + 1) u) (hk0 : ¬ whyT g d.toInt = 0 → Bk 245 a2 a3 (a4 + 1) w) : j_X12_year_145 Bk KK 245 a2 a3 a4 d w := by
  have wl := whyT_le g d.toInt
  refine ⟨R.1.1, p_whyT R hW ?_⟩
  rw [i64_32]
  by_cases c : whyT g d.toInt = 0
  · rw [c]
    refine br_t rfl ⟨R.1.1, p_kd (x := d.toInt64) R hW hB (by rw [i64_32]; exact c) (fun u hu Ru z => ⟨Ru.1.1, by rw [i3264] at z; exact z⟩) (fun u hu Ru => hk1 c u hu (by rw [i64_32] at Ru; exact Ru))⟩
  · exact br_f (nI_ne0 (by omega) (by omega)) (hk0 c)
/-- one turn of the reference's year -/
theorem p_yearStep {KK : Int32 → Wd → Prop} {n : Nat} {x a2 a3 a4 : Int32} (s : SH w) (R : RS w 245 g) (hW : WF g B) (hB : B + 1 < 2 ^ 24) (hx : wI w 245 19 = x) (h4 : wI w 245 4 = 0) (ha : ¬ a2 ≤ a4) (hk : ∀ u g' c', stR w u → RS u 245 g' → wI u 245 19 = ddS x (nI (g 1)) → wI u 245 4 = 0 → (if whyT g (ddV x (nI (g 1))).toInt = 0 then g' = kdR g (ddV x (nI (g 1))).toInt ∧ c' = a3 + 1 else g' = g ∧ c' = a3) → l_X12_year_33 KK n 245 a2 c' (a4 + 1) u) : l_X12_year_33 KK (n + 1) 245 a2 a3 a4 w := by
  have h10 := hW.1.1.2.1
  have st1 : ∀ {u : Wd} {v : Int32}, SH u → stR u (uI u 245 19 v) := fun su => stR_uI su (by decide) (by decide) (by decide)
  have k4 : ∀ {u : Wd} {v : Int32}, wI u 245 4 = 0 → wI (uI u 245 19 v) 245 4 = 0 := fun z => by rw [wI_uI, if_neg (by decide)]; exact z
  have R1 : ∀ {u : Wd} {v : Int32} {g : Nat → Nat}, RS u 245 g → RS (uI u 245 19 v) 245 g := fun z => RSs z (t := 245) (by omega) _
  have p1 : (1 : Int32).toInt = 1 := by decide
  have p2 : (2 : Int32).toInt = 2 := by decide
  have p3 : (3 : Int32).toInt = 3 := by decide
  have p4 : (4 : Int32).toInt = 4 := by decide
  -- the last step, the deed being known
  have last : ∀ (u : Wd) (d st : Int32), stR w u → RS u 245 g → wI u 245 19 = st → wI u 245 4 = 0 → st = ddS x (nI (g 1)) → d = ddV x (nI (g 1)) → j_X12_year_145 (l_X12_year_33 KK n) KK 245 a2 a3 a4 d u := fun u d st su Ru hs h4' e1 e2 => by
    subst e1 e2
    refine p_draw145 Ru hW hB (fun c u' hu' Ru' => ?_) (fun c => ?_)
    · have f := (hu'.2.2.2 245 (by unfold refT; omega)).1
      exact hk u' _ _ (stR_trans su (stR_refT su.2.1 hu')) Ru' (by rw [f]; exact hs) (by rw [f]; exact h4') (by rw [if_pos c]; exact ⟨rfl, rfl⟩)
    · exact hk u g a3 su Ru hs h4' (by rw [if_neg c]; exact ⟨rfl, rfl⟩)
  refine br_f ha ⟨R.1.1, p_num R.1.1 (by decide) hx (fun x1 => ?_)⟩
  have sa := st1 (v := nx x) s
  have Ra := R1 (v := nx x) R
  have ka := k4 (v := nx x) h4
  by_cases c : 2 ≤ x_irem (vl x) 6
  case neg =>
    have c1 : x_irem (vl x) 6 ≤ 1 := by rw [fa_le, p1]; rw [fa_le, p2] at c; omega
    refine br_t c1 (br_t c1 (br_f (fun z => ?_) (br_f (fun z => ?_) (last _ _ _ sa Ra x1 ka (by unfold ddS; rw [if_neg c]) (by unfold ddV; rw [if_neg c])))))
    · rw [z] at c; exact c (by decide)
    · rw [z] at c; exact c (by decide)
  have c1 : ¬ x_irem (vl x) 6 ≤ 1 := by rw [fa_le, p1]; rw [fa_le, p2] at c; omega
  refine br_f c1 ⟨Ra.1.1, p_wells Ra ?_⟩
  by_cases d : g 1 = 0
  · have d1 : ¬ (1 : Int32) ≤ nI (g 1) := by rw [d]; decide
    refine br_t (by rw [d]; rfl) (hk _ g a3 sa Ra ?_ ka ?_)
    · rw [x1]; unfold ddS; rw [if_pos c, if_neg d1]
    · have e : ddV x (nI (g 1)) = -2 := by unfold ddV; rw [if_pos c, if_neg d1]
      have e2 : whyT g (-2) = 1 := by
        unfold whyT
        rw [if_neg (by decide), if_neg (by decide), if_neg (by decide), if_neg (by decide)]
      rw [e, if_neg (by rw [show (-2 : Int32).toInt = -2 from by decide, e2]; decide)]
      exact ⟨rfl, rfl⟩
  have d1 : (1 : Int32) ≤ nI (g 1) := nI_le (a := 1) (by omega) (by omega)
  refine br_f (nI_ne0 (by omega) (by omega)) (br_f c1 ⟨Ra.1.1, p_wells Ra ⟨Ra.1.1, p_num Ra.1.1 (nI_ne0 (by omega) (by omega)) x1 (fun x2 => ?_)⟩⟩)
  have sb := stR_trans sa (st1 (v := nx (nx x)) sa.2.1)
  have Rb := R1 (v := nx (nx x)) Ra
  have kb := k4 (v := nx (nx x)) ka
  by_cases e : 4 ≤ x_irem (vl x) 6
  · have n2 : ¬ x_irem (vl x) 6 = 2 := fun z => by rw [z] at e; exact absurd e (by decide)
    have n3 : ¬ x_irem (vl x) 6 = 3 := fun z => by rw [z] at e; exact absurd e (by decide)
    have eS : nx (nx x) = ddS x (nI (g 1)) := by unfold ddS; rw [if_pos c, if_pos d1, if_pos e]
    refine br_t e (br_t e ?_)
    by_cases f : x_irem (vl x) 6 = 4
    · exact br_t f (br_f n2 (br_f n3 (last _ _ _ sb Rb x2 kb eS (by unfold ddV; rw [if_pos c, if_pos d1, if_pos e, if_pos f, Int32.mul_one, Int32.add_comm]))))
    · exact br_f f (br_f n2 (br_f n3 (last _ _ _ sb Rb x2 kb eS (by unfold ddV; rw [if_pos c, if_pos d1, if_pos e, if_neg f, Int32.mul_one, Int32.add_comm]))))
  · have eS : nx (nx (nx x)) = ddS x (nI (g 1)) := by unfold ddS; rw [if_pos c, if_pos d1, if_neg e]
    have sc := stR_trans sb (st1 (v := nx (nx (nx x))) sb.2.1)
    have Rc := R1 (v := nx (nx (nx x))) Rb
    have kc := k4 (v := nx (nx (nx x))) kb
    have eV : ((x_irem (vl (nx x)) (nI (g 1)) * 100) + 0) + (1 + x_irem (vl (nx (nx x))) 5) = ddV x (nI (g 1)) := by
      unfold ddV
      rw [if_pos c, if_pos d1, if_neg e, Int32.add_zero, ← Int32.add_assoc]
    refine br_f e (br_f e ?_)
    by_cases f : x_irem (vl x) 6 = 2
    · exact br_t f ⟨Rb.1.1, p_num Rb.1.1 (by decide) x2 (fun x3 => last _ _ _ sc Rc x3 kc eS eV)⟩
    · have f3 : x_irem (vl x) 6 = 3 := by
        rw [fa_eq, p3]
        rw [fa_eq, p2] at f
        rw [fa_le, p2] at c
        rw [fa_le, p4] at e
        omega
      exact br_f f (br_t f3 ⟨Rb.1.1, p_num Rb.1.1 (by decide) x2 (fun x3 => last _ _ _ sc Rc x3 kc eS eV)⟩)
theorem jn_year {x y : Int32} (I : INV w B) (hB : B + 99 < 2 ^ 24) (hk : ∀ u, INV u (B + 99) → L u) {K : Int32 → Wd → Prop} (hc : ∀ r w1, isK w1 245 12 → w_X12_year 245 x y (fun b w2 => tlT L F r b.toInt64 w2) w1 → K r w1) : w_L_year 2 7 64 x y 260 K w := by
  obtain ⟨g, I⟩ := INV_x I
  have s := I.1
  have hW := I.2.1
  refine ⟨s.1.1, ⟨by decide, by decide⟩, ⟨by decide, by decide⟩, q_within 1 30 (by decide) (by decide) (fun c => ?_) (fun c N hN => ⟨rfl, ?_⟩)⟩
  · obtain ⟨T, hT⟩ : ∃ T : Nat, y.toInt = T := ⟨y.toInt.toNat, by omega⟩
    have hT1 : 1 ≤ T ∧ T ≤ 30 := by omega
    refine ⟨⟨by decide, by decide⟩, fun r4 w5 e4 e5 => ⟨⟨by decide, by decide⟩, ?_⟩⟩
    subst e4 e5
    have W := SH_N s
    obtain ⟨t, ht⟩ : ∃ t, t = wN w := ⟨_, rfl⟩
    rw [← ht]
    have k3 : isK (wA w 3 0) t 3 := by rw [ht]; exact isK_wA w 3 0 (by omega)
    refine ⟨k3, T + 1, ?_⟩
    have e0 : eqW (fun r => r = t) (wA w 3 0) (uI (wA w 3 0) t 0 x) := eqW_uI rfl
    have c0 : cx cD w (uI (wA w 3 0) t 0 x) := cx_newE (cx_wA w 3 0) (by omega) e0
    have f0 : wR (uI (wA w 3 0) t 0 x) = wR (wA w 3 0) := rfl
    have shT : ∀ u, cx (fun z => False) w u → SH u := fun u cu => SH_t cu (fun _ z => z.elim) (LdS_cx cu (fun z => z) s.2.2.2.2.1) (NS_cx cu (fun z => z) s.2.2.2.2.2.1) s
    have s0 : SH (uI (wA w 3 0) t 0 x) := shT _ (cx_newE (cx_wA w 3 0) (by omega) e0)
    obtain ⟨h, e, P⟩ := I.2.2.1
    have P0 : PG (uI (wA w 3 0) t 0 x) 90 h e g := PG_k3 k3 e0 (PG_cx (T := fun _ => False) (cx_wA w 3 0) (fun _ z => z.elim) (fun _ _ z => z) P)
    rw [nI_v hT]
    have go : ∀ E : Int32 → Wd → Prop, ∀ X, (∀ u, stC w u → CP u (yrS g x T).1 → E (nI (yrS g x T).2.2) u) → ∀ d i u, i + d = T → stC w u → CP u (yrS g x i).1 → isK u t 3 → wI u t 0 = (yrS g x i).2.1 → l_X11_year_22 2 7 X E (d + 1) 64 (nI T) t (nI (yrS g x i).2.2) (nI i) 2 7 u := by
      intro E X hE d
      induction d with
      | zero =>
        intro i u hi st Pu ku xu
        have : i = T := by omega
        subst this
        exact br_t (nI_le (Nat.le_refl _) (by omega)) (hE u st Pu)
      | succ d ih =>
        intro i u hi st Pu ku xu
        obtain ⟨h, e, Pu'⟩ := Pu
        have Wi := yrS_WF hW (x := x) (i := i) (by omega)
        unfold l_X11_year_22
        rw [st.2.1.2.1, Pu'.1.2.1, Pu'.2.1.1.1.1.2.1, Pu'.2.1.1.1.1.2.2.2.1.2.1]
        refine br_f (nI_ge (by omega) (by omega)) ⟨st.2.1.1, Pu'.1.1, Pu'.2.1.1.1.1.1, Pu'.2.1.1.1.1.2.2.1, ku, q_nextDeed ku xu (fun u1 h1 x1 => ?_)⟩
        have st1 : stC w u1 := by
          have cu : cx (fun z => False) u u1 → SH u1 := fun cu => SH_t cu (fun _ z => z.elim) (LdS_cx cu (fun z => z) st.2.2.2.2.2.1) (NS_cx cu (fun z => z) st.2.2.2.2.2.2.1) st.2
          refine ⟨cx_newE st.1 (by omega) h1, ?_⟩
          have hn : ∀ r, r < 261 → ¬ r = t := fun r hr => by omega
          exact SH_t (cx_eqW h1) (fun z hz => by omega) (LdS_cx (cx_eqW h1) (hn _ (by omega)) st.2.2.2.2.2.1) (NS_cx (cx_eqW h1) (hn _ (by omega)) st.2.2.2.2.2.2.1) st.2
        have P1 := PG_k3 ku h1 Pu'
        have k1 : isK u1 t 3 := (eqW_isK h1).mpr ku
        have ct : ¬ cD t := by unfold cD cS; omega
        refine ⟨st1.2.1.1, q_carryIf st1.2 Wi.1 (by omega) P1 (fun c u2 st2 P2 => br_f (by decide) ?_) (fun c => br_t rfl ?_)⟩
        · rw [i64_32] at c P2
          rw [nI_1, nI_1]
          have e1 : yrS g x (i + 1) = (kdR (yrS g x i).1 (ddV (yrS g x i).2.1 (nI ((yrS g x i).1 1))).toInt, ddS (yrS g x i).2.1 (nI ((yrS g x i).1 1)), (yrS g x i).2.2 + 1) := by show (if _ then _ else _) = _; rw [if_pos c]
          have z := ih (i + 1) u2 (by omega) (stC_trans st1 st2) (by rw [e1]; exact P2) (cx_isK st2.1 k1) (by rw [(cx_at st2.1 k1 ct).1, x1, e1])
          rw [e1] at z
          exact z
        · rw [i64_32] at c
          rw [nI_1]
          have e1 : yrS g x (i + 1) = ((yrS g x i).1, ddS (yrS g x i).2.1 (nI ((yrS g x i).1 1)), (yrS g x i).2.2) := by show (if _ then _ else _) = _; rw [if_neg c]
          have z := ih (i + 1) u1 (by omega) st1 (by rw [e1]; exact ⟨h, e, P1⟩) k1 (by rw [x1, e1])
          rw [e1] at z
          exact z
    refine go _ _ (fun u st Pu => ?_) T 0 _ (by omega) ⟨c0, s0⟩ ⟨h, e, P0⟩ k3 (by rw [wI_uI, if_pos rfl]; rfl)
    have WT := yrS_WF hW (x := x) (i := T) (by omega)
    have k260 := st.2.2.2.2.2.2.2.2.2.2.2.2
    have so := stC_out (v := (nI (yrS g x T).2.2).toInt64) st.2
    have st2 := stC_trans st so
    have R2 := stC_RS st2 I.2.2.2.1
    refine ⟨k260.1, by rw [k260.2]; exact vp_in_nI (n := 0) (by decide) (by decide), hc _ (uL u 260 0 (nI (yrS g x T).2.2).toInt64) R2.1.1 ⟨R2.1.1, p_withinI 1 30 (by decide) (by decide) ?_⟩⟩
    rw [decide_eq_true c, nI_v hT]
    obtain ⟨v1, hv1⟩ : ∃ v1, v1 = uI (uI (uL u 260 0 (nI (yrS g x T).2.2).toInt64) 245 4 0) 245 19 x := ⟨_, rfl⟩
    have st3 := stR_uI (k := 4) (v := 0) st2.2 (by decide) (by decide) (by decide)
    have st4 : stR (uL u 260 0 (nI (yrS g x T).2.2).toInt64) v1 := by rw [hv1]; exact stR_trans st3 (stR_uI (k := 19) (v := x) st3.2.1 (by decide) (by decide) (by decide))
    have Rv1 : RS v1 245 g := by rw [hv1]; exact RSs (RSs R2 (t := 245) (by omega) _) (t := 245) (by omega) _
    refine br_f (by decide) ⟨R2.1.1, T + 1, ?_⟩
    rw [← hv1]
    have gr : ∀ E : Int32 → Wd → Prop, (∀ z, stR (uL u 260 0 (nI (yrS g x T).2.2).toInt64) z → RS z 245 (yrS g x T).1 → wI z 245 4 = 0 → E (nI (yrS g x T).2.2) z) → ∀ d i z, i + d = T → stR (uL u 260 0 (nI (yrS g x T).2.2).toInt64) z → RS z 245 (yrS g x i).1 → wI z 245 19 = (yrS g x i).2.1 → wI z 245 4 = 0 → l_X12_year_33 E (d + 1) 245 (nI T) (nI (yrS g x i).2.2) (nI i) z := by
      intro E hE d
      induction d with
      | zero =>
        intro i z hi sz Rz xz z4
        have : i = T := by omega
        subst this
        exact br_t (nI_le (Nat.le_refl _) (by omega)) (hE z sz Rz z4)
      | succ d ih =>
        intro i z hi sz Rz xz z4
        have Wi := yrS_WF hW (x := x) (i := i) (by omega)
        refine p_yearStep sz.2.1 Rz Wi.1 (by omega) xz z4 (nI_ge (by omega) (by omega)) (fun z' g' c' sz' Rz' xz' z4' hif => ?_)
        rw [nI_1]
        by_cases cc : whyT (yrS g x i).1 (ddV (yrS g x i).2.1 (nI ((yrS g x i).1 1))).toInt = 0
        · rw [if_pos cc] at hif
          obtain ⟨rfl, rfl⟩ := hif
          rw [nI_1]
          have e1 : yrS g x (i + 1) = (kdR (yrS g x i).1 (ddV (yrS g x i).2.1 (nI ((yrS g x i).1 1))).toInt, ddS (yrS g x i).2.1 (nI ((yrS g x i).1 1)), (yrS g x i).2.2 + 1) := by show (if _ then _ else _) = _; rw [if_pos cc]
          have q := ih (i + 1) z' (by omega) (stR_trans sz sz') (by rw [e1]; exact Rz') (by rw [e1]; exact xz') z4'
          rw [e1] at q
          exact q
        · rw [if_neg cc] at hif
          obtain ⟨rfl, rfl⟩ := hif
          have e1 : yrS g x (i + 1) = ((yrS g x i).1, ddS (yrS g x i).2.1 (nI ((yrS g x i).1 1)), (yrS g x i).2.2) := by show (if _ then _ else _) = _; rw [if_neg cc]
          have q := ih (i + 1) z' (by omega) (stR_trans sz sz') (by rw [e1]; exact Rz') (by rw [e1]; exact xz') z4'
          rw [e1] at q
          exact q
    refine gr _ (fun z sz Rz z4 => finD s I.2.2.2.2 st Pu WT.1 (by omega) sz Rz z4 hB hk) T 0 v1 (by omega) st4 Rv1 (by rw [hv1, wI_uI, if_pos rfl]; rfl) (by rw [hv1, wI_uI, if_neg (by decide), wI_uI, if_pos rfl])
  · have J := INVx_J I hN
    have J1 := INVx_t (k := 4) (v := 0) J (by decide) (by decide) (by decide)
    have J2 := INVx_t (k := 4) (v := 1) J1 (by decide) (by decide) (by decide)
    refine hc _ _ (INVx_M J) ⟨INVx_M J, p_withinI 1 30 (by decide) (by decide) ?_⟩
    rw [decide_eq_false c]
    exact br_t rfl ⟨INVx_M J1, INVx_M J1, finK J2 (by decide) (by rw [wI_uI, if_pos rfl]) hB hk⟩
end JY
