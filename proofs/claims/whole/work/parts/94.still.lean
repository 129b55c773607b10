/-! 94: calls: withAwake, stillest -/
/-- in how many of the first hours just so many are awake -/
def hwc (c : Nat → Nat) (m i : Nat) : Nat := fb_ct (fun t => decide (c t = m)) i
theorem hwc_s (c : Nat → Nat) (m i : Nat) : hwc c m (i + 1) = hwc c m i + (if c i = m then 1 else 0) := by
  show fb_ct _ i + (if decide (c i = m) then 1 else 0) = _
  by_cases e : c i = m
  · rw [decide_eq_true e, if_pos e, if_pos rfl]; rfl
  · rw [decide_eq_false e, if_neg e]; rfl
/-- the first hour of fewest -/
def an (c : Nat → Nat) : Nat → Nat
  | 0 => 0
  | i + 1 => if c i < c (an c i) then i else an c i
theorem an_ok (c : Nat → Nat) : ∀ i, an c (i + 1) ≤ i ∧ (∀ j, j ≤ i → c (an c (i + 1)) ≤ c j) ∧ ∀ j, j < an c (i + 1) → c (an c (i + 1)) < c j
  | 0 => by
    have e : an c (0 + 1) = 0 := by show (if c 0 < c 0 then 0 else 0) = 0; split <;> rfl
    rw [e]
    exact ⟨Nat.le_refl _, fun j hj => by have : j = 0 := by omega
                                         subst this; exact Nat.le_refl _, fun j hj => absurd hj (Nat.not_lt_zero j)⟩
  | i + 1 => by
    obtain ⟨a1, a2, a3⟩ := an_ok c i
    have e : an c (i + 1 + 1) = if c (i + 1) < c (an c (i + 1)) then i + 1 else an c (i + 1) := rfl
    by_cases q : c (i + 1) < c (an c (i + 1))
    · rw [e, if_pos q]
      refine ⟨Nat.le_refl _, fun j hj => ?_, fun j hj => ?_⟩
      · by_cases ej : j = i + 1
        · subst ej; exact Nat.le_refl _
        · have := a2 j (by omega); omega
      · have := a2 j (by omega); omega
    · rw [e, if_neg q]
      refine ⟨by omega, fun j hj => ?_, a3⟩
      by_cases ej : j = i + 1
      · subst ej; omega
      · exact a2 j (by omega)
def mnc (c : Nat → Nat) : Nat → Nat
  | 0 => 10
  | i + 1 => min (mnc c i) (c i)
theorem mnc_an {c : Nat → Nat} (h : ∀ i, c i ≤ 10) : ∀ i, mnc c (i + 1) = c (an c (i + 1))
  | 0 => by
    have e : an c (0 + 1) = 0 := by show (if c 0 < c 0 then 0 else 0) = 0; split <;> rfl
    rw [e]
    show min 10 (c 0) = c 0
    exact Nat.min_eq_right (h 0)
  | i + 1 => by
    have ih := mnc_an h i
    show min (mnc c (i + 1)) (c (i + 1)) = c (if c (i + 1) < c (an c (i + 1)) then i + 1 else an c (i + 1))
    rw [ih]
    split
    · exact Nat.min_eq_right (by omega)
    · exact Nat.min_eq_left (by omega)
theorem mnc_le (c : Nat → Nat) : ∀ i, mnc c i ≤ 10
  | 0 => Nat.le_refl _
  | i + 1 => Nat.le_trans (Nat.min_le_left _ _) (mnc_le c i)
section JQ
variable {w : Wd} {B : Nat} {L F : Wd → Prop} {g : Nat → Nat}
theorem wa_ref {u : Wd} {m : Nat} (Iu : INVx u B g) (hB : B + 99 < 2 ^ 24) (hk : ∀ u, INV u (B + 99) → L u) (hm : m ≤ g 1) {x : Int32} (hx : x = nI m) : w_X12_withAwake 245 x (fun t w2 => tlT L F 0 t.toInt64 w2) (uL u 260 0 (nI (hwc (cnt g (allS g)) m (lcS g (allS g) (g 1)))).toInt64) := by
  have hW := Iu.2.1
  have h10 := hW.1.1.2.1
  obtain ⟨J, hJ⟩ : ∃ J, J = lcS g (allS g) (g 1) := ⟨_, rfl⟩
  obtain ⟨j0, j1⟩ := lcS_le (rnd_ok (s := allS g) hW)
  rw [← hJ] at j0 j1 ⊢
  have Io := INVx_o (v := (nI (hwc (cnt g (allS g)) m J)).toInt64) Iu
  have N0 := rq_0 (val := (nI (hwc (cnt g (allS g)) m J)).toInt64) Iu
  have fin : tlT L F 0 (nI (hwc (cnt g (allS g)) m J)).toInt64 (uI (uL u 260 0 (nI (hwc (cnt g (allS g)) m J)).toInt64) 245 4 0) := rFin Iu N0 hB hk
  obtain ⟨v, hv⟩ : ∃ v, v = uI (uL u 260 0 (nI (hwc (cnt g (allS g)) m J)).toInt64) 245 4 0 := ⟨_, rfl⟩
  refine ⟨INVx_M Io, ?_⟩
  rw [← hv] at fin N0 ⊢
  have R := N0.2.1
  subst hx
  refine p_wells R (p_withinI 0 (g 1) (by decide) (by rw [i64_32, nI_toInt (by omega)]) ?_)
  rw [decide_eq_true (by rw [nI_toInt (by omega)]; omega)]
  have pj := fun (K' : Int32 → Wd → Prop) hk' => p_jointOf (K := K') hW N0 hk'
  rw [← hJ] at pj
  refine br_f (by decide) ⟨R.1.1, pj _ ⟨J + 1, ?_⟩⟩
  have go : ∀ d i, i + d = J → l_X12_withAwake_35 (fun t w2 => tlT L F 0 t.toInt64 w2) (d + 1) 245 (nI m) (nI J) (nI (hwc (cnt g (allS g)) m i)) (nI i) v := by
    intro d
    induction d with
    | zero =>
      intro i hi
      have : i = J := by omega
      subst this
      exact br_t (nI_le (Nat.le_refl _) (by omega)) fin
    | succ d ih =>
      intro i hi
      have y := ih (i + 1) (by omega)
      have u10 := set_lt hW.1 (show ups g i < 2 ^ g 1 from mk_lt _ _)
      refine br_f (nI_ge (by omega) (by omega)) ⟨R.1.1, p_upIn R hW.1 hW.2.2.1 hW.2.2.2.2 (by omega) (p_size u10 ?_)⟩
      have cl := cb_le (ups g i)
      rw [hwc_s, cnt_all] at y
      rw [nI_1, nI_1]
      by_cases e : cb (ups g i) = m
      · rw [if_pos e] at y
        exact br_t (by rw [e]) y
      · rw [if_neg e] at y
        refine br_f (fun z => e ((nI_eq (by omega) (by omega)).mp z)) ?_
        rw [show (nI (hwc (cnt g (allS g)) m i) + 0 : Int32) = nI (hwc (cnt g (allS g)) m i + 0) from nI_add _ 0]
        exact y
  exact go J 0 (by omega)
theorem jn_withAwake {x : Int32} (I : INV w B) (hB : B + 99 < 2 ^ 24) (hk : ∀ u, INV u (B + 99) → L u) {K : Int32 → Wd → Prop} (hc : ∀ r w1, isK w1 245 12 → w_X12_withAwake 245 x (fun t w2 => tlT L F r t.toInt64 w2) w1 → K r w1) : w_L_withAwake 1 6 64 x 260 K w := by
  obtain ⟨g, I⟩ := INV_x I
  have hW := I.2.1
  have h10 := hW.1.1.2.1
  obtain ⟨h, Lx, e0, k5⟩ := x_P I
  refine ⟨I.1.1.1, ⟨by decide, by decide⟩, ?_⟩
  unfold w_X11_withAwake
  have eH : wI w (wR w (wR w (wR w 64 0) 0) 0) 1 = nI (g 1) := by rw [I.1.1.2.1, e0, Lx.1.1.1.2.1]; exact Lx.1.1.1.2.2.2.1.2.1
  rw [eH]
  refine ⟨I.1.1.1, by rw [I.1.1.2.1]; exact k5, by rw [I.1.1.2.1, e0]; exact Lx.1.1.1.1, by rw [I.1.1.2.1, e0, Lx.1.1.1.2.1]; exact Lx.1.1.1.2.2.1, ⟨by decide, by decide⟩, q_within 0 (g 1) (by decide) (nI_toInt (by omega)) (fun c => ?_) (fun c N hN => ⟨rfl, ?_⟩)⟩
  · obtain ⟨m, hm⟩ : ∃ m : Nat, x.toInt = m := ⟨x.toInt.toNat, by omega⟩
    have hm1 : m ≤ g 1 := by omega
    rw [nI_v hm]
    refine ⟨I.1.1.1, by rw [w7 I]; exact I.1.2.2.1.1, rPre I (fun u hu R => ?_)⟩
    have Iu := rd_x I hu
    rw [w7 Iu]
    refine ⟨Iu.1.1.1, Iu.1.2.2.1.1, (rRd I hu).1, q_joined I hu R ⟨lcS g (allS g) (g 1) + 1, ?_⟩⟩
    have fin := INVx_out Iu (hc _ (uL u 260 0 (nI (hwc (cnt g (allS g)) m (lcS g (allS g) (g 1)))).toInt64) (INVx_M (INVx_o Iu)) (wa_ref Iu hB hk hm1 (nI_v hm)))
    obtain ⟨J, hJ⟩ : ∃ J, J = lcS g (allS g) (g 1) := ⟨_, rfl⟩
    obtain ⟨j0, j1⟩ := lcS_le (rnd_ok (s := allS g) hW)
    rw [← hJ] at j0 j1 fin ⊢
    have go : ∀ E : Int32 → Wd → Prop, E (nI (hwc (cnt g (allS g)) m J)) u → ∀ d i, i + d = J → l_X8_hoursWith_10 E (d + 1) 67 (nI m) (nI J) (nI (hwc (cnt g (allS g)) m i)) (nI i) u := by
      intro E hE d
      induction d with
      | zero =>
        intro i hi
        have : i = J := by omega
        subst this
        exact br_t (nI_le (Nat.le_refl _) (by omega)) hE
      | succ d ih =>
        intro i hi
        have y := ih (i + 1) (by omega)
        have cl := cnt_le g (allS g) i
        refine br_f (nI_ge (by omega) (by omega)) ⟨(rRd I hu).1, q_awakeIn I hu (allS_lt g) R (by omega) ?_⟩
        rw [hwc_s] at y
        rw [nI_1, nI_1]
        by_cases e : cnt g (allS g) i = m
        · rw [if_pos e] at y
          exact br_t (by rw [e]) y
        · rw [if_neg e] at y
          exact br_f (fun z => e ((nI_eq (by omega) (by omega)).mp z)) y
    exact go _ fin J 0 (by omega)
  · have J := INVx_J I hN
    have J1 := INVx_t (k := 4) (v := 0) J (by decide) (by decide) (by decide)
    have J2 := INVx_t (k := 4) (v := 1) J1 (by decide) (by decide) (by decide)
    refine hc _ _ (INVx_M J) ⟨INVx_M J, p_wells J1.2.2.2.1 (p_withinI 0 (g 1) (by decide) (by rw [i64_32, nI_toInt (by omega)]) ?_)⟩
    rw [decide_eq_false c]
    exact br_t rfl ⟨INVx_M J1, INVx_M J1, finK J2 (by decide) (fw _ _) hB hk⟩
/-- the answer of stillest -/
def stl (g : Nat → Nat) (J a : Nat) : Nat := if a = 0 then an (cnt g (allS g)) J else cnt g (allS g) (an (cnt g (allS g)) J)
theorem st_ref {u : Wd} {a : Nat} (Iu : INVx u B g) (hB : B + 99 < 2 ^ 24) (hk : ∀ u, INV u (B + 99) → L u) (ha : a ≤ 1) {x : Int32} (hx : x = nI a) : w_X12_stillest 245 x (fun t w2 => tlT L F 0 t.toInt64 w2) (uL u 260 0 (nI (stl g (lcS g (allS g) (g 1)) a)).toInt64) := by
  have hW := Iu.2.1
  obtain ⟨J, hJ⟩ : ∃ J, J = lcS g (allS g) (g 1) := ⟨_, rfl⟩
  obtain ⟨j0, j1⟩ := lcS_le (rnd_ok (s := allS g) hW)
  rw [← hJ] at j0 j1 ⊢
  have Io := INVx_o (v := (nI (stl g J a)).toInt64) Iu
  have N0 := rq_0 (val := (nI (stl g J a)).toInt64) Iu
  have fin : tlT L F 0 (nI (stl g J a)).toInt64 (uI (uL u 260 0 (nI (stl g J a)).toInt64) 245 4 0) := rFin Iu N0 hB hk
  obtain ⟨v, hv⟩ : ∃ v, v = uI (uL u 260 0 (nI (stl g J a)).toInt64) 245 4 0 := ⟨_, rfl⟩
  refine ⟨INVx_M Io, ?_⟩
  rw [← hv] at fin N0 ⊢
  have R := N0.2.1
  subst hx
  refine p_withinI 0 1 (by decide) (by decide) ?_
  rw [decide_eq_true (by rw [nI_toInt (by omega)]; omega)]
  have pj := fun (K' : Int32 → Wd → Prop) hk' => p_jointOf (K := K') hW N0 hk'
  rw [← hJ] at pj
  have u10 : ∀ i, ups g i < 1024 := fun i => set_lt hW.1 (show ups g i < 2 ^ g 1 from mk_lt _ _)
  refine br_f (by decide) ⟨R.1.1, pj _ ⟨J - 1 + 1, ?_⟩⟩
  have go : ∀ d i, i + 1 + d = J → l_X12_stillest_31 (fun t w2 => tlT L F 0 t.toInt64 w2) (d + 1) 245 (nI a) (nI J) (nI (an (cnt g (allS g)) (i + 1))) (nI (i + 1)) v := by
    intro d
    induction d with
    | zero =>
      intro i hi
      have : J = i + 1 := by omega
      subst this
      unfold stl at fin
      refine br_t (nI_le (Nat.le_refl _) (by omega)) ?_
      by_cases a0 : a = 0
      · rw [if_pos a0] at fin
        exact br_t (by rw [a0]; rfl) fin
      · rw [if_neg a0] at fin
        have al := (an_ok (cnt g (allS g)) i).1
        refine br_f (nI_ne0 (by omega) (by omega)) ⟨R.1.1, p_upIn R hW.1 hW.2.2.1 hW.2.2.2.2 (by omega) (p_size (u10 _) ?_)⟩
        rw [← cnt_all]
        exact fin
    | succ d ih =>
      intro i hi
      have y := ih (i + 1) (by omega)
      have al := (an_ok (cnt g (allS g)) i).1
      refine br_f (nI_ge (by omega) (by omega)) ⟨R.1.1, p_upIn R hW.1 hW.2.2.1 hW.2.2.2.2 (by omega) (p_size (u10 _) ⟨R.1.1, p_upIn R hW.1 hW.2.2.1 hW.2.2.2.2 (by omega) (p_size (u10 _) ?_)⟩)⟩
      rw [← cnt_all, ← cnt_all, nI_1]
      have c1 := cnt_le g (allS g) (i + 1)
      have c2 := cnt_le g (allS g) (an (cnt g (allS g)) (i + 1))
      rw [show an (cnt g (allS g)) (i + 1 + 1) = if cnt g (allS g) (i + 1) < cnt g (allS g) (an (cnt g (allS g)) (i + 1)) then i + 1 else an (cnt g (allS g)) (i + 1) from rfl] at y
      by_cases e : cnt g (allS g) (i + 1) < cnt g (allS g) (an (cnt g (allS g)) (i + 1))
      · rw [if_pos e] at y
        exact br_f (nI_ge e (by omega)) y
      · rw [if_neg e] at y
        exact br_t (nI_le (by omega) (by omega)) y
  have z := go (J - 1) 0 (by omega)
  rw [show an (cnt g (allS g)) (0 + 1) = 0 by show (if _ < _ then 0 else 0) = 0; split <;> rfl] at z
  exact z
theorem jn_stillest {x : Int32} (I : INV w B) (hB : B + 99 < 2 ^ 24) (hk : ∀ u, INV u (B + 99) → L u) {K : Int32 → Wd → Prop} (hc : ∀ r w1, isK w1 245 12 → w_X12_stillest 245 x (fun t w2 => tlT L F r t.toInt64 w2) w1 → K r w1) : w_L_stillest 1 6 64 x 260 K w := by
  obtain ⟨g, I⟩ := INV_x I
  have hW := I.2.1
  refine ⟨I.1.1.1, ⟨by decide, by decide⟩, ⟨by decide, by decide⟩, q_within 0 1 (by decide) (by decide) (fun c => ?_) (fun c N hN => ⟨rfl, ?_⟩)⟩
  · obtain ⟨a, ha⟩ : ∃ a : Nat, x.toInt = a := ⟨x.toInt.toNat, by omega⟩
    have ha1 : a ≤ 1 := by omega
    rw [nI_v ha]
    refine ⟨I.1.1.1, by rw [w7 I]; exact I.1.2.2.1.1, rPre I (fun u hu R => ?_)⟩
    have Iu := rd_x I hu
    rw [w7 Iu]
    refine ⟨Iu.1.1.1, Iu.1.2.2.1.1, (rRd I hu).1, q_joined I hu R ⟨lcS g (allS g) (g 1) + 1, ?_⟩⟩
    have fin := INVx_out Iu (hc _ (uL u 260 0 (nI (stl g (lcS g (allS g) (g 1)) a)).toInt64) (INVx_M (INVx_o Iu)) (st_ref Iu hB hk ha1 (nI_v ha)))
    obtain ⟨j0, j1⟩ := lcS_le (rnd_ok (s := allS g) hW)
    have ft : fst (cnt g (allS g)) (mnc (cnt g (allS g)) (lcS g (allS g) (g 1))) (lcS g (allS g) (g 1)) (an (cnt g (allS g)) (lcS g (allS g) (g 1))) := by
      obtain ⟨i, hi⟩ : ∃ i, lcS g (allS g) (g 1) = i + 1 := ⟨lcS g (allS g) (g 1) - 1, by omega⟩
      rw [hi]
      obtain ⟨a1, a2, a3⟩ := an_ok (cnt g (allS g)) i
      rw [mnc_an (cnt_le g (allS g))]
      exact ⟨by omega, fun j hj z => by have := a3 j hj; omega, fun _ => rfl⟩
    have fw' := fun (K' : Int32 → Wd → Prop) hk' => q_firstWith (K := K') I hu (allS_lt g) R (mnc_le _ _) ft hk'
    have lt : an (cnt g (allS g)) (lcS g (allS g) (g 1)) < lcS g (allS g) (g 1) ∧ mnc (cnt g (allS g)) (lcS g (allS g) (g 1)) = cnt g (allS g) (an (cnt g (allS g)) (lcS g (allS g) (g 1))) := by
      obtain ⟨i, hi⟩ : ∃ i, lcS g (allS g) (g 1) = i + 1 := ⟨lcS g (allS g) (g 1) - 1, by omega⟩
      rw [hi]
      exact ⟨by have := (an_ok (cnt g (allS g)) i).1; omega, mnc_an (cnt_le g (allS g)) i⟩
    rw [if_pos lt.1] at fw'
    obtain ⟨J, hJ⟩ : ∃ J, J = lcS g (allS g) (g 1) := ⟨_, rfl⟩
    rw [← hJ] at j0 j1 fin fw' lt ⊢
    have go : ∀ E : Int32 → Wd → Prop, E (nI (mnc (cnt g (allS g)) J)) u → ∀ d i, i + d = J → l_X8_fewest_10 E (d + 1) 67 (nI J) (nI (mnc (cnt g (allS g)) i)) (nI i) u := by
      intro E hE d
      induction d with
      | zero =>
        intro i hi
        have : i = J := by omega
        subst this
        exact br_t (nI_le (Nat.le_refl _) (by omega)) hE
      | succ d ih =>
        intro i hi
        have y := ih (i + 1) (by omega)
        have c1 := cnt_le g (allS g) i
        have c2 := mnc_le (cnt g (allS g)) i
        refine br_f (nI_ge (by omega) (by omega)) ⟨(rRd I hu).1, q_awakeIn I hu (allS_lt g) R (by omega) ?_⟩
        rw [show mnc (cnt g (allS g)) (i + 1) = min (mnc (cnt g (allS g)) i) (cnt g (allS g) i) from rfl] at y
        rw [nI_1]
        by_cases e : cnt g (allS g) i < mnc (cnt g (allS g)) i
        · rw [Nat.min_eq_right (by omega)] at y
          exact br_t (nI_lt e (by omega)) y
        · rw [Nat.min_eq_left (by omega)] at y
          exact br_f (nI_nlt (by omega) (by omega)) y
    refine go _ ?_ J 0 (by omega)
    rw [w7 Iu]
    unfold stl at fin
    by_cases a0 : a = 0
    · rw [if_pos a0] at fin
      exact br_t (by rw [a0]; rfl) ⟨Iu.1.1.1, Iu.1.2.2.1.1, fw' _ fin⟩
    · rw [if_neg a0] at fin
      refine br_f (nI_ne0 (by omega) (by omega)) ?_
      rw [lt.2]
      exact fin
  · have J := INVx_J I hN
    have J1 := INVx_t (k := 4) (v := 0) J (by decide) (by decide) (by decide)
    have J2 := INVx_t (k := 4) (v := 1) J1 (by decide) (by decide) (by decide)
    refine hc _ _ (INVx_M J) ⟨INVx_M J, p_withinI 0 1 (by decide) (by decide) ?_⟩
    rw [decide_eq_false c]
    exact br_t rfl ⟨INVx_M J1, INVx_M J1, finK J2 (by decide) (fw _ _) hB hk⟩
end JQ
