/-! 93: calls: joint, together, withAwake, stillest -/
theorem p_commonG {K : Int32 → Wd → Prop} {w : Wd} : ∀ n b a, b < n → a < 2 ^ 31 → b < 2 ^ 31 → K (nI (Nat.gcd b a)) w → wG_X12_common n 0 (nI a) (nI b) K w
  | 0, b, a, h, _, _, _ => absurd h (Nat.not_lt_zero b)
  | n + 1, b, a, h, ha, hb, hk => by
    show b_X12_common (wG_X12_common n) (nI a) (nI b) K w
    by_cases b0 : b = 0
    · subst b0
      rw [Nat.gcd_zero_left] at hk
      exact br_t rfl hk
    · have lt := Nat.mod_lt a (show 0 < b by omega)
      refine br_f (nI_ne0 (by omega) hb) ⟨nI_ne0 (by omega) hb, ?_⟩
      rw [show x_irem (nI a) (nI b) = nI (a % b) from pk_rem ha (by omega) hb]
      refine p_commonG n (a % b) b (by omega) hb (by omega) ?_
      rw [Nat.gcd_rec] at hk
      exact hk
theorem lcm_div {L r : Nat} (h : 0 < r) : L / Nat.gcd r L * r = Nat.lcm L r := by
  have g0 : 0 < Nat.gcd r L := Nat.gcd_pos_of_pos_left L h
  obtain ⟨q, hq⟩ := Nat.gcd_dvd_right r L
  unfold Nat.lcm
  rw [Nat.gcd_comm L r]
  obtain ⟨d, hd⟩ : ∃ d, d = Nat.gcd r L := ⟨_, rfl⟩
  rw [← hd] at g0 hq ⊢
  rw [hq, Nat.mul_div_cancel_left q g0, Nat.mul_assoc, Nat.mul_div_cancel_left _ g0]
theorem allS_bit (g : Nat → Nat) (v : Nat) : (allS g).testBit v = decide (v < g 1) := by unfold allS; rw [Nat.testBit_two_pow_sub_one]
theorem allS_lt (g : Nat → Nat) : allS g < 2 ^ g 1 := by have := Nat.two_pow_pos (g 1); unfold allS; omega
theorem lcS_le {g : Nat → Nat} {s i : Nat} (h : ∀ v, v < i → s.testBit v = true → 2 ≤ g (27 + v) ∧ g (27 + v) ≤ 12) : 0 < lcS g s i ∧ lcS g s i ≤ 27720 := by
  obtain ⟨⟨a1, a2, a3⟩, a4, a5, a6⟩ := pS_ok i h
  rw [← a6]
  have e1 : (pS g s i).1 * (pS g s i).2.1 ≤ 360 * 7 := Nat.mul_le_mul (by omega) (by omega)
  have e2 : (pS g s i).1 * (pS g s i).2.1 * (pS g s i).2.2 ≤ 360 * 7 * 11 := Nat.mul_le_mul e1 (by omega)
  exact ⟨Nat.mul_pos (Nat.mul_pos a1 (by omega)) (by omega), e2⟩
theorem lcS_dvd {g : Nat → Nat} {s : Nat} : ∀ i, i ≤ g 1 → lcS g s i ∣ lcS g (allS g) i
  | 0, _ => Nat.dvd_refl _
  | i + 1, h => by
    have ih := lcS_dvd (g := g) (s := s) i (by omega)
    unfold lcS
    rw [if_pos (show (allS g).testBit i = true by rw [allS_bit]; exact decide_eq_true (by omega))]
    split
    · exact Nat.lcm_dvd (Nat.dvd_trans ih (Nat.dvd_lcm_left _ _)) (Nat.dvd_lcm_right _ _)
    · exact Nat.dvd_trans ih (Nat.dvd_lcm_left _ _)
theorem lcS_r {g : Nat → Nat} {s : Nat} : ∀ i v, v < i → s.testBit v = true → g (27 + v) ∣ lcS g s i
  | i + 1, v, hv, hs => by
    unfold lcS
    by_cases e : v = i
    · subst e; rw [if_pos hs]; exact Nat.dvd_lcm_right _ _
    · have ih := lcS_r (g := g) i v (by omega) hs
      split
      · exact Nat.dvd_trans ih (Nat.dvd_lcm_left _ _)
      · exact ih
theorem cnt_per {g : Nat → Nat} {s t : Nat} (hs : s < 2 ^ g 1) : cnt g s (t % lcS g s (g 1)) = cnt g s t := by
  unfold cnt cb
  refine fb_ct_cong (fun k _ => ?_)
  rw [Nat.testBit_and, Nat.testBit_and]
  cases e : s.testBit k
  · rfl
  · have hk : k < g 1 := Classical.byContradiction fun z => by
      rw [Nat.testBit_lt_two_pow (Nat.lt_of_lt_of_le hs (Nat.pow_le_pow_right (by decide) (by omega)))] at e
      cases e
    unfold ups
    rw [mk_bit, mk_bit, upb_per (lcS_r (g 1) k hk e)]
theorem cnt_all {g : Nat → Nat} (t : Nat) : cnt g (allS g) t = cb (ups g t) := by
  unfold cnt
  rw [show allS g &&& ups g t = ups g t from and_sub.mpr (dif_0.mpr (fun k hk => by
    rw [allS_bit]
    unfold ups at hk
    rw [mk_bit] at hk
    simp at hk
    exact decide_eq_true hk.1))]
theorem cnt_le (g : Nat → Nat) (s t : Nat) : cnt g s t ≤ 10 := cb_le _
theorem cnt_full {g : Nat → Nat} {s t : Nat} (hs : s < 1024) : cnt g s t = cb s ↔ ups g t &&& s = s := by
  unfold cnt
  rw [Nat.and_comm]
  constructor
  · intro h
    rw [and_sub]
    apply Classical.byContradiction
    intro z
    have e : dif s (ups g t) < 1024 := dif_lt (n := 10) hs
    have y := cb_grow (s := ups g t &&& s) e z (fun b hb => by
      rw [Nat.testBit_and] at hb
      rw [dif_bit]
      simp at hb
      rw [hb.1]
      simp)
    rw [show (ups g t &&& s) ||| dif s (ups g t) = s by
      apply Nat.eq_of_testBit_eq
      intro k
      rw [Nat.testBit_or, Nat.testBit_and, dif_bit]
      cases s.testBit k <;> cases (ups g t).testBit k <;> rfl] at y
    omega
  · intro h
    rw [h]
theorem cb_z {x : Nat} (hx : x < 1024) : cb x = 0 ↔ x = 0 := by
  constructor
  · intro h
    refine mk_ext (n := 10) hx (by decide) (fun k hk => ?_)
    rw [Nat.zero_testBit]
    exact fb_ct_zero.mp h k hk
  · intro h
    subst h
    decide
theorem set_of {x : Int32} {m : Nat} (hm : m < 1024) (h : x &&& (nI m ^^^ (-1)) = 0) : ∃ s, x = nI s ∧ dif s m = 0 := by
  obtain ⟨X, hX⟩ : ∃ X, X = x.toBitVec.toNat := ⟨_, rfl⟩
  have lt : X < 2 ^ 32 := by rw [hX]; exact x.toBitVec.isLt
  have e : x = nI X := by
    apply Int32.toBitVec_inj.mp
    apply BitVec.eq_of_toNat_eq
    rw [pk_tn lt, hX]
  refine ⟨X, e, ?_⟩
  rw [e, p_dif] at h
  have l2 : dif X m < 2 ^ 32 := dif_lt lt
  have z : (nI (dif X m)).toBitVec.toNat = (0 : Int32).toBitVec.toNat := by rw [h]
  rw [pk_tn l2] at z
  exact z
/-- the first hour below J in which so many are awake -/
def fst (c : Nat → Nat) (m J k : Nat) : Prop := k ≤ J ∧ (∀ j, j < k → c j ≠ m) ∧ (k < J → c k = m)
theorem fst_ex (c : Nat → Nat) (m J : Nat) : ∃ k, fst c m J k := by
  obtain ⟨k, k1, k2, k3⟩ := jd_ex (fun t => if c t = m then 1 else 0) J
  refine ⟨k, k1, fun j hj z => ?_, fun h => Classical.byContradiction fun z => k3 h (show (if c k = m then 1 else 0) = 0 by rw [if_neg z])⟩
  have : (if c j = m then 1 else 0) = 0 := k2 j hj
  rw [if_pos z] at this
  cases this
section JR
variable {w : Wd} {B : Nat} {L F : Wd → Prop} {g : Nat → Nat} {s : Nat}
theorem p_jointOf {u z : Wd} {K : Int32 → Wd → Prop} (hW : WF g B) (N : rq u z g) (hk : K (nI (lcS g (allS g) (g 1))) z) : w_X12_jointOf 245 K z := by
  have h10 := hW.1.1.2.1
  have R := N.2.1
  have go : ∀ d i, i + d = g 1 → l_X12_jointOf_4 K (d + 1) 245 (nI (lcS g (allS g) i)) (nI i) z := by
    intro d
    induction d with
    | zero =>
      intro i hi
      have : i = g 1 := by omega
      subst this
      exact ⟨R.1.1, p_wells R (br_t (nI_le (Nat.le_refl _) (by omega)) hk)⟩
    | succ d ih =>
      intro i hi
      obtain ⟨⟨r1, r2, -, -⟩, -⟩ := hW.1.2.1 i (by omega)
      obtain ⟨l0, l1⟩ := lcS_le (g := g) (s := allS g) (i := i) (fun v hv _ => rnd_ok (s := allS g) hW v (by omega) (by rw [allS_bit]; exact decide_eq_true (by omega)))
      obtain ⟨a1, a2, a3⟩ := p_rd (k := 27 + i) R (by omega) (P := fun q => q = nI (g (27 + i))) rfl
      rw [show nI (27 + i) = 27 + nI i from (nI_add 27 i).symm] at a2 a3
      have gp : 0 < Nat.gcd (g (27 + i)) (lcS g (allS g) i) := Nat.gcd_pos_of_pos_left _ (by omega)
      have gl : Nat.gcd (g (27 + i)) (lcS g (allS g) i) ≤ g (27 + i) := Nat.gcd_le_left _ (by omega)
      refine ⟨R.1.1, p_wells R (br_f (nI_ge (by omega) (by omega)) ⟨R.1.1, a1, a2, ?_⟩)⟩
      rw [a3]
      refine ⟨g (27 + i) + 1, by omega, p_commonG _ _ _ (by omega) (by omega) (by omega) ⟨nI_ne0 gp (by omega), R.1.1, a1, a2, ?_⟩⟩
      rw [a3, show nI (lcS g (allS g) i) / nI (Nat.gcd (g (27 + i)) (lcS g (allS g) i)) = nI (lcS g (allS g) i / Nat.gcd (g (27 + i)) (lcS g (allS g) i)) from pk_div (by omega) gp (by omega), pk_mul, lcm_div (by omega), nI_1]
      have y := ih (i + 1) (by omega)
      rw [show lcS g (allS g) (i + 1) = Nat.lcm (lcS g (allS g) i) (g (27 + i)) by show (if (allS g).testBit i = true then _ else _) = _; rw [if_pos (by rw [allS_bit]; exact decide_eq_true (by omega))]] at y
      exact y
  exact ⟨g 1 + 1, go (g 1) 0 (by omega)⟩
theorem q_firstWith {u : Wd} {m k : Nat} {K : Int32 → Wd → Prop} (I : INVx w B g) (hu : rd w u) (hs : s < 2 ^ g 1) (R : RD u g s) (hm : m ≤ 10) (hf : fst (cnt g s) m (lcS g s (g 1)) k) (hk : K (if k < lcS g s (g 1) then nI k else -1) u) : w_X8_firstWith 67 (nI m) K u := by
  have hW := I.2.1
  obtain ⟨l0, l1⟩ := lcS_le (rnd_ok (s := s) hW)
  obtain ⟨f1, f2, f3⟩ := hf
  refine ⟨(rRd I hu).1, q_joined I hu R ⟨k + 1, ?_⟩⟩
  have go : ∀ d i, i + d = k → l_X8_firstWith_7 K (d + 1) 67 (nI m) (nI (lcS g s (g 1))) (nI i) u := by
    intro d
    induction d with
    | zero =>
      intro i hi
      have : i = k := by omega
      subst this
      have := cnt_le g s i
      by_cases c : i < lcS g s (g 1)
      · rw [if_pos c] at hk
        exact br_f (nI_ge c (by omega)) ⟨(rRd I hu).1, q_awakeIn I hu hs R (by omega) (br_t (by rw [f3 c]) hk)⟩
      · rw [if_neg c] at hk
        exact br_t (nI_le (by omega) (by omega)) hk
    | succ d ih =>
      intro i hi
      have := cnt_le g s i
      refine br_f (nI_ge (by omega) (by omega)) ⟨(rRd I hu).1, q_awakeIn I hu hs R (by omega) (br_f (fun z => f2 i (by omega) ((nI_eq (by omega) (by omega)).mp z)) ?_)⟩
      rw [nI_1]
      exact ih (i + 1) (by omega)
  exact go k 0 (by omega)
theorem rPre {K : Wd → Prop} (I : INVx w B g) (hk : ∀ u, rd w u → RD u g (allS g) → K u) : isK w (wR w 64 0) 5 ∧ isK w (wR w (wR w 64 0) 0) 2 ∧ isK w (wR w (wR w (wR w 64 0) 0) 0) 1 ∧ w_X1_allWells (wR w (wR w (wR w 64 0) 0) 0) (fun r6 w7 => isK w7 (wR w 64 7) 8 ∧ w_X8_over (wR w 64 7) (wR w (wR w 64 0) 0) r6 K w7) w := by
  obtain ⟨h, Lx, e0, k5⟩ := x_P I
  rw [I.1.1.2.1, e0, Lx.1.1.1.2.1, I.1.1.2.2.2.2.2.2.2.2.1]
  exact ⟨k5, Lx.1.1.1.1, Lx.1.1.1.2.2.1, q_allWells Lx.1.1.1.2.2 I.2.1.1 ⟨I.1.2.2.1.1, q_rover I (allS_lt g) hk⟩⟩
theorem w7 (I : INVx w B g) : wR w 64 7 = 67 := I.1.1.2.2.2.2.2.2.2.2.1
theorem jn_joint (I : INV w B) (hB : B + 99 < 2 ^ 24) (hk : ∀ u, INV u (B + 99) → L u) {K : Int32 → Wd → Prop} (hc : ∀ r w1, isK w1 245 12 → w_X12_joint 245 (fun t w2 => (r = t → L w2) ∧ (¬ r = t → F w2)) w1 → K r w1) : w_X11_joint 64 K w := by
  obtain ⟨g, I⟩ := INV_x I
  refine ⟨I.1.1.1, by rw [w7 I]; exact I.1.2.2.1.1, rPre I (fun u hu R => ?_)⟩
  have Iu := rd_x I hu
  rw [w7 Iu]
  refine ⟨Iu.1.1.1, Iu.1.2.2.1.1, q_joined I hu R (hc _ u (INVx_M Iu) ⟨INVx_M Iu, ?_⟩)⟩
  have J1 := INVx_t (k := 4) (v := 0) Iu (by decide) (by decide) (by decide)
  have N0 : rq u (uI u 245 4 0) g := ⟨stR_uI Iu.1 (by decide) (by decide) (by decide), J1.2.2.2.1, fw _ _⟩
  exact p_jointOf I.2.1 N0 (br_t rfl (hk _ (x_INV J1 (by omega) hB)))
theorem tg_ref {u : Wd} {b ans : Int32} {m k' : Nat} (Iu : INVx u B g) (hB : B + 99 < 2 ^ 24) (hk : ∀ u, INV u (B + 99) → L u) (s10 : s < 1024) (c : nI s &&& (nI (allS g) ^^^ (-1)) = 0) (hm : m = if b = 0 then 0 else cb s) (g1 : fst (cnt g s) m (lcS g (allS g) (g 1)) k') (g2 : ans = if k' < lcS g (allS g) (g 1) then nI k' else -1) : w_X12_together 245 (nI s) b (fun t w2 => tlT L F 0 t.toInt64 w2) (uL u 260 0 ans.toInt64) := by
  have hW := Iu.2.1
  have Io := INVx_o (v := ans.toInt64) Iu
  have N0 := rq_0 (val := ans.toInt64) Iu
  obtain ⟨j0, j1⟩ := lcS_le (rnd_ok (s := allS g) hW)
  refine ⟨INVx_M Io, p_allWells N0.2.1 hW.1 (br_t c ⟨N0.2.1.1.1, p_jointOf hW N0 ⟨k' + 1, ?_⟩⟩)⟩
  obtain ⟨h1, h2, h3⟩ := g1
  obtain ⟨J, hJ⟩ : ∃ J, J = lcS g (allS g) (g 1) := ⟨_, rfl⟩
  rw [← hJ] at j0 j1 h1 h3 g2 ⊢
  have cmp : ∀ i, cnt g s i = m ↔ (if b = 0 then nI (ups g i &&& s) = 0 else nI (ups g i &&& s) = nI s) := fun i => by
    have lt : ups g i &&& s < 1024 := Nat.lt_of_le_of_lt Nat.and_le_right s10
    by_cases b0 : b = 0
    · rw [if_pos b0, hm, if_pos b0]
      unfold cnt
      rw [Nat.and_comm, cb_z lt]
      exact ⟨fun z => by rw [z]; rfl, fun z => (nI_eq (b := 0) (by omega) (by decide)).mp z⟩
    · rw [if_neg b0, hm, if_neg b0, cnt_full s10]
      exact ⟨fun z => by rw [z], fun z => (nI_eq (by omega) (by omega)).mp z⟩
  have fin : tlT L F 0 ans.toInt64 (uI (uL u 260 0 ans.toInt64) 245 4 0) := rFin Iu N0 hB hk
  obtain ⟨v, hv⟩ : ∃ v, v = uI (uL u 260 0 ans.toInt64) 245 4 0 := ⟨_, rfl⟩
  have R : RS v 245 g := by rw [hv]; exact N0.2.1
  rw [← hv] at fin ⊢
  have go : ∀ d i, i + d = k' → l_X12_together_30 (fun t w2 => tlT L F 0 t.toInt64 w2) (d + 1) 245 (nI s) b (nI J) (nI i) v := by
    intro d
    induction d with
    | zero =>
      intro i hi
      have : i = k' := by omega
      subst this
      by_cases q : i < J
      · rw [g2, if_pos q] at fin
        have cm := (cmp i).mp (h3 q)
        refine br_f (nI_ge q (by omega)) ⟨R.1.1, p_upIn R hW.1 hW.2.2.1 hW.2.2.2.2 (by omega) ?_⟩
        rw [fa_and]
        by_cases b0 : b = 0
        · rw [if_pos b0] at cm
          exact br_t b0 (br_t cm fin)
        · rw [if_neg b0] at cm
          exact br_f b0 (br_t cm fin)
      · rw [g2, if_neg q] at fin
        exact br_t (nI_le (by omega) (by omega)) fin
    | succ d ih =>
      intro i hi
      have cm : ¬ _ := fun z => h2 i (by omega) ((cmp i).mpr z)
      refine br_f (nI_ge (by omega) (by omega)) ⟨R.1.1, p_upIn R hW.1 hW.2.2.1 hW.2.2.2.2 (by omega) ?_⟩
      rw [fa_and, nI_1]
      by_cases b0 : b = 0
      · rw [if_pos b0] at cm
        exact br_t b0 (br_f cm (ih (i + 1) (by omega)))
      · rw [if_neg b0] at cm
        exact br_f b0 (br_f cm (ih (i + 1) (by omega)))
  exact go k' 0 (by omega)
theorem jn_together {x b : Int32} (I : INV w B) (hB : B + 99 < 2 ^ 24) (hk : ∀ u, INV u (B + 99) → L u) {K : Int32 → Wd → Prop} (hc : ∀ r w1, isK w1 245 12 → w_X12_together 245 x b (fun t w2 => tlT L F r t.toInt64 w2) w1 → K r w1) : w_L_together 1 6 64 x b 260 K w := by
  obtain ⟨g, I⟩ := INV_x I
  have hW := I.2.1
  have a10 := set_lt hW.1 (allS_lt g)
  obtain ⟨h, Lx, e0, k5⟩ := x_P I
  refine ⟨I.1.1.1, ⟨by decide, by decide⟩, I.1.1.1, ⟨by decide, by decide⟩, ?_⟩
  unfold w_X11_needSet
  rw [I.1.1.2.1, e0, Lx.1.1.1.2.1]
  refine ⟨I.1.1.1, k5, Lx.1.1.1.1, Lx.1.1.1.2.2.1, q_allWells Lx.1.1.1.2.2 hW.1 ⟨fun c => ?_, fun c => ⟨⟨by decide, by decide⟩, fun N hN => ⟨rfl, ?_⟩⟩⟩⟩
  · obtain ⟨s, rfl, hs0⟩ := set_of a10 c
    have hs : s < 2 ^ g 1 := Nat.lt_of_le_of_lt (sub_le hs0) (allS_lt g)
    have s10 := set_lt hW.1 hs
    obtain ⟨l0, l1⟩ := lcS_le (rnd_ok (s := s) hW)
    obtain ⟨j0, j1⟩ := lcS_le (rnd_ok (s := allS g) hW)
    have cs := cb_le s
    obtain ⟨m, hm⟩ : ∃ m, m = if b = 0 then 0 else cb s := ⟨_, rfl⟩
    have hm10 : m ≤ 10 := by rw [hm]; split <;> omega
    obtain ⟨k, hf⟩ := fst_ex (cnt g s) m (lcS g s (g 1))
    obtain ⟨f1, f2, f3⟩ := hf
    obtain ⟨ans, hans⟩ : ∃ ans : Int32, ans = if k < lcS g s (g 1) then nI k else -1 := ⟨_, rfl⟩
    have le1 : lcS g s (g 1) ≤ lcS g (allS g) (g 1) := Nat.le_of_dvd j0 (lcS_dvd (g 1) (Nat.le_refl _))
    -- the reference finds the same
    obtain ⟨k', hf'⟩ : ∃ k', k' = if k < lcS g s (g 1) then k else lcS g (allS g) (g 1) := ⟨_, rfl⟩
    have g1 : fst (cnt g s) m (lcS g (allS g) (g 1)) k' := by
      by_cases q : k < lcS g s (g 1)
      · rw [hf', if_pos q]
        exact ⟨by omega, f2, fun _ => f3 q⟩
      · rw [hf', if_neg q]
        have kk : k = lcS g s (g 1) := by omega
        refine ⟨Nat.le_refl _, fun j _ z => ?_, fun z => absurd z (Nat.lt_irrefl _)⟩
        rw [← cnt_per hs] at z
        exact f2 _ (by rw [kk]; exact Nat.mod_lt _ l0) z
    have g2 : ans = if k' < lcS g (allS g) (g 1) then nI k' else -1 := by
      by_cases q : k < lcS g s (g 1)
      · rw [hans, hf', if_pos q, if_pos q, if_pos (by omega)]
      · rw [hans, hf', if_neg q, if_neg q, if_neg (Nat.lt_irrefl _)]
    rw [w7 I, I.1.1.2.1, e0]
    refine ⟨I.1.1.1, I.1.2.2.1.1, k5, Lx.1.1.1.1, q_rover I hs (fun u hu R => ?_)⟩
    have Iu := rd_x I hu
    rw [w7 Iu]
    have fin : isK u 260 21 ∧ vp_in 0 (wn u 260) ∧ K 0 (uL u 260 (0 : Int32).toNatClampNeg ans.toInt64) := INVx_out Iu (hc _ (uL u 260 0 ans.toInt64) (INVx_M (INVx_o Iu)) (tg_ref Iu hB hk s10 c hm g1 g2))
    refine ⟨Iu.1.1.1, Iu.1.2.2.1.1, ?_⟩
    by_cases b0 : b = 0
    · rw [if_pos b0] at hm
      subst hm
      exact br_t b0 (q_firstWith (m := 0) I hu hs R (by decide) ⟨f1, f2, f3⟩ (by rw [← hans]; exact fin))
    · rw [if_neg b0] at hm
      subst hm
      exact br_f b0 (p_bitCount s10 ⟨Iu.1.2.2.1.1, q_firstWith I hu hs R hm10 ⟨f1, f2, f3⟩ (by rw [← hans]; exact fin)⟩)
  · have J := INVx_J I hN
    have J1 := INVx_t (k := 4) (v := 0) J (by decide) (by decide) (by decide)
    have J2 := INVx_t (k := 4) (v := 1) J1 (by decide) (by decide) (by decide)
    exact hc _ _ (INVx_M J) ⟨INVx_M J, p_allWells J1.2.2.2.1 hW.1 (br_f c ⟨INVx_M J1, INVx_M J1, finK J2 (by decide) (fw _ _) hB hk⟩)⟩
end JR
