/-! 73: the class's lull, a look, why not, told deeds -/
theorem i32n {x : Int32} (h : 0 ≤ x.toInt) : nI x.toInt.toNat = x := by
  have := Int32.toInt_lt x
  apply Int32.toInt_inj.mp
  rw [nI_toInt (by omega)]
  omega
theorem isB_v {n : Nat} {x : Int32} (h : isB n x.toInt = true) : ∃ v, x = nI v ∧ v < n ∧ x.toInt = (v : Int) := by
  have e := of_decide_eq_true h
  exact ⟨x.toInt.toNat, (i32n e.1).symm, by omega, by omega⟩
theorem isB_vl {n : Nat} {x : Int64} (h : isB n x.toInt = true) : ∃ v, v < n ∧ x.toInt = (v : Int) := by
  have e := of_decide_eq_true h
  exact ⟨x.toInt.toNat, by omega, by omega⟩
section TD
variable {w : Wd} {d q r h : Nat} {g : Nat → Nat} {B : Nat} {v : Nat}
theorem q_putToSleep {K : Wd → Prop} (L : LA w r h g) (hW : WF g B) (hv : v < g 1) (hk : ∀ u, eqW (landT r) w u → LA u r h (lullR g v) → K u) : w_X2_putToSleep r (nI v) K w := by
  have h10 := hW.1.1.2.1
  have H := L.1.1.2.2
  have q37 := (hW.1.2.1 v hv).1
  unfold w_X2_putToSleep
  rw [L.1.1.2.1]
  refine ⟨L.1.1.1, H.1, q_upOf H (by omega) ⟨L.1.1.1, q_turnTo L hW.1 hW.2.2.1 hW.2.2.2.2 hv (p := g (37 + v)) (by omega) ?_⟩⟩
  exact hk _ (eqW_uI (Or.inr (Or.inl rfl))) (LA_P L _ (by omega))
theorem q_lookAt {K : Wd → Prop} (N : NS w q) (L : LA w r h g) (hr : r ≠ 0) (hW : WF g B) (hf : ∀ t, hT w h t ∨ landT r t → ¬ nA q t) (hk : ∀ u, eqW (nA q) w u → NP u q r g 0 → LA u r h g → K u) : w_X4_lookAt q r K w := by
  have qq : nA q q := ⟨by omega, by omega⟩
  have F : ∀ u, eqW (nA q) w u → LA u r h g := fun u e => LA_fr e hf L
  have e1 : eqW (nA q) w (uR w q 0 r) := eqW_uR qq
  have e2 : eqW (nA q) w (uI (uR w q 0 r) q 1 (nI (slp g))) := eqW_trans e1 (eqW_uI qq)
  have n0 : ∀ k, k ≠ 0 → wR (uR w q 0 r) q k = wR w q k := fun k hk' => by
    show va_up (wR w) q (va_up (wR w q) 0 r) q k = wR w q k
    rw [va_up_self, va_up_ne _ _ hk']
  have N1 : NS (uR w q 0 r) q := ⟨N.1, ⟨(n0 2 (by decide)).trans N.2.1.1, N.2.1.2⟩, ⟨(n0 3 (by decide)).trans N.2.2.1.1, N.2.2.1.2⟩, ⟨(n0 4 (by decide)).trans N.2.2.2.1.1, N.2.2.2.1.2⟩, ⟨(n0 5 (by decide)).trans N.2.2.2.2.1, N.2.2.2.2.2⟩⟩
  refine ⟨N.1, hr, L.1.1.1, q_asleepBits (F _ e1).1 hW ⟨N.1, hk _ e2 ⟨N1, ?_, ?_, fun v hv => absurd hv (Nat.not_lt_zero v)⟩ (F _ e2)⟩⟩
  · show va_up (wR w) q (va_up (wR w q) 0 r) q 0 = r
    rw [va_up_self, va_up_self]
  · rw [sI_uI, wI_sI]; exact pk_us
theorem q_everSleeps {K : Int32 → Wd → Prop} (H : HR w h g) (hh : wfH g) (hv : v < g 1) (hk : K (b2i (decide (g (37 + v) < g (27 + v)))) w) : w_X1_everSleeps h (nI v) K w := by
  have h10 := hh.1.2.1
  have q37 := (hh.2.1 v hv).1
  refine ⟨H.1, q_upOf H (by omega) ⟨H.1, q_roundOf H (by omega) ?_⟩⟩
  by_cases e : g (37 + v) < g (27 + v)
  · rw [decide_eq_true e] at hk
    exact br_f (nI_ge e (by omega)) hk
  · rw [decide_eq_false e] at hk
    exact br_t (nI_le (by omega) (by omega)) hk
theorem q_isSour {K : Int32 → Wd → Prop} (L : LR w r h g) (hW : WF g B) (hv : v < g 1) (hk : K (b2i ((g 25).testBit v)) w) : w_X2_isSour r (nI v) K w := by
  have h10 := hW.1.1.2.1
  have hso := set_lt hW.1 (show g 25 < 2 ^ g 1 from hW.2.2.1.2.1)
  unfold w_X2_isSour
  rw [L.2.1.2]
  exact ⟨L.1.1, q_has (by omega) (by omega) ⟨b2i_or _, hk⟩⟩
theorem q_whyC {K : Int32 → Wd → Prop} {x : Int32} (L : LR w r h g) (hW : WF g B) (hk : K (nI (whyC g x.toInt)) w) : w_X0_whyNotCoin r x K w := by
  have H := L.1.2.2
  unfold whyC at hk
  unfold w_X0_whyNotCoin
  rw [L.1.2.1]
  refine ⟨L.1.1, H.1, q_hasWell H hW.1 ?_⟩
  cases e : isB (g 1) x.toInt
  · rw [if_pos e] at hk
    exact br_t rfl hk
  rw [if_neg (by rw [e]; decide)] at hk
  obtain ⟨v, rfl, hv, e2⟩ := isB_v e
  rw [e2, Int.toNat_natCast] at hk
  refine br_f (by decide) ⟨L.1.1, q_isAwake L hW hv ?_⟩
  cases e3 : upb g 0 v
  · rw [if_pos e3] at hk; exact br_t rfl hk
  · rw [if_neg (by rw [e3]; decide)] at hk; exact br_f (by decide) hk
theorem q_whyL {K : Int32 → Wd → Prop} {x : Int32} (L : LR w r h g) (hW : WF g B) (hk : K (nI (whyL g x.toInt)) w) : w_X0_whyNotLull r x K w := by
  have H := L.1.2.2
  unfold whyL at hk
  unfold w_X0_whyNotLull
  rw [L.1.2.1]
  refine ⟨L.1.1, H.1, q_hasWell H hW.1 ?_⟩
  cases e : isB (g 1) x.toInt
  · rw [if_pos e] at hk
    exact br_t rfl hk
  rw [if_neg (by rw [e]; decide)] at hk
  obtain ⟨v, rfl, hv, e2⟩ := isB_v e
  rw [e2, Int.toNat_natCast] at hk
  refine br_f (by decide) ⟨L.1.1, q_isAwake L hW hv ?_⟩
  cases e3 : upb g 0 v
  · rw [if_pos e3] at hk; exact br_t rfl hk
  rw [if_neg (by rw [e3]; decide)] at hk
  have q37 := (hW.1.2.1 v hv).1
  refine br_f (by decide) ⟨L.1.1, ?_⟩
  rw [L.1.2.1]
  refine ⟨H.1, q_everSleeps H hW.1 hv ?_⟩
  by_cases e4 : g (37 + v) = g (27 + v)
  · rw [if_pos e4] at hk
    rw [decide_eq_false (by omega)]
    exact br_t rfl hk
  · rw [if_neg e4] at hk
    rw [decide_eq_true (by omega)]
    exact br_f (by decide) hk
theorem q_whyD {K : Int32 → Wd → Prop} {x y : Int32} (L : LR w r h g) (hW : WF g B) (hk : K (nI (whyD g x.toInt y.toInt)) w) : w_X0_whyNotDraw r x y K w := by
  have H := L.1.2.2
  have p1 : (1 : Int32).toInt = 1 := by decide
  have p99 : (99 : Int32).toInt = 99 := by decide
  unfold whyD at hk
  unfold w_X0_whyNotDraw
  rw [L.1.2.1]
  refine ⟨L.1.1, H.1, q_hasWell H hW.1 ?_⟩
  cases e : isB (g 1) x.toInt
  · rw [if_pos e] at hk
    exact br_t rfl hk
  rw [if_neg (by rw [e]; decide)] at hk
  obtain ⟨v, rfl, hv, e2⟩ := isB_v e
  rw [e2, Int.toNat_natCast] at hk
  refine br_f (by decide) ?_
  by_cases hy : 1 ≤ y.toInt ∧ y.toInt ≤ 99
  case neg =>
    rw [if_pos hy] at hk
    by_cases c : y.toInt < 1
    · exact br_t (by rw [fa_lt, p1]; exact c) hk
    · exact br_f (by rw [fa_lt, p1]; exact c) (br_f (by rw [fa_le, p99]; omega) hk)
  rw [if_neg (fun z => z hy)] at hk
  refine br_f (by rw [fa_lt, p1]; omega) (br_t (by rw [fa_le, p99]; omega) ⟨L.1.1, q_isAwake L hW hv ?_⟩)
  cases e3 : upb g 0 v
  · rw [if_pos e3] at hk; exact br_t rfl hk
  rw [if_neg (by rw [e3]; decide)] at hk
  refine br_f (by decide) ⟨L.1.1, q_isSour L hW hv ?_⟩
  cases e4 : (g 25).testBit v
  case true => rw [if_pos e4] at hk; exact br_f (by decide) hk
  rw [if_neg (by rw [e4]; decide)] at hk
  have h10 := hW.1.1.2.1
  have qd := hW.1.2.1 _ hv
  have q2 : g (15 + v) ≤ g (47 + v) := (hW.2.2.1.1 _ hv).2
  refine br_t rfl ⟨L.1.1, q_waterOf L (by omega) ?_⟩
  by_cases e6 : (g (15 + v) : Int) < y.toInt
  · rw [if_pos e6] at hk
    exact br_f (by rw [fa_le, nI_toInt (by omega)]; omega) hk
  · rw [if_neg e6] at hk
    exact br_t (by rw [fa_le, nI_toInt (by omega)]; omega) hk
end TD
/-- why a told deed can't be -/
def whyT (g : Nat → Nat) (x : Int) : Nat := if x = -1 ∨ x = 3000 then 0 else if 0 ≤ x ∧ x ≤ 999 then whyD g (x / 100) (x % 100) else if 2000 ≤ x ∧ x ≤ 2099 then whyL g (x - 2000) else if 2100 ≤ x ∧ x ≤ 2199 then whyC g (x - 2100) else 1
/-- a told deed is done -/
noncomputable def doR (g : Nat → Nat) (x : Int) : Nat → Nat := if x = -1 then hourR g else if x = 3000 then thunR g else if x < 1000 then drawR g (x / 100).toNat (x % 100).toNat else if x < 2100 then lullR g (x - 2000).toNat else coinR g (x - 2100).toNat
theorem whyT_0 {g : Nat → Nat} {x : Int} (h : whyT g x = 0) : x = -1 ∨ x = 3000 ∨ (∃ v n : Nat, x = 100 * v + n ∧ x < 1000 ∧ v < g 1 ∧ 1 ≤ n ∧ n ≤ 99 ∧ n ≤ g (15 + v)) ∨ (∃ v : Nat, x = 2000 + v ∧ v < 100 ∧ v < g 1) ∨ ∃ v : Nat, x = 2100 + v ∧ v < 100 ∧ v < g 1 := by
  have ib : ∀ y, ¬ isB (g 1) y = false → 0 ≤ y ∧ y < g 1 := fun y z => of_decide_eq_true (by
    cases e : isB (g 1) y
    · exact absurd e z
    · exact e)
  unfold whyT at h
  split at h
  · rename_i c
    rcases c with c | c
    · exact Or.inl c
    · exact Or.inr (Or.inl c)
  split at h
  · rename_i c1 c2
    unfold whyD at h
    split at h
    · cases h
    rename_i c3
    have c3' := ib _ c3
    split at h
    · cases h
    rename_i c4
    split at h
    · cases h
    split at h
    · cases h
    split at h
    · cases h
    rename_i c5
    exact Or.inr (Or.inr (Or.inl ⟨(x / 100).toNat, (x % 100).toNat, by omega, by omega, by omega, by omega, by omega, by omega⟩))
  split at h
  · rename_i c1 c2 c3
    unfold whyL at h
    split at h
    · cases h
    rename_i c4
    have c4' := ib _ c4
    exact Or.inr (Or.inr (Or.inr (Or.inl ⟨(x - 2000).toNat, by omega, by omega, by omega⟩)))
  split at h
  · rename_i c1 c2 c3 c4
    unfold whyC at h
    split at h
    · cases h
    rename_i c5
    have c5' := ib _ c5
    exact Or.inr (Or.inr (Or.inr (Or.inr ⟨(x - 2100).toNat, by omega, by omega, by omega⟩)))
  · cases h
theorem doR_WF {g : Nat → Nat} {B : Nat} {x : Int} (hW : WF g B) (hB : B + 1 < 2 ^ 24) (h : whyT g x = 0) : WF (doR g x) (B + 1) ∧ sameH g (doR g x) := by
  have up : ∀ g', WF g' B ∧ sameH g g' → WF g' (B + 1) ∧ sameH g g' := fun g' z => ⟨WF_st z.1 (sameH_refl _) (wfS_mono z.1.2.2.1 (by omega)) (by omega) hB, z.2⟩
  unfold doR
  rcases whyT_0 h with rfl | rfl | ⟨v, n, rfl, c, hv, c1, c2, -⟩ | ⟨v, rfl, c, hv⟩ | ⟨v, rfl, c, hv⟩
  · rw [if_pos rfl]; exact hourR_WF hW hB
  · rw [if_neg (by decide), if_pos rfl]; exact up _ (thunR_WF hW)
  · rw [if_neg (by omega), if_neg (by omega), if_pos c]; exact up _ (drawR_WF hW (by omega))
  · rw [if_neg (by omega), if_neg (by omega), if_neg (by omega), if_pos (by omega)]; exact up _ (lullR_WF hW (by omega))
  · rw [if_neg (by omega), if_neg (by omega), if_neg (by omega), if_neg (by omega)]; exact up _ (coinR_WF hW (by omega))
theorem l32i {x : Int64} {n : Nat} (h : x.toInt = n) (hn : n < 2147483648) : x.toInt32 = nI n := by
  rw [l32 (by omega) (by omega), h]
  rfl
theorem lNi {x : Int64} {n : Nat} (h : x.toInt = n) (hn : n < 2 ^ 62) : x = lN n := by
  apply Int64.toInt_inj.mp
  rw [pk_lT (by omega), h]
section TE
variable {w : Wd} {d q r h M : Nat} {g : Nat → Nat} {B : Nat}
theorem q_whyT {K : Int32 → Wd → Prop} {x : Int64} (L : LR w r h g) (hW : WF g B) (hk : K (nI (whyT g x.toInt)) w) : w_X0_whyNotTold r x K w := by
  have m1 : (-1 : Int64).toInt = -1 := by decide
  have m3 : (3000 : Int64).toInt = 3000 := by decide
  have m0 : (0 : Int64).toInt = 0 := by decide
  have m2 : (2200 : Int64).toInt = 2200 := by decide
  have eq64 : ∀ a b : Int64, a = b ↔ a.toInt = b.toInt := fun a b => fa_eq64 a b
  unfold whyT at hk
  by_cases c1 : x.toInt = -1
  · rw [if_pos (Or.inl c1)] at hk
    exact br_t ((lg_cmp_eq _ _).mpr ((eq64 _ _).mpr (by rw [m1]; exact c1))) hk
  refine br_f (fun z => c1 (by rw [(lg_cmp_eq _ _).mp z]; exact m1)) ?_
  by_cases c2 : x.toInt = 3000
  · rw [if_pos (Or.inr c2)] at hk
    exact br_t ((lg_cmp_eq _ _).mpr ((eq64 _ _).mpr (by rw [m3]; exact c2))) hk
  refine br_f (fun z => c2 (by rw [(lg_cmp_eq _ _).mp z]; exact m3)) ?_
  rw [if_neg (fun z => z.elim c1 c2)] at hk
  by_cases c3 : x.toInt < 0
  · rw [if_neg (by omega), if_neg (by omega), if_neg (by omega)] at hk
    exact br_t ((lg_cmp_lt _ _).mpr (by rw [fa_lt64, m0]; exact c3)) hk
  refine br_f (fun z => c3 (by have := (lg_cmp_lt _ _).mp z; rw [fa_lt64, m0] at this; exact this)) ?_
  by_cases c4 : x.toInt < 2200
  case neg =>
    rw [if_neg (by omega), if_neg (by omega), if_neg (by omega)] at hk
    exact br_f (fun z => c4 (by have := (lg_cmp_lt _ _).mp z; rw [fa_lt64, m2] at this; exact this)) hk
  refine br_t ((lg_cmp_lt _ _).mpr (by rw [fa_lt64, m2]; exact c4)) ?_
  obtain ⟨k, hk2⟩ : ∃ k : Nat, x.toInt = k := ⟨x.toInt.toNat, by omega⟩
  rw [l32i hk2 (by omega)]
  rw [hk2] at hk
  have hk3 : k < 2200 := by omega
  by_cases c5 : k ≤ 999
  · rw [if_pos (by omega)] at hk
    refine br_f (nI_ge (b := 1000) (by omega) (by decide)) ?_
    rw [show (nI k / 100 : Int32) = nI (k / 100) from pk_div (d := 100) (by omega) (by decide) (by decide), show x_irem (nI k) 100 = nI (k % 100) from pk_rem (d := 100) (by omega) (by decide) (by decide)]
    refine q_whyD L hW ?_
    rw [nI_toInt (by omega), nI_toInt (by omega)]
    rw [show ((k / 100 : Nat) : Int) = (k : Int) / 100 by omega, show ((k % 100 : Nat) : Int) = (k : Int) % 100 by omega]
    exact hk
  rw [if_neg (by omega)] at hk
  refine br_t (nI_le (a := 1000) (by omega) (by omega)) ?_
  by_cases c6 : k < 2000
  · rw [if_neg (by omega), if_neg (by omega)] at hk
    exact br_f (nI_ge (b := 2000) c6 (by decide)) hk
  refine br_t (nI_le (a := 2000) (by omega) (by omega)) ?_
  by_cases c7 : k < 2100
  · rw [if_pos (by omega)] at hk
    refine br_f (nI_ge (b := 2100) c7 (by decide)) ?_
    rw [show (nI k - 2000 : Int32) = nI (k - 2000) from pk_sub (b := 2000) (by omega)]
    refine q_whyL L hW ?_
    rw [nI_toInt (by omega), show ((k - 2000 : Nat) : Int) = (k : Int) - 2000 by omega]
    exact hk
  · rw [if_neg (by omega), if_pos (by omega)] at hk
    refine br_t (nI_le (a := 2100) (by omega) (by omega)) ?_
    rw [show (nI k - 2100 : Int32) = nI (k - 2100) from pk_sub (b := 2100) (by omega)]
    refine q_whyC L hW ?_
    rw [nI_toInt (by omega), show ((k - 2100 : Nat) : Int) = (k : Int) - 2100 by omega]
    exact hk
theorem within_dec {x a b : Int64} {p q : Int} (ha : a.toInt = p) (hb : b.toInt = q) : decide (a ≤ x ∧ x ≤ b) = decide (p ≤ x.toInt ∧ x.toInt ≤ q) := decide_eq_decide.mpr (by rw [fa_le64, fa_le64, ha, hb])
theorem p_whyT {K : Int32 → Wd → Prop} {x : Int64} (h : RS w M g) (hW : WF g B) (hk : K (nI (whyT g x.toInt)) w) : w_X12_whyTold M x K w := by
  have m1 : (-1 : Int64).toInt = -1 := by decide
  have m3 : (3000 : Int64).toInt = 3000 := by decide
  have eq64 : ∀ a b : Int64, a = b ↔ a.toInt = b.toInt := fun a b => fa_eq64 a b
  unfold whyT at hk
  by_cases c1 : x.toInt = -1
  · rw [if_pos (Or.inl c1)] at hk
    exact br_t ((lg_cmp_eq _ _).mpr ((eq64 _ _).mpr (by rw [m1]; exact c1))) hk
  refine br_f (fun z => c1 (by rw [(lg_cmp_eq _ _).mp z]; exact m1)) ?_
  by_cases c2 : x.toInt = 3000
  · rw [if_pos (Or.inr c2)] at hk
    exact br_t ((lg_cmp_eq _ _).mpr ((eq64 _ _).mpr (by rw [m3]; exact c2))) hk
  refine br_f (fun z => c2 (by rw [(lg_cmp_eq _ _).mp z]; exact m3)) ?_
  rw [if_neg (fun z => z.elim c1 c2)] at hk
  refine p_within ?_
  rw [within_dec (p := 0) (q := 999) (by decide) (by decide)]
  by_cases c5 : 0 ≤ x.toInt ∧ x.toInt ≤ 999
  · rw [if_pos c5] at hk
    rw [decide_eq_true c5]
    obtain ⟨k, hk2⟩ : ∃ k : Nat, x.toInt = k := ⟨x.toInt.toNat, by omega⟩
    refine br_f (by decide) ⟨h.1.1, p_whyDraw h hW ?_⟩
    rw [lNi hk2 (by omega), show (lN k / 100 : Int64) = lN (k / 100) from pk_lDiv (b := 100) (by omega) (by decide) (by decide), show x_lrem (lN k) 100 = lN (k % 100) from pk_lRem (b := 100) (by omega) (by decide) (by decide), pk_lT (by omega), pk_lT (by omega), show ((k / 100 : Nat) : Int) = (k : Int) / 100 by omega, show ((k % 100 : Nat) : Int) = (k : Int) % 100 by omega, ← hk2]
    exact hk
  rw [if_neg c5] at hk
  rw [decide_eq_false c5]
  refine br_t rfl (p_within ?_)
  rw [within_dec (p := 2000) (q := 2099) (by decide) (by decide)]
  by_cases c6 : 2000 ≤ x.toInt ∧ x.toInt ≤ 2099
  · rw [if_pos c6] at hk
    rw [decide_eq_true c6]
    obtain ⟨k, hk2⟩ : ∃ k : Nat, x.toInt = k := ⟨x.toInt.toNat, by omega⟩
    refine br_f (by decide) ⟨h.1.1, p_whyLull h hW ?_⟩
    rw [lNi hk2 (by omega), show (lN k - 2000 : Int64) = lN (k - 2000) from lN_sub (b := 2000) (by omega), pk_lT (by omega), show ((k - 2000 : Nat) : Int) = (k : Int) - 2000 by omega, ← hk2]
    exact hk
  rw [if_neg c6] at hk
  rw [decide_eq_false c6]
  refine br_t rfl (p_within ?_)
  rw [within_dec (p := 2100) (q := 2199) (by decide) (by decide)]
  by_cases c7 : 2100 ≤ x.toInt ∧ x.toInt ≤ 2199
  · rw [if_pos c7] at hk
    rw [decide_eq_true c7]
    obtain ⟨k, hk2⟩ : ∃ k : Nat, x.toInt = k := ⟨x.toInt.toNat, by omega⟩
    refine br_f (by decide) ⟨h.1.1, p_whyCoin h hW ?_⟩
    rw [lNi hk2 (by omega), show (lN k - 2100 : Int64) = lN (k - 2100) from lN_sub (b := 2100) (by omega), pk_lT (by omega), show ((k - 2100 : Nat) : Int) = (k : Int) - 2100 by omega, ← hk2]
    exact hk
  · rw [if_neg c7] at hk
    rw [decide_eq_false c7]
    exact br_t rfl hk
theorem q_carryOut {K : Wd → Prop} {x : Int64} (D : isK w d 0 ∧ wR w d 0 = q) (hd : ¬ nA q d) (N : NS w q) (L : LA w r h g) (hr : r ≠ 0) (hW : WF g B) (hB : B + 1 < 2 ^ 24) (hf : ∀ t, hT w h t ∨ landT r t → ¬ nA q t) (hx : whyT g x.toInt = 0) (hk : ∀ u, eqW (dT q r) w u → LA u r h (doR g x.toInt) → NS u q → K u) : w_X0_carryOut d r x K w := by
  have h10 := hW.1.1.2.1
  have hrq : ¬ landT r q := fun z => hf q (Or.inr z) ⟨by omega, by omega⟩
  have nl : ∀ u, eqW (landT r) w u → NS u q := fun u e => NS_fr e hrq N
  have el : ∀ u, eqW (landT r) w u → eqW (dT q r) w u := fun u e => eqW_mono (fun _ => Or.inr) e
  unfold doR at hk
  have two : ∀ k : Nat, x.toInt = k → k < 4000 → x.toInt32 = nI k := fun k e hk => l32i e (by omega)
  rcases whyT_0 hx with e | e | ⟨v, n, e, c, hv, c1, c2, c3⟩ | ⟨v, e, c, hv⟩ | ⟨v, e, c, hv⟩
  · rw [if_pos e] at hk
    have e1 : x = -1 := Int64.toInt_inj.mp e
    rw [e1]
    exact br_t (by decide) ⟨L.1.1.1, q_passHour L hW hB (fun u hu Lu => hk u (el u hu) Lu (nl u hu))⟩
  · rw [if_neg (by omega), if_pos e] at hk
    have e1 : x = 3000 := Int64.toInt_inj.mp e
    rw [e1]
    exact br_f (by decide) (br_t (by decide) ⟨D.1, q_thunderOver L hW (fun u hu Lu => hk u (el u hu) Lu (nl u hu))⟩)
  · rw [if_neg (by omega), if_neg (by omega), if_pos c, show (x.toInt / 100).toNat = v by omega, show (x.toInt % 100).toNat = n by omega] at hk
    unfold w_X0_carryOut
    rw [two (100 * v + n) (by omega) (by omega)]
    refine br_f (fun z => by have := congrArg Int32.toInt z; rw [nI_toInt (by omega)] at this; exact absurd this (by rw [show (-1 : Int32).toInt = -1 from by decide]; omega)) (br_f (fun z => by have := (nI_eq (b := 3000) (by omega) (by decide)).mp z; omega) (br_f (nI_ge (b := 1000) (by omega) (by decide)) ⟨D.1, ?_⟩))
    rw [show (nI (100 * v + n) / 100 : Int32) = nI v from (pk_div (d := 100) (by omega) (by decide) (by decide)).trans (congrArg nI (by omega)), show x_irem (nI (100 * v + n)) 100 = nI n from (pk_rem (d := 100) (by omega) (by decide) (by decide)).trans (congrArg nI (by omega))]
    exact q_drawFrom D hd N L hr hW hf hv c2 c3 (fun u hu Lu Nu => hk u hu Lu Nu)
  · rw [if_neg (by omega), if_neg (by omega), if_neg (by omega), if_pos (by omega), show (x.toInt - 2000).toNat = v by omega] at hk
    unfold w_X0_carryOut
    rw [two (2000 + v) (by omega) (by omega)]
    refine br_f (fun z => by have := congrArg Int32.toInt z; rw [nI_toInt (by omega)] at this; exact absurd this (by rw [show (-1 : Int32).toInt = -1 from by decide]; omega)) (br_f (fun z => by have := (nI_eq (b := 3000) (by omega) (by decide)).mp z; omega) (br_t (nI_le (a := 1000) (by omega) (by omega)) (br_f (nI_ge (b := 2100) (by omega) (by decide)) ⟨L.1.1.1, ?_⟩)))
    rw [show (nI (2000 + v) - 2000 : Int32) = nI v from (pk_sub (b := 2000) (by omega)).trans (congrArg nI (by omega))]
    exact q_putToSleep L hW hv (fun u hu Lu => hk u (el u hu) Lu (nl u hu))
  · rw [if_neg (by omega), if_neg (by omega), if_neg (by omega), if_neg (by omega), show (x.toInt - 2100).toNat = v by omega] at hk
    unfold w_X0_carryOut
    rw [two (2100 + v) (by omega) (by omega)]
    refine br_f (fun z => by have := congrArg Int32.toInt z; rw [nI_toInt (by omega)] at this; exact absurd this (by rw [show (-1 : Int32).toInt = -1 from by decide]; omega)) (br_f (fun z => by have := (nI_eq (b := 3000) (by omega) (by decide)).mp z; omega) (br_t (nI_le (a := 1000) (by omega) (by omega)) (br_t (nI_le (a := 2100) (by omega) (by omega)) ⟨D.1, ?_⟩)))
    rw [show (nI (2100 + v) - 2100 : Int32) = nI v from (pk_sub (b := 2100) (by omega)).trans (congrArg nI (by omega))]
    exact q_coinInto D hd N L hr hW hf hv (fun u hu Lu Nu => hk u hu Lu Nu)
theorem p_does {K : Wd → Prop} {x : Int64} (h : RS w M g) (hW : WF g B) (hB : B + 1 < 2 ^ 24) (hx : whyT g x.toInt = 0) (hk : ∀ u, eqW (refT M) w u → RS u M (doR g x.toInt) → K u) : w_X12_does M x.toInt32 K w := by
  have h10 := hW.1.1.2.1
  unfold doR at hk
  have two : ∀ k : Nat, x.toInt = k → k < 4000 → x.toInt32 = nI k := fun k e hk => l32i e (by omega)
  rcases whyT_0 hx with e | e | ⟨v, n, e, c, hv, c1, c2, c3⟩ | ⟨v, e, c, hv⟩ | ⟨v, e, c, hv⟩
  · rw [if_pos e] at hk
    have e1 : x = -1 := Int64.toInt_inj.mp e
    rw [e1]
    exact br_t (by decide) ⟨h.1.1, p_hour h hW hB hk⟩
  · rw [if_neg (by omega), if_pos e] at hk
    have e1 : x = 3000 := Int64.toInt_inj.mp e
    rw [e1]
    exact br_f (by decide) (br_t (by decide) (br_t (by decide) (br_t (by decide) ⟨h.1.1, p_thunders h hW hk⟩)))
  · rw [if_neg (by omega), if_neg (by omega), if_pos c, show (x.toInt / 100).toNat = v by omega, show (x.toInt % 100).toNat = n by omega] at hk
    rw [two (100 * v + n) (by omega) (by omega)]
    refine br_f (fun z => by have := congrArg Int32.toInt z; rw [nI_toInt (by omega)] at this; exact absurd this (by rw [show (-1 : Int32).toInt = -1 from by decide]; omega)) (br_f (nI_ge (b := 1000) (by omega) (by decide)) ⟨h.1.1, ?_⟩)
    rw [show (nI (100 * v + n) / 100 : Int32) = nI v from (pk_div (d := 100) (by omega) (by decide) (by decide)).trans (congrArg nI (by omega)), show x_irem (nI (100 * v + n)) 100 = nI n from (pk_rem (d := 100) (by omega) (by decide) (by decide)).trans (congrArg nI (by omega))]
    exact p_draws h hW hv c2 c3 hk
  · rw [if_neg (by omega), if_neg (by omega), if_neg (by omega), if_pos (by omega), show (x.toInt - 2000).toNat = v by omega] at hk
    rw [two (2000 + v) (by omega) (by omega)]
    refine br_f (fun z => by have := congrArg Int32.toInt z; rw [nI_toInt (by omega)] at this; exact absurd this (by rw [show (-1 : Int32).toInt = -1 from by decide]; omega)) (br_t (nI_le (a := 1000) (by omega) (by omega)) (br_f (nI_ge (b := 2100) (by omega) (by decide)) ⟨h.1.1, ?_⟩))
    obtain ⟨a1, a2, a3⟩ := p_rd (k := 37 + v) h (by omega) (P := fun z => z = nI (g (37 + v))) rfl
    have q37 := (hW.1.2.1 v hv).1
    rw [show (nI (2000 + v) - 2000 : Int32) = nI v from (pk_sub (b := 2000) (by omega)).trans (congrArg nI (by omega)), show ((37 + nI (2000 + v)) - 2000 : Int32) = nI (37 + v) by rw [show (37 + nI (2000 + v) : Int32) = nI (37 + (2000 + v)) from nI_add 37 _]; exact (pk_sub (b := 2000) (by omega)).trans (congrArg nI (by omega))]
    refine ⟨a1, a2, ?_⟩
    rw [a3]
    exact p_shiftsTo h hW.1 hW.2.2.1 hW.2.2.2.2 hv (by omega) (hk _ (eqW_uI (rT1 M)) (RS_wr h _ _))
  · rw [if_neg (by omega), if_neg (by omega), if_neg (by omega), if_neg (by omega), show (x.toInt - 2100).toNat = v by omega] at hk
    rw [two (2100 + v) (by omega) (by omega)]
    refine br_f (fun z => by have := congrArg Int32.toInt z; rw [nI_toInt (by omega)] at this; exact absurd this (by rw [show (-1 : Int32).toInt = -1 from by decide]; omega)) (br_t (nI_le (a := 1000) (by omega) (by omega)) (br_t (nI_le (a := 2100) (by omega) (by omega)) (br_f (nI_ge (b := 3000) (by omega) (by decide)) ⟨h.1.1, ?_⟩)))
    rw [show (nI (2100 + v) - 2100 : Int32) = nI v from (pk_sub (b := 2100) (by omega)).trans (congrArg nI (by omega))]
    exact p_coins h hW hv hk
end TE
