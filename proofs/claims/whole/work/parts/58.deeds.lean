/-! 58: draws, coins, thunder, why not -/
def dif (a b : Nat) : Nat := a ^^^ (a &&& b)
theorem dif_bit (a b k : Nat) : (dif a b).testBit k = (a.testBit k && !b.testBit k) := by
  unfold dif
  rw [Nat.testBit_xor, Nat.testBit_and]
  cases a.testBit k <;> cases b.testBit k <;> rfl
theorem dif_lt {a b n : Nat} (h : a < 2 ^ n) : dif a b < 2 ^ n := Nat.xor_lt_two_pow h (Nat.lt_of_le_of_lt Nat.and_le_left h)
theorem p_dif (a b : Nat) : nI a &&& (nI b ^^^ (-1)) = nI (dif a b) := by
  have e : ∀ x y : Int32, x &&& (y ^^^ (-1)) = x ^^^ (x &&& y) := fun x y => by
    apply b_ext
    intro i hi
    rw [b_and, b_xor, b_m1 i hi, b_xor, b_and]
    cases bt x i <;> cases bt y i <;> rfl
  rw [e, fa_and, nx_xor]
  rfl
def allS (g : Nat → Nat) : Nat := 2 ^ g 1 - 1
theorem p_allWells {w : Wd} {M : Nat} {g : Nat → Nat} (h : RS w M g) (hh : wfH g) {K : Int32 → Wd → Prop} (hk : K (nI (allS g)) w) : w_X12_allWells M K w := by
  have h10 := hh.1.2.1
  refine ⟨h.1.1, p_wells h ?_⟩
  rw [p_one (by omega), show (nI (2 ^ g 1) - 1 : Int32) = nI (2 ^ g 1 - 1) from pk_sub (b := 1) (Nat.two_pow_pos _)]
  exact hk
/-- the sleepers -/
def slp (g : Nat → Nat) : Nat := dif (allS g) (ups g 0)
theorem slp_lt (g : Nat → Nat) : slp g < 2 ^ g 1 := dif_lt (show 2 ^ g 1 - 1 < 2 ^ g 1 by have := Nat.two_pow_pos (g 1); omega)
theorem slp_bit (g : Nat → Nat) (k : Nat) : (slp g).testBit k = (decide (k < g 1) && !upb g 0 k) := by
  unfold slp allS ups
  rw [dif_bit, mk_bit, Nat.testBit_two_pow_sub_one]
  cases decide (k < g 1) <;> simp
noncomputable def drawR (g : Nat → Nat) (v n : Nat) : Nat → Nat := wakeR (upN g (15 + v) (g (15 + v) - n)) (clo g v n 0)
noncomputable def coinR (g : Nat → Nat) (v : Nat) : Nat → Nat := wakeR (upN g (5 + v) (fmN 0 (g 26) (g (27 + v)))) (clo g v 0 0)
def lullR (g : Nat → Nat) (v : Nat) : Nat → Nat := upN g (5 + v) (fmN (g (37 + v)) (g 26) (g (27 + v)))
def thunR (g : Nat → Nat) : Nat → Nat := wakeR g (slp g)
theorem upN_same {g : Nat → Nat} {k z : Nat} (h : 5 ≤ k ∧ k < 27) : sameH g (upN g k z) := fun j hj => upN_n _ (by omega)
theorem upN_wfW {g : Nat → Nat} {B v z : Nat} (hh : wfH g) (hs : wfS g 5 B) (hv : v < g 1) (hz : z ≤ g (47 + v)) : wfS (upN g (15 + v) z) 5 B := by
  have h10 := hh.1.2.1
  refine ⟨fun u hu => ?_, ?_, ?_⟩
  · rw [upN_n _ (by omega)] at hu
    rw [upN_n (j := 5 + u) _ (by omega), upN_n (j := 27 + u) _ (by omega), upN_n (j := 47 + u) _ (by omega)]
    refine ⟨(hs.1 u hu).1, ?_⟩
    by_cases e : u = v
    · subst e
      rw [show 5 + 10 + u = 15 + u by omega, upN_s]
      exact hz
    · rw [upN_n _ (by omega)]
      exact (hs.1 u hu).2
  · rw [upN_n _ (by omega), upN_n _ (by omega)]; exact hs.2.1
  · rw [upN_n _ (by omega)]; exact hs.2.2
theorem upN_wfP {g : Nat → Nat} {B v z : Nat} (hh : wfH g) (hs : wfS g 5 B) (hv : v < g 1) (hz : z < g (27 + v)) : wfS (upN g (5 + v) z) 5 B := by
  have h10 := hh.1.2.1
  refine ⟨fun u hu => ?_, ?_, ?_⟩
  · rw [upN_n _ (by omega)] at hu
    rw [upN_n (j := 5 + 10 + u) _ (by omega), upN_n (j := 27 + u) _ (by omega), upN_n (j := 47 + u) _ (by omega)]
    refine ⟨?_, (hs.1 u hu).2⟩
    by_cases e : u = v
    · subst e
      rw [upN_s]
      exact hz
    · rw [upN_n _ (by omega)]
      exact (hs.1 u hu).1
  · rw [upN_n _ (by omega), upN_n _ (by omega)]; exact hs.2.1
  · rw [upN_n _ (by omega)]; exact hs.2.2
section DD
variable {w : Wd} {M : Nat} {g : Nat → Nat} {B : Nat} {K : Int32 → Wd → Prop}
theorem drawR_WF {v n : Nat} (hW : WF g B) (hv : v < g 1) : WF (drawR g v n) B ∧ sameH g (drawR g v n) := by
  have h10 := hW.1.1.2.1
  have e := upN_same (g := g) (k := 15 + v) (z := g (15 + v) - n) (by omega)
  have h2 := wfH_of e hW.1
  have q := upN_wfW (z := g (15 + v) - n) hW.1 hW.2.2.1 hv (by have : g (15 + v) ≤ g (47 + v) := (hW.2.2.1.1 v hv).2; omega)
  have z : clo g v n 0 < 2 ^ (upN g (15 + v) (g (15 + v) - n)) 1 := by rw [upN_n _ (by omega)]; exact clo_lt _ _ _ _
  have s2 := sameH_trans e (wakeR_same h2 (clo g v n 0))
  exact ⟨WF_st hW s2 (wakeR_wfS h2 q z) (Nat.le_refl _) hW.2.2.2.2, s2⟩
theorem p_draws {v n : Nat} (h : RS w M g) (hW : WF g B) (hv : v < g 1) (hn : n ≤ 99) (hnw : n ≤ g (15 + v)) (hk : ∀ u, eqW (refT M) w u → RS u M (drawR g v n) → K (nI (cb (clo g v n 0))) u) : w_X12_draws M (nI v) (nI n) K w := by
  have h10 := hW.1.1.2.1
  refine ⟨h.1.1, p_chainOf h hW hv hn (fun f => ?_)⟩
  have hR : RS (sI w (M + 6) f) M g := RSs h (by omega) f
  obtain ⟨a1, a2, a3⟩ := p_rd (k := 15 + v) hR (by omega) (P := fun z => z = nI (g (15 + v))) rfl
  rw [show nI (15 + v) = 15 + nI v from (nI_add 15 v).symm] at a2 a3
  refine ⟨hR.1.1, a1, a2, a2, ?_⟩
  rw [a3, pk_sub hnw, show (15 + nI v : Int32) = nI (15 + v) from nI_add 15 v, nI_clamp (by omega), hR.1.2.1.1]
  have e := upN_same (g := g) (k := 15 + v) (z := g (15 + v) - n) (by omega)
  have q := upN_wfW (z := g (15 + v) - n) hW.1 hW.2.2.1 hv (by have : g (15 + v) ≤ g (47 + v) := (hW.2.2.1.1 v hv).2; omega)
  refine p_wake (RS_wr hR (15 + v) (g (15 + v) - n)) (wfH_of e hW.1) q hW.2.2.2.2 (by rw [upN_n _ (by omega)]; exact clo_lt _ _ _ _) (fun u hu hRu => hk u (eqW_trans (eqW_trans (eqW_sI (rT6 M)) (eqW_uI (rT1 M))) hu) hRu)
theorem coinR_WF {v : Nat} (hW : WF g B) (hv : v < g 1) : WF (coinR g v) B ∧ sameH g (coinR g v) := by
  have h10 := hW.1.1.2.1
  have e := upN_same (g := g) (k := 5 + v) (z := fmN 0 (g 26) (g (27 + v))) (by omega)
  have h2 := wfH_of e hW.1
  have q := upN_wfP (z := fmN 0 (g 26) (g (27 + v))) hW.1 hW.2.2.1 hv (fmN_lt (by have := (hW.1.2.1 v hv).1.1; omega))
  have z : clo g v 0 0 < 2 ^ (upN g (5 + v) (fmN 0 (g 26) (g (27 + v)))) 1 := by rw [upN_n _ (by omega)]; exact clo_lt _ _ _ _
  have s2 := sameH_trans e (wakeR_same h2 (clo g v 0 0))
  exact ⟨WF_st hW s2 (wakeR_wfS h2 q z) (Nat.le_refl _) hW.2.2.2.2, s2⟩
theorem p_coins {v : Nat} (h : RS w M g) (hW : WF g B) (hv : v < g 1) (hk : ∀ u, eqW (refT M) w u → RS u M (coinR g v) → K (nI (cb (clo g v 0 0))) u) : w_X12_coins M (nI v) K w := by
  have h10 := hW.1.1.2.1
  refine ⟨h.1.1, p_chainOf h hW hv (n := 0) (by decide) (fun f => ?_)⟩
  have hR : RS (sI w (M + 6) f) M g := RSs h (by omega) f
  refine ⟨hR.1.1, p_shiftsTo hR hW.1 hW.2.2.1 hW.2.2.2.2 hv (p := 0) (by decide) ⟨hR.1.1, ?_⟩⟩
  have e := upN_same (g := g) (k := 5 + v) (z := fmN 0 (g 26) (g (27 + v))) (by omega)
  have q := upN_wfP (z := fmN 0 (g 26) (g (27 + v))) hW.1 hW.2.2.1 hv (fmN_lt (by have := (hW.1.2.1 v hv).1.1; omega))
  refine p_wake (RS_wr hR (5 + v) _) (wfH_of e hW.1) q hW.2.2.2.2 (by rw [upN_n _ (by omega)]; exact clo_lt _ _ _ _) (fun u hu hRu => hk u (eqW_trans (eqW_trans (eqW_sI (rT6 M)) (eqW_uI (rT1 M))) hu) hRu)
theorem lullR_WF {v : Nat} (hW : WF g B) (hv : v < g 1) : WF (lullR g v) B ∧ sameH g (lullR g v) := by
  have h10 := hW.1.1.2.1
  have e := upN_same (g := g) (k := 5 + v) (z := fmN (g (37 + v)) (g 26) (g (27 + v))) (by omega)
  exact ⟨WF_st hW e (upN_wfP hW.1 hW.2.2.1 hv (fmN_lt (by have := (hW.1.2.1 v hv).1.1; omega))) (Nat.le_refl _) hW.2.2.2.2, e⟩
theorem thunR_WF (hW : WF g B) : WF (thunR g) B ∧ sameH g (thunR g) := ⟨WF_st hW (wakeR_same hW.1 _) (wakeR_wfS hW.1 hW.2.2.1 (slp_lt g)) (Nat.le_refl _) hW.2.2.2.2, wakeR_same hW.1 _⟩
theorem p_thunders (h : RS w M g) (hW : WF g B) (hk : ∀ u, eqW (refT M) w u → RS u M (thunR g) → K (nI (cb (slp g))) u) : w_X12_thunders M K w := by
  refine ⟨h.1.1, p_allWells h hW.1 ⟨h.1.1, p_upIn h hW.1 hW.2.2.1 hW.2.2.2.2 (n := 0) (by decide) ⟨h.1.1, ?_⟩⟩⟩
  rw [p_dif]
  exact p_wake h hW.1 hW.2.2.1 hW.2.2.2.2 (slp_lt g) hk
theorem l32 {x : Int64} (h1 : 0 ≤ x.toInt) (h2 : x.toInt < 2147483648) : x.toInt32 = nI x.toInt.toNat := by
  apply Int32.toInt_inj.mp
  rw [nI_toInt (by omega), Int64.toInt_toInt32, bm (by omega) h2]
  omega
def whyD (g : Nat → Nat) (x y : Int) : Nat := if isB (g 1) x = false then 1 else if ¬ (1 ≤ y ∧ y ≤ 99) then 1 else if upb g 0 x.toNat = false then 2 else if (g 25).testBit x.toNat = true then 3 else if (g (15 + x.toNat) : Int) < y then 4 else 0
def whyL (g : Nat → Nat) (x : Int) : Nat := if isB (g 1) x = false then 1 else if upb g 0 x.toNat = false then 2 else if g (37 + x.toNat) = g (27 + x.toNat) then 3 else 0
def whyC (g : Nat → Nat) (x : Int) : Nat := if isB (g 1) x = false then 1 else if upb g 0 x.toNat = false then 0 else 2
theorem p_whyCoin {x : Int64} (h : RS w M g) (hW : WF g B) (hk : K (nI (whyC g x.toInt)) w) : w_X12_whyCoin M x K w := by
  have h10 := hW.1.1.2.1
  unfold whyC at hk
  refine ⟨h.1.1, p_isWell h hW.1 ?_⟩
  cases e : isB (g 1) x.toInt
  · rw [if_pos e] at hk
    exact br_t rfl hk
  rw [if_neg (by rw [e]; decide)] at hk
  have e2 := of_decide_eq_true e
  refine br_f (by decide) ⟨h.1.1, ?_⟩
  rw [l32 e2.1 (by omega)]
  refine p_isUp h hW.1 hW.2.2.1 hW.2.2.2.2 (by omega) ?_
  cases e3 : upb g 0 x.toInt.toNat
  · rw [if_pos e3] at hk; exact br_t rfl hk
  · rw [if_neg (by rw [e3]; decide)] at hk; exact br_f (by decide) hk
theorem p_whyLull {x : Int64} (h : RS w M g) (hW : WF g B) (hk : K (nI (whyL g x.toInt)) w) : w_X12_whyLull M x K w := by
  have h10 := hW.1.1.2.1
  unfold whyL at hk
  refine ⟨h.1.1, p_isWell h hW.1 ?_⟩
  cases e : isB (g 1) x.toInt
  · rw [if_pos e] at hk
    exact br_t rfl hk
  rw [if_neg (by rw [e]; decide)] at hk
  have e2 := of_decide_eq_true e
  have hv : x.toInt.toNat < g 1 := by omega
  refine br_f (by decide) ⟨h.1.1, ?_⟩
  rw [l32 e2.1 (by omega)]
  refine p_isUp h hW.1 hW.2.2.1 hW.2.2.2.2 hv ?_
  cases e3 : upb g 0 x.toInt.toNat
  · rw [if_pos e3] at hk; exact br_t rfl hk
  rw [if_neg (by rw [e3]; decide)] at hk
  obtain ⟨a1, a2, a3⟩ := p_rd (k := 37 + x.toInt.toNat) h (by omega) (P := fun z => z = nI (g (37 + x.toInt.toNat))) rfl
  obtain ⟨-, b2, b3⟩ := p_rd (k := 27 + x.toInt.toNat) h (by omega) (P := fun z => z = nI (g (27 + x.toInt.toNat))) rfl
  rw [← nI_add 37] at a2 a3
  rw [← nI_add 27] at b2 b3
  have q := hW.1.2.1 _ hv
  refine br_f (by decide) ⟨h.1.1, a1, a2, b2, ?_⟩
  rw [show (37 + nI x.toInt.toNat : Int32) = nI 37 + nI x.toInt.toNat from rfl, show (27 + nI x.toInt.toNat : Int32) = nI 27 + nI x.toInt.toNat from rfl, a3, b3]
  by_cases e4 : g (37 + x.toInt.toNat) = g (27 + x.toInt.toNat)
  · rw [if_pos e4] at hk; exact br_t (by rw [e4]) hk
  · rw [if_neg e4] at hk; exact br_f (fun z => e4 ((nI_eq (by omega) (by omega)).mp z)) hk
theorem p_whyDraw {x y : Int64} (h : RS w M g) (hW : WF g B) (hk : K (nI (whyD g x.toInt y.toInt)) w) : w_X12_whyDraw M x y K w := by
  have h10 := hW.1.1.2.1
  unfold whyD at hk
  refine ⟨h.1.1, p_isWell h hW.1 ?_⟩
  cases e : isB (g 1) x.toInt
  · rw [if_pos e] at hk
    exact br_t rfl hk
  rw [if_neg (by rw [e]; decide)] at hk
  have e2 := of_decide_eq_true e
  have hv : x.toInt.toNat < g 1 := by omega
  refine br_f (by decide) (p_within ?_)
  have ey : ((1 : Int64) ≤ y ∧ y ≤ 99) ↔ (1 ≤ y.toInt ∧ y.toInt ≤ 99) := by
    rw [fa_le64, fa_le64]
    exact Iff.rfl
  by_cases hy : 1 ≤ y.toInt ∧ y.toInt ≤ 99
  case neg =>
    rw [if_pos hy] at hk
    rw [decide_eq_false (fun z => hy (ey.mp z))]
    exact br_t rfl hk
  rw [if_neg (fun z => z hy)] at hk
  rw [decide_eq_true (ey.mpr hy)]
  refine br_f (by decide) ⟨h.1.1, ?_⟩
  rw [l32 e2.1 (by omega)]
  refine p_isUp h hW.1 hW.2.2.1 hW.2.2.2.2 hv ?_
  cases e3 : upb g 0 x.toInt.toNat
  · rw [if_pos e3] at hk; exact br_t rfl hk
  rw [if_neg (by rw [e3]; decide)] at hk
  obtain ⟨a1, a2, a3⟩ := p_rd (k := 25) h (by decide) (P := fun z => z = nI (g 25)) rfl
  obtain ⟨-, b2, b3⟩ := p_rd (k := 15 + x.toInt.toNat) h (by omega) (P := fun z => z = nI (g (15 + x.toInt.toNat))) rfl
  rw [← nI_add 15] at b2 b3
  have q := hW.1.2.1 _ hv
  have q2 : g (15 + x.toInt.toNat) ≤ g (47 + x.toInt.toNat) := (hW.2.2.1.1 _ hv).2
  refine br_f (by decide) ⟨h.1.1, a1, a2, ?_⟩
  have hso := set_lt hW.1 (show g 25 < 2 ^ g 1 from hW.2.2.1.2.1)
  rw [show wI w (wR w M 0) (25 : Int32).toNatClampNeg = nI (g 25) from a3]
  refine p_xhas (by omega) (by omega) ?_
  cases e4 : (g 25).testBit x.toInt.toNat
  case true => rw [if_pos e4] at hk; exact br_f (by decide) hk
  rw [if_neg (by rw [e4]; decide)] at hk
  refine br_t rfl ⟨h.1.1, a1, b2, ?_⟩
  rw [show (15 + nI x.toInt.toNat : Int32) = nI 15 + nI x.toInt.toNat from rfl, b3]
  have e5 : (nI (g (15 + x.toInt.toNat))).toInt64.toInt = (g (15 + x.toInt.toNat) : Int) := by rw [Int32.toInt_toInt64, nI_toInt (by omega)]
  by_cases e6 : (g (15 + x.toInt.toNat) : Int) < y.toInt
  · rw [if_pos e6] at hk
    exact br_f (fun z => by rw [lg_cmp_ge, fa_le64, e5] at z; omega) hk
  · rw [if_neg e6] at hk
    exact br_t ((lg_cmp_ge _ _).mpr (by rw [fa_le64, e5]; omega)) hk
end DD
