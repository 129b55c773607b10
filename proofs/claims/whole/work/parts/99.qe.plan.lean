/-! 99.qe: the call plan, joined -/
section PQ
variable {w : Wd} {B : Nat} {L F : Wd → Prop}
theorem nI_m2 {s : Nat} (hs : s < 41) : ¬ nI s = -2 := fun x => by
  have y := congrArg Int32.toInt x
  rw [nI_toInt (by omega), show (-2 : Int32).toInt = -2 from by decide] at y
  omega
theorem isB_yes {n s : Nat} (h : s < n) : isB n (s : Int) = true := decide_eq_true ⟨by omega, by omega⟩
theorem isB_no {n s : Nat} (h : ¬ s < n) : isB n (s : Int) = false := decide_eq_false (fun z => h (by omega))
theorem jn_plan {x : Int32} (I : INV w B) (hB : B + 99 < 2 ^ 24) (hk : ∀ u, INV u (B + 99) → L u) {K : Int32 → Wd → Prop} (hc : ∀ r w1, isK w1 245 12 → w_X12_plan 245 x (fun b w2 => tlT L F r b.toInt64 w2) w1 → K r w1) : w_L_plan 1 6 64 x 260 K w := by
  obtain ⟨g, I⟩ := INV_x I
  have hW := I.2.1
  have h26 := hW.1.1.2.2.1
  obtain ⟨m, hm, no, yes⟩ := least_41 (pE g)
  obtain ⟨t, T⟩ : ∃ t, m < 41 → tS (fun k => qm g k 41) t (2 ^ (m + 1) - 1) (g 2) (g 2) := by
    by_cases c : m < 41
    · obtain ⟨t, h⟩ := tS_ex (yes c)
      exact ⟨t, fun _ => h⟩
    · exact ⟨fun _ => 0, fun z => absurd z c⟩
  have n0 : g 2 = 0 → m < 41 := fun z => by
    by_cases c : m < 41
    · exact c
    · refine absurd ?_ (no 0 (by omega))
      intro S _
      rw [z]
      exact Nat.zero_le _
  have xs : ∀ k, k < 6 → (nI (k + 10) - 10 : Int32) = nI k := fun k _ => by
    have z := pk_sub (a := k + 10) (b := 10) (by omega)
    rw [Nat.add_sub_cancel] at z
    exact z
  have ref : ∀ v, (g 2 = 0 → v = -1) → (g 2 ≠ 0 → m < 41 → x = 0 → v = nI m) → (g 2 ≠ 0 → m < 41 → ∀ k, k < 6 → x = nI (k + 10) → v = tdF t (g 2) k) → (m = 41 → v = -2) → (x = 0 ∨ ∃ k, k < 6 ∧ x = nI (k + 10)) → ∀ u', aq w u' g → isK u' 260 21 ∧ vp_in 0 (wn u' 260) ∧ K 0 (uL u' 260 0 v.toInt64) := by
    intro v v1 v2 v3 v4 xo u' A'
    have I2 := ap_x I A'.1
    have Io := INVx_o (v := v.toInt64) I2
    have N0 := rq_0 (val := v.toInt64) I2
    obtain ⟨a1, a2, a3⟩ := p_rd (k := 2) N0.2.1 (by omega) (P := fun z => z = nI (g 2)) rfl
    have j29 : j_X12_plan_29 (fun b w2 => tlT L F 0 b.toInt64 w2) 245 x (uI (uL u' 260 0 v.toInt64) 245 4 0) := by
      refine ⟨N0.2.1.1.1, a1, a2, ?_⟩
      rw [show wI _ _ (2 : Int32).toNatClampNeg = nI (g 2) from a3]
      by_cases z : g 2 = 0
      · have e := v1 z
        subst e
        exact br_t (by rw [z]; rfl) (rFin I2 N0 hB hk)
      · refine br_f (fun y => z ?_) (p_laysPlan N0 hW hB hm no yes (fun c => ⟨t, T c, fun z1 X => br_f (nI_m2 c) ?_⟩) (fun e z1 N => ?_))
        · have y2 := congrArg Int32.toInt y
          rw [nI_toInt (by omega)] at y2
          have : (0 : Int32).toInt = 0 := by decide
          omega
        · by_cases x0 : x = 0
          · have e := v2 z c x0
            subst e
            exact br_t x0 (rFin I2 X.1 hB hk)
          · obtain ⟨k, hk6, ex⟩ : ∃ k, k < 6 ∧ x = nI (k + 10) := xo.resolve_left x0
            have e := v3 z c k hk6 ex
            have mm := m23 X.1.2.1
            refine br_f x0 ⟨X.1.2.1.1.1, ?_⟩
            rw [mm.1, mm.2.2, ex, xs k hk6, nI_clamp (by omega), X.2.2 k hk6, ← e]
            exact ⟨mm.2.1, vp_in_nI (by omega) (by decide), rFin I2 X.1 hB hk⟩
        · have e2 := v4 e
          subst e2
          exact br_t rfl (rFin I2 N hB hk)
    refine INVx_out I2 (hc _ (uL u' 260 0 v.toInt64) (INVx_M Io) ⟨INVx_M Io, fun _ => j29, fun x0 => p_withinI 10 15 (by decide) (by decide) ?_⟩)
    obtain ⟨k, hk6, ex⟩ : ∃ k, k < 6 ∧ x = nI (k + 10) := xo.resolve_left x0
    have xt : x.toInt = ((k + 10 : Nat) : Int) := by rw [ex]; exact nI_toInt (by omega)
    rw [decide_eq_true (show (10 : Int) ≤ x.toInt ∧ x.toInt ≤ 15 by omega)]
    exact br_f (by decide) j29
  have body : ∀ i j, (x = 0 ∨ ∃ k, k < 6 ∧ x = nI (k + 10)) → j_X11_plan_12 1 6 (fun E u => (E = "java/lang/IllegalArgumentException" ∧ K 1 u)) (fun r1 w1 => isK w1 260 21 ∧ vp_in 0 (wn w1 260) ∧ K 0 (uL w1 260 (0 : Int32).toNatClampNeg r1.toInt64)) 64 x i j w := by
    intro i j xo
    obtain ⟨h, Lx, e0, k5⟩ := x_P I
    unfold j_X11_plan_12
    rw [x242 I.1, I.1.1.2.1, e0]
    refine ⟨I.1.1.1, I.1.2.2.2.2.2.2.2.2.2.1.1, k5, Lx.1.1.1.1, q_lookP I hB (fun u A r => ?_)⟩
    have Iu := ap_x I A
    have Pl := Iu.1.2.2.2.2.2.2.2.2.2.1
    rw [x242 Iu.1]
    refine ⟨Iu.1.1.1, Pl.1, q_soonest I hB hm no yes ⟨A, r⟩ (fun u1 A1 => ?_)⟩
    have I1 := ap_x I A1.1
    have Pl1 := I1.1.2.2.2.2.2.2.2.2.2.1
    obtain ⟨h1, Lx1, e1, k51⟩ := x_P I1
    by_cases c : m < 41
    · rw [if_pos c]
      have one : ∀ s, s < 6 → (x = 0 ∧ s = 0 ∨ x = nI (s + 10)) → j_X11_plan_53 1 6 (fun E u => (E = "java/lang/IllegalArgumentException" ∧ K 1 u)) (fun r1 w1 => isK w1 260 21 ∧ vp_in 0 (wn w1 260) ∧ K 0 (uL w1 260 (0 : Int32).toNatClampNeg r1.toInt64)) 64 x (nI m) (nI s) i j u1 := by
        intro s hs xc
        have st : (nI s).toInt = (s : Int) := nI_toInt (by omega)
        have xk : ∀ k, k < 6 → x = nI (k + 10) → k = s := fun k hk6 ek => by
          have y := congrArg Int32.toInt ek
          rw [nI_toInt (by omega)] at y
          rcases xc with ⟨c1, -⟩ | c1
          · rw [c1, show (0 : Int32).toInt = 0 from by decide] at y
            omega
          · rw [c1, nI_toInt (by omega)] at y
            omega
        unfold j_X11_plan_53
        rw [I1.1.1.2.1, e1, Lx1.1.1.1.2.1]
        refine ⟨I1.1.1.1, k51, Lx1.1.1.1.1, Lx1.1.1.1.2.2.1, q_hasHouse Lx1.1.1.1.2.2 hW.1 ?_⟩
        by_cases sg : s < g 2
        · rw [st, isB_yes sg]
          refine br_f (by decide) ⟨fun x0 => ref (nI m) (fun z => by omega) (fun _ _ _ => rfl) (fun _ _ k hk6 ek => ?_) (fun z => by omega) xo u1 A1, fun x0 => ?_⟩
          · exfalso
            have y := congrArg Int32.toInt ek
            rw [nI_toInt (by omega), x0, show (0 : Int32).toInt = 0 from by decide] at y
            omega
          · rw [x242 I1.1]
            refine ⟨I1.1.1.1, Pl1.1, q_hourInPlan I hB c sg (T c) A1 (fun u2 A2 => ref (nI (t s)) (fun z => by omega) (fun _ _ z => absurd z x0) (fun _ _ k hk6 ek => ?_) (fun z => by omega) xo u2 A2)⟩
            rw [xk k hk6 ek]
            exact (if_pos sg).symm
        · rw [st, isB_no (n := g 2) (s := s) (by omega)]
          refine br_t rfl (ref (-1) (fun _ => rfl) (fun z _ x0 => ?_) (fun _ _ k hk6 ek => ?_) (fun z => by omega) xo u1 A1)
          · exfalso
            rcases xc with ⟨-, c1⟩ | c1
            · omega
            · have y := congrArg Int32.toInt c1
              rw [nI_toInt (by omega), x0, show (0 : Int32).toInt = 0 from by decide] at y
              omega
          · rw [xk k hk6 ek]
            exact (if_neg sg).symm
      refine br_t (nI_le (a := 0) (by omega) (by omega)) ⟨fun x0 => one 0 (by decide) (Or.inl ⟨x0, rfl⟩), fun x0 => ?_⟩
      obtain ⟨k, hk6, ex⟩ := xo.resolve_left x0
      rw [show (x - 10 : Int32) = nI k from by rw [ex]; exact xs k hk6]
      exact one k hk6 (Or.inr ex)
    · rw [if_neg c]
      exact br_f (by decide) (ref (-2) (fun z => absurd (n0 z) c) (fun _ z => absurd z c) (fun _ z => absurd z c) (fun _ => rfl) xo u1 A1)
  refine ⟨I.1.1.1, ⟨by decide, by decide⟩, fun x0 => body 0 0 (Or.inl x0), fun x0 => ⟨⟨by decide, by decide⟩, q_within 10 15 (by decide) (by decide) (fun c1 => body 1 6 (Or.inr ?_)) (fun c1 N hN => ⟨rfl, ?_⟩)⟩⟩
  · refine ⟨x.toInt.toNat - 10, by omega, nI_v ?_⟩
    omega
  · have J := INVx_J I hN
    have J1 := INVx_t (k := 4) (v := 0) J (by decide) (by decide) (by decide)
    have J2 := INVx_t (k := 4) (v := 1) J1 (by decide) (by decide) (by decide)
    refine hc _ _ (INVx_M J) ⟨INVx_M J, fun z => absurd z x0, fun _ => p_withinI 10 15 (by decide) (by decide) ?_⟩
    rw [decide_eq_false c1]
    exact br_t rfl ⟨INVx_M J1, INVx_M J1, finK J2 (by decide) (fw _ _) hB hk⟩
end PQ
