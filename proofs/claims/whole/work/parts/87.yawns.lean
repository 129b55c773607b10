/-! 87: calls: shield, yawns -/
section JT
variable {w : Wd} {B : Nat} {L F : Wd → Prop}
theorem jn_shield {x y z t : Int32} (I : INV w B) (hB : B + 99 < 2 ^ 24) (hk : ∀ u, INV u (B + 99) → L u) {K : Int32 → Wd → Prop} (hc : ∀ r w1, isK w1 245 12 → w_X12_shield 245 x y z t (fun b w2 => tlT L F r b.toInt64 w2) w1 → K r w1) : w_L_shield 4 24 64 x y z t 260 K w := by
  obtain ⟨g, I⟩ := INV_x I
  have hW := I.2.1
  have h10 := hW.1.1.2.1
  have bad : ∀ N, wN w ≤ N → ∀ k : Int32, 0 < k → ¬ k = 0 → j_X12_shield_46 (fun b w2 => tlT L F k b.toInt64 w2) 245 x y z t k 245 (wJ w N) := fun N hN k hk1 hk0 => by
    have J := INVx_J I hN
    have J1 := INVx_t (k := 4) (v := k) J (by decide) (by decide) (by decide)
    refine ⟨INVx_M J, INVx_M J, ?_⟩
    rw [fw]
    exact br_f (fun q => by rw [fa_le] at q; rw [fa_lt] at hk1; omega) (finK J1 hk0 (fw _ _) hB hk)
  refine ⟨I.1.1.1, ⟨by decide, by decide⟩, I.1.1.1, ⟨by decide, by decide⟩, q_needWell I.1 hW I.2.2.1 (fun c => ⟨I.1.1.1, ⟨by decide, by decide⟩, q_needWell I.1 hW I.2.2.1 (fun d => ⟨⟨by decide, by decide⟩, q_noise (fun n hy hn cn => ⟨⟨by decide, by decide⟩, q_within 0 1 (by decide) (by decide) (fun e => ?_) (fun e N hN => Or.inr ⟨rfl, ?_⟩)⟩) (fun cn N hN => Or.inr ⟨rfl, ?_⟩)⟩) (fun d N hN => Or.inl ⟨rfl, ?_⟩)⟩) (fun c N hN => Or.inl ⟨rfl, ?_⟩)⟩
  · obtain ⟨a, rfl, ha, -⟩ := isB_v c
    obtain ⟨b, rfl, hb, -⟩ := isB_v d
    subst hy
    obtain ⟨q, hq⟩ : ∃ q : Nat, t.toInt = q := ⟨t.toInt.toNat, by omega⟩
    have hq1 : q ≤ 1 := by omega
    rw [nI_v hq]
    obtain ⟨o, ho⟩ : ∃ o, o = bs (okS g a n b) 1024 := ⟨_, rfl⟩
    have lt : ∀ b', o = some b' → b' < 1024 := fun b' e => bs_10 (ok := okS g a n b) (i := 1024) (by omega) b' (ho.symm.trans e)
    have oth10 := set_lt hW.1 (oth_lt (g := g) (a := a) (n := n) (b := b))
    refine nStart I (fun u N => ?_)
    have Iu := nq_x I N
    rw [Iu.1.1.2.2.2.2.2.2.1]
    refine n64 Iu (nShield I N ha hb hn (fun u' N' => ?_))
    rw [← ho]
    refine q_sizeOrSet hq1 lt ?_
    have Iu' := nq_x I N'
    obtain ⟨ans, hans⟩ : ∃ ans : Int32, ans = bsA o q := ⟨_, rfl⟩
    rw [← hans]
    have Io := INVx_o (v := ans.toInt64) Iu'
    have N0 := rq_0 (val := ans.toInt64) Iu'
    refine INVx_out Iu' (hc _ (uL u' 260 0 ans.toInt64) (INVx_M Io) ⟨INVx_M Io, p_isWell Io.2.2.2.1 hW.1 ?_⟩)
    rw [i64_32, c]
    refine br_f (by decide) ⟨INVx_M Io, p_isWell Io.2.2.2.1 hW.1 ?_⟩
    rw [i64_32, d]
    refine br_f (by decide) (p_isNoise ?_)
    rw [cn]
    refine br_f (by decide) (p_withinI 0 1 (by decide) (by decide) ?_)
    rw [decide_eq_true e, nI_v hq]
    refine br_f (by decide) ⟨INVx_M Io, INVx_M Io, ?_⟩
    rw [fw]
    refine br_t (by decide) (rChain N0 hW ha hn (fun z Nz => ⟨oth g a n b + 2, ?_⟩))
    rw [p_one (by omega), p_dif]
    have ehi : bs (okS g a n b) (oth g a n b + 1) = o := by
      rw [ho]
      have := bs_hi (ok := okS g a n b) (m := oth g a n b + 1) (1024 - (oth g a n b + 1)) (fun s hs => okS_hi (by omega))
      rw [show oth g a n b + 1 + (1024 - (oth g a n b + 1)) = 1024 by omega] at this
      exact this.symm
    have gs : ∀ E : Int32 → Int32 → Wd → Prop, ∀ KK, (∀ z, rq (uL u' 260 0 ans.toInt64) z g → E (nI q) (bsI o) z) → ∀ d' i z, i + d' = oth g a n b + 1 → rq (uL u' 260 0 ans.toInt64) z g → l_X12_shield_78 E KK (d' + 1) 245 (nI a) (nI n) (nI b) (nI q) (nI (dif (clo g a n 0) (2 ^ b))) (bsI (bs (okS g a n b) i)) (nI i) z := by
      intro E KK hE d'
      induction d' with
      | zero =>
        intro i z hi Nz
        have : i = oth g a n b + 1 := by omega
        subst this
        rw [ehi]
        exact br_t (nI_lt (show dif (clo g a n 0) (2 ^ b) < oth g a n b + 1 from Nat.lt_succ_self _) (by omega)) (hE z Nz)
      | succ d' ih =>
        intro i z hi Nz
        have y := fun z' N' => ih (i + 1) z' (by omega) N'
        have lt := bs_10 (ok := okS g a n b) (i := i) (by omega)
        refine br_f (nI_nlt (show i ≤ dif (clo g a n 0) (2 ^ b) by show i ≤ oth g a n b; omega) (show oth g a n b < 2 ^ 31 by omega)) ?_
        rw [p_dif, nI_1]
        by_cases cc : dif i (oth g a n b) = 0
        · refine br_t (by rw [show dif i (dif (clo g a n 0) (2 ^ b)) = 0 from cc]; rfl) ?_
          have j114 : bsF (bs (okS g a n b) i) i = true → j_X12_shield_114 (l_X12_shield_78 E KK (d' + 1)) E KK 245 (nI a) (nI n) (nI b) (nI q) (nI (dif (clo g a n 0) (2 ^ b))) (bsI (bs (okS g a n b) i)) (nI i) z := fun f => by
            rw [bs_s, f, Bool.and_true] at y
            refine ⟨Nz.2.1.1.1, p_wokenBy Nz.2.1 hW.1 hW.2.2.1 hW.2.1 hW.2.2.2.2 ha hn (up := i) (by omega) (fun f' => p_xhas ?_ (by omega) ?_)⟩
            · have := set_lt hW.1 (clo_lt g a n i); omega
            rw [nI_1]
            have N1 := rq_s f' Nz
            have y1 := y _ N1
            cases e2 : (clo g a n i).testBit b
            · rw [if_pos (show okS g a n b i = true by unfold okS; rw [e2, decide_eq_true cc]; rfl)] at y1
              exact br_t rfl y1
            · rw [if_neg (by rw [show okS g a n b i = false by unfold okS; rw [e2]; simp]; decide)] at y1
              exact br_f (by decide) y1
          cases eo : bs (okS g a n b) i with
          | none =>
            have z1 := j114 (by rw [eo]; rfl)
            rw [eo] at z1
            exact br_t rfl z1
          | some b' =>
            have hb' := lt b' eo
            have c1 := cb_le b'
            have c2 := cb_le i
            refine br_f (fun q => by have := (bsI_neg (o := some b') (fun b'' e => by cases e; exact hb')).mp q; cases this) (p_size (by omega) (p_size hb' ?_))
            by_cases f : cb i < cb b'
            · have z1 := j114 (by rw [eo]; exact decide_eq_true f)
              rw [eo] at z1
              exact br_f (nI_ge f (by omega)) z1
            · have y1 := y z Nz
              rw [bs_s, eo, show bsF (some b') i = false from decide_eq_false f, Bool.and_false, if_neg (by decide)] at y1
              exact br_t (nI_le (by omega) (by omega)) y1
        · have y1 := y z Nz
          rw [bs_no (show okS g a n b i = false by unfold okS; rw [decide_eq_false cc]; rfl)] at y1
          exact br_f (dif_ne (by omega) cc) y1
    refine gs _ _ (fun z' N1 => p_sizeOrSet (K := fun b w2 => tlT L F 0 b.toInt64 w2) (w := z') hq1 lt ?_) (oth g a n b + 1) 0 z (by omega) Nz
    rw [← hans]
    exact rFin Iu' N1 hB hk
  · have J := INVx_J I hN
    refine hc _ _ (INVx_M J) ⟨INVx_M J, p_isWell J.2.2.2.1 hW.1 ?_⟩
    rw [i64_32, c]
    refine br_f (by decide) ⟨INVx_M J, p_isWell J.2.2.2.1 hW.1 ?_⟩
    rw [i64_32, d]
    refine br_f (by decide) (p_isNoise ?_)
    rw [cn]
    refine br_f (by decide) (p_withinI 0 1 (by decide) (by decide) ?_)
    rw [decide_eq_false e]
    exact br_t rfl (bad N hN 2 (by decide) (by decide))
  · have J := INVx_J I hN
    refine hc _ _ (INVx_M J) ⟨INVx_M J, p_isWell J.2.2.2.1 hW.1 ?_⟩
    rw [i64_32, c]
    refine br_f (by decide) ⟨INVx_M J, p_isWell J.2.2.2.1 hW.1 ?_⟩
    rw [i64_32, d]
    refine br_f (by decide) (p_isNoise ?_)
    rw [cn]
    exact br_t rfl (bad N hN 2 (by decide) (by decide))
  · have J := INVx_J I hN
    refine hc _ _ (INVx_M J) ⟨INVx_M J, p_isWell J.2.2.2.1 hW.1 ?_⟩
    rw [i64_32, c]
    refine br_f (by decide) ⟨INVx_M J, p_isWell J.2.2.2.1 hW.1 ?_⟩
    rw [i64_32, d]
    exact br_t rfl (bad N hN 1 (by decide) (by decide))
  · have J := INVx_J I hN
    refine hc _ _ (INVx_M J) ⟨INVx_M J, p_isWell J.2.2.2.1 hW.1 ?_⟩
    rw [i64_32, c]
    exact br_t rfl (bad N hN 1 (by decide) (by decide))
end JT
/-- whom a noise has reached behind k yawns -/
noncomputable def Rk (g : Nat → Nat) (a n k : Nat) : Nat := mk (fun b => @decide (rsP g a n 0 k b) (Classical.propDecidable _)) (g 1)
theorem Rk_lt (g : Nat → Nat) (a n k : Nat) : Rk g a n k < 2 ^ g 1 := mk_lt _ _
theorem rsP_lt {g : Nat → Nat} {a n up : Nat} : ∀ {k b : Nat}, rsP g a n up k b → b < g 1 ∧ b ≠ a
  | 0, b, h => ⟨h.1, h.2.1⟩
  | k + 1, b, h => h.elim (fun z => rsP_lt z) (fun z => ⟨z.1, z.2.1⟩)
theorem Rk_bit (g : Nat → Nat) (a n k b : Nat) : (Rk g a n k).testBit b = true ↔ rsP g a n 0 k b := by
  unfold Rk
  rw [mk_bit]
  simp
  exact fun h => (rsP_lt h).1
theorem Rk_bitF {g : Nat → Nat} {a n k b : Nat} (h : ¬ rsP g a n 0 k b) : (Rk g a n k).testBit b = false := by
  cases e : (Rk g a n k).testBit b
  · rfl
  · exact absurd ((Rk_bit g a n k b).mp e) h
theorem rsP_mono {g : Nat → Nat} {a n up k j b : Nat} (h : k ≤ j) (z : rsP g a n up k b) : rsP g a n up j b := by
  obtain ⟨d, rfl⟩ := Nat.exists_eq_add_of_le h
  clear h
  induction d with
  | zero => exact z
  | succ d ih => exact Or.inl ih
theorem wkn_up {g : Nat → Nat} {c b n : Nat} (h : wkn g c b n = true) : upb g 0 b = false := by
  unfold wkn at h
  cases e : upb g 0 b
  · rfl
  · rw [e] at h; simp at h
theorem rsP_up {g : Nat → Nat} {a n up : Nat} : ∀ {k b : Nat}, rsP g a n up k b → upb g 0 b = false
  | 0, b, h => wkn_up h.2.2.2
  | k + 1, b, h => h.elim (fun z => rsP_up z) (fun z => by
      obtain ⟨-, -, -, c, -, -, z⟩ := z
      exact wkn_up z)
/-- once nobody is new, nobody more is reached -/
theorem Rk_stop {g : Nat → Nat} {a n up k : Nat} (h : ∀ b, rsP g a n up (k + 1) b → rsP g a n up k b) : ∀ d b, rsP g a n up (k + d) b → rsP g a n up k b
  | 0, b, z => z
  | d + 1, b, z => by
    rcases z with z | ⟨h1, h2, h3, c, h4, h5, h6⟩
    · exact Rk_stop h d b z
    · exact h b (Or.inr ⟨h1, h2, h3, c, h4, Rk_stop h d c h5, h6⟩)
/-- those who are new -/
noncomputable def frk (g : Nat → Nat) (a n : Nat) : Nat → Nat
  | 0 => Rk g a n 0
  | k + 1 => dif (Rk g a n (k + 1)) (Rk g a n k)
theorem Rk_once {g : Nat → Nat} {a n : Nat} (hi : irr g) (ha : a < g 1) : Rk g a n 0 = once g a n := mk_ext (Rk_lt _ _ _ _) (show once g a n < 2 ^ g 1 from mk_lt _ _) (fun k hk => by
  rw [once_b hk, Bool.eq_iff_iff, Rk_bit]
  constructor
  · exact fun z => z.2.2.2
  · intro z
    refine ⟨hk, fun e => ?_, Nat.zero_testBit k, z⟩
    subst e
    unfold wkn at z
    rw [hi k hk] at z
    simp at z)
theorem frk_bit {g : Nat → Nat} {a n k b : Nat} : (frk g a n k).testBit b = true ↔ rsP g a n 0 k b ∧ ∀ j, j < k → ¬ rsP g a n 0 j b := by
  cases k with
  | zero => exact ⟨fun z => ⟨(Rk_bit g a n 0 b).mp z, fun j hj => absurd hj (Nat.not_lt_zero j)⟩, fun z => (Rk_bit g a n 0 b).mpr z.1⟩
  | succ k =>
    show (dif (Rk g a n (k + 1)) (Rk g a n k)).testBit b = true ↔ _
    rw [dif_bit]
    constructor
    · intro z
      simp at z
      refine ⟨(Rk_bit _ _ _ _ _).mp z.1, fun j hj q => ?_⟩
      rw [(Rk_bit g a n k b).mpr (rsP_mono (by omega) q)] at z
      cases z.2
    · intro z
      rw [(Rk_bit g a n (k + 1) b).mpr z.1, Rk_bitF (z.2 k (by omega))]
      rfl
theorem yw_bit {g : Nat → Nat} {v b : Nat} (hv : v < g 1) (hu : upb g 0 v = false) : (yw g v).testBit b = true ↔ b < g 1 ∧ wkn g v b 0 = true := by
  unfold yw
  rw [if_pos (by rw [slp_bit, decide_eq_true hv, hu]; rfl), once_bit]
  simp
theorem frk_step {g : Nat → Nat} {a n k : Nat} (hh : wfH g) (ha : a < g 1) : dif (uy g (frk g a n k) 10 &&& dif (slp g) (2 ^ a)) (Rk g a n k) = frk g a n (k + 1) := by
  have h10 := hh.1.2.1
  apply Nat.eq_of_testBit_eq
  intro b
  rw [Bool.eq_iff_iff]
  show _ ↔ (frk g a n (k + 1)).testBit b = true
  rw [frk_bit, dif_bit, Nat.testBit_and, dif_bit, slp_bit, Nat.testBit_two_pow]
  constructor
  · intro z
    simp at z
    obtain ⟨⟨z1, ⟨z2, z3⟩, z4⟩, z5⟩ := z
    obtain ⟨v, hv, v1, v2⟩ := (uy_bit g _ b 10).mp z1
    have v1' := frk_bit.mp v1
    have vl := rsP_lt v1'.1
    have y := (yw_bit vl.1 (rsP_up v1'.1)).mp v2
    refine ⟨Or.inr ⟨z2, fun e => z4 e.symm, Nat.zero_testBit b, v, vl.1, v1'.1, y.2⟩, fun j hj q => ?_⟩
    rw [(Rk_bit g a n k b).mpr (rsP_mono (by omega) q)] at z5
    cases z5
  · rintro ⟨z1, z2⟩
    have nk := z2 k (by omega)
    rcases z1 with z1 | ⟨h1, h2, h3, c, h4, h5, h6⟩
    · exact absurd z1 nk
    have cf : (frk g a n k).testBit c = true := frk_bit.mpr ⟨h5, fun j hj q => by
      obtain ⟨i, rfl⟩ : ∃ i, k = i + 1 := ⟨k - 1, by omega⟩
      exact nk (Or.inr ⟨h1, h2, h3, c, h4, rsP_mono (by omega) q, h6⟩)⟩
    have ub : (uy g (frk g a n k) 10).testBit b = true := (uy_bit g _ b 10).mpr ⟨c, by omega, cf, (yw_bit h4 (rsP_up h5)).mpr ⟨h1, h6⟩⟩
    rw [ub, Rk_bitF nk, decide_eq_true h1, wkn_up h6]
    simp
    exact fun e => h2 e.symm
