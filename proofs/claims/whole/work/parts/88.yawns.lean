/-! 88: calls: yawns -/
theorem Rk_or {g : Nat → Nat} {a n k : Nat} : Rk g a n k ||| frk g a n (k + 1) = Rk g a n (k + 1) := by
  apply Nat.eq_of_testBit_eq
  intro b
  rw [Nat.testBit_or, Bool.eq_iff_iff, Bool.or_eq_true, Rk_bit, frk_bit, Rk_bit]
  constructor
  · rintro (z | z)
    · exact Or.inl z
    · exact z.1
  · intro z
    by_cases q : rsP g a n 0 k b
    · exact Or.inl q
    · exact Or.inr ⟨z, fun j hj y => q (rsP_mono (by omega) y)⟩
theorem rsP_none {g : Nat → Nat} {a n up : Nat} (h : ∀ b, ¬ rsP g a n up 0 b) : ∀ d b, ¬ rsP g a n up d b
  | 0, b => h b
  | d + 1, b => fun z => z.elim (rsP_none h d b) (fun y => by
      obtain ⟨-, -, -, c, -, q, -⟩ := y
      exact rsP_none h d c q)
theorem frk_ne {g : Nat → Nat} {a n b s : Nat} (h1 : rsP g a n 0 s b) (h2 : ∀ j, j < s → ¬ rsP g a n 0 j b) {k : Nat} (hk : k ≤ s) : frk g a n k ≠ 0 := fun z => by
  have e : ∀ c, ¬ (rsP g a n 0 k c ∧ ∀ j, j < k → ¬ rsP g a n 0 j c) := fun c q => by
    have := frk_bit.mpr q
    rw [z, Nat.zero_testBit] at this
    cases this
  cases k with
  | zero => exact rsP_none (fun c q => e c ⟨q, fun j hj => absurd hj (Nat.not_lt_zero j)⟩) s b h1
  | succ k =>
    have st : ∀ c, rsP g a n 0 (k + 1) c → rsP g a n 0 k c := fun c q => Classical.byContradiction fun y => e c ⟨q, fun j hj x => y (rsP_mono (by omega) x)⟩
    obtain ⟨d, rfl⟩ := Nat.exists_eq_add_of_le (show k ≤ s by omega)
    exact h2 k (by omega) (Rk_stop st d b h1)
theorem frk_lt {g : Nat → Nat} {a n : Nat} (hh : wfH g) : ∀ k, frk g a n k < 1024
  | 0 => set_lt hh (Rk_lt g a n 0)
  | k + 1 => set_lt hh (dif_lt (Rk_lt g a n (k + 1)))
theorem Rk_cb {g : Nat → Nat} {a n b s : Nat} (hh : wfH g) (h1 : rsP g a n 0 s b) (h2 : ∀ j, j < s → ¬ rsP g a n 0 j b) : ∀ k, k ≤ s → k + 1 ≤ cb (Rk g a n k)
  | 0, hk => by
    have z := cb_grow (s := 0) (frk_lt (g := g) (a := a) (n := n) hh 0) (frk_ne h1 h2 hk) (fun b q => by rw [Nat.zero_testBit] at q; cases q)
    rw [Nat.zero_or] at z
    have : cb 0 = 0 := by decide
    have e : frk g a n 0 = Rk g a n 0 := rfl
    rw [e] at z
    omega
  | k + 1, hk => by
    have ih := Rk_cb hh h1 h2 k (by omega)
    have z := cb_grow (s := Rk g a n k) (frk_lt (g := g) (a := a) (n := n) hh (k + 1)) (frk_ne h1 h2 hk) (fun b q => by
      cases e : (frk g a n (k + 1)).testBit b
      · rfl
      · exact absurd ((Rk_bit _ _ _ _ _).mp q) ((frk_bit.mp e).2 k (by omega)))
    rw [Rk_or] at z
    omega
theorem mk_or {p : Nat → Bool} {j : Nat} : mk p j + 2 ^ j = mk p j ||| 2 ^ j := by
  have h : mk (fun k => if k = j then true else p k) (j + 1) = mk p j + 2 ^ j := by
    rw [mk_t (p := fun k => if k = j then true else p k) (by simp)]
    rw [mk_cong (q := p) (fun k hk => by simp [Nat.ne_of_lt hk])]
  rw [← h]
  apply Nat.eq_of_testBit_eq
  intro k
  rw [mk_bit, Nat.testBit_or, mk_bit, Nat.testBit_two_pow]
  by_cases e : k = j
  · subst e; simp
  · by_cases c : k < j
    · simp [c, e, Nat.lt_succ_of_lt c]
      intro q; exact absurd q.symm e
    · simp [c, e, show ¬ k < j + 1 by omega]
      exact fun q => e q.symm
section RY
variable {u : Wd} {B : Nat} {g : Nat → Nat}
theorem rReach15 {K : Int32 → Wd → Prop} {s c A : Nat} (hW : WF g B) (hc : c < g 1) (hs : s.testBit c = true) (hs10 : s < 1024) {E : Nat → Int32 → Int32 → Int32 → Wd → Prop} (hE : ∀ z, rq u z g → E 245 (nI s) (nI (A ||| once g c 0)) (nI c) z) : ∀ d j z, j + d = g 1 → rq u z g → l_X12_reachedBy_15 E K (d + 1) 245 (nI s) (nI (A ||| mk (fun b => wkn g c b 0) j)) (nI c) (nI j) z := by
  have h10 := hW.1.1.2.1
  intro d
  induction d with
  | zero =>
    intro j z hj Nz
    have : j = g 1 := by omega
    subst this
    exact ⟨Nz.2.1.1.1, p_wells Nz.2.1 (br_t (nI_le (Nat.le_refl _) (by omega)) (hE z Nz))⟩
  | succ d ih =>
    intro j z hj Nz
    refine ⟨Nz.2.1.1.1, p_wells Nz.2.1 (br_f (nI_ge (by omega) (by omega)) (p_xhas (by omega) (by omega) ?_))⟩
    rw [hs]
    refine br_f (by decide) ⟨Nz.2.1.1.1, rWoken (n := 0) Nz hW hc (by omega) (by decide) (fun z' N' => ?_)⟩
    have y := ih (j + 1) z' (by omega) N'
    rw [nI_1, p_or0, p_one (by omega), fa_or]
    cases e : wkn g c j 0
    · rw [mk_f (p := fun b => wkn g c b 0) e] at y
      exact br_t rfl y
    · rw [mk_t (p := fun b => wkn g c b 0) e, mk_or, ← Nat.or_assoc] at y
      exact br_f (by decide) y
theorem rReach {K : Int32 → Wd → Prop} {s : Nat} {z : Wd} (hW : WF g B) (hs : s < 1024) (N : rq u z g) (hk : ∀ z', rq u z' g → K (nI (unS (fun c => once g c 0) s (g 1))) z') : w_X12_reachedBy 245 (nI s) K z := by
  have h10 := hW.1.1.2.1
  have go : ∀ d i z, i + d = g 1 → rq u z g → l_X12_reachedBy_4 K (d + 1) 245 (nI s) (nI (unS (fun c => once g c 0) s i)) (nI i) z := by
    intro d
    induction d with
    | zero =>
      intro i z hi Nz
      have : i = g 1 := by omega
      subst this
      exact ⟨Nz.2.1.1.1, p_wells Nz.2.1 (br_t (nI_le (Nat.le_refl _) (by omega)) (hk z Nz))⟩
    | succ d ih =>
      intro i z hi Nz
      have y := fun z' N' => ih (i + 1) z' (by omega) N'
      unfold unS at y
      refine ⟨Nz.2.1.1.1, p_wells Nz.2.1 (br_f (nI_ge (by omega) (by omega)) ?_)⟩
      cases e : s.testBit i
      · rw [e, if_neg (by decide)] at y
        refine ⟨1, Nz.2.1.1.1, p_wells Nz.2.1 (br_f ?_ (p_xhas (by omega) (by omega) ?_))⟩
        · exact nI_ge (a := 0) (by omega) (by omega)
        rw [e]
        refine br_t rfl ?_
        show l_X12_reachedBy_4 K (d + 1) 245 (nI s) _ (nI i + 1) z
        rw [nI_1]
        exact y z Nz
      · rw [e, if_pos rfl] at y
        refine ⟨g 1 + 1, ?_⟩
        have q := rReach15 (K := K) (u := u) (A := unS (fun c => once g c 0) s i) hW (show i < g 1 by omega) e hs (E := fun b16 b17 b18 b19 w20 => l_X12_reachedBy_4 K (d + 1) b16 b17 b18 (b19 + 1) w20) (fun z' N' => by rw [nI_1]; exact y z' N') (g 1) 0 z (by omega) Nz
        rw [show unS (fun c => once g c 0) s i ||| mk (fun b => wkn g i b 0) 0 = unS (fun c => once g c 0) s i from Nat.or_zero _] at q
        exact q
  exact ⟨g 1 + 1, go (g 1) 0 z (by omega) N⟩
theorem unS_bit {f : Nat → Nat} {s b : Nat} : ∀ i, (unS f s i).testBit b = true ↔ ∃ c, c < i ∧ s.testBit c = true ∧ (f c).testBit b = true
  | 0 => by simp [unS]
  | i + 1 => by
    have ih := unS_bit (f := f) (s := s) (b := b) i
    unfold unS
    split
    · rename_i hs
      rw [Nat.testBit_or, Bool.or_eq_true, ih]
      constructor
      · rintro (⟨v, h1, h2, h3⟩ | h)
        · exact ⟨v, by omega, h2, h3⟩
        · exact ⟨i, by omega, hs, h⟩
      · rintro ⟨v, h1, h2, h3⟩
        by_cases e : v = i
        · subst e; exact Or.inr h3
        · exact Or.inl ⟨v, by omega, h2, h3⟩
    · rename_i hs
      rw [ih]
      constructor
      · rintro ⟨v, h1, h2, h3⟩
        exact ⟨v, by omega, h2, h3⟩
      · rintro ⟨v, h1, h2, h3⟩
        by_cases e : v = i
        · subst e; exact absurd h2 hs
        · exact ⟨v, by omega, h2, h3⟩
theorem Rk_ref {a n k : Nat} (ha : a < g 1) : Rk g a n k ||| dif (unS (fun c => once g c 0) (Rk g a n k) (g 1)) (2 ^ a) = Rk g a n (k + 1) := by
  apply Nat.eq_of_testBit_eq
  intro b
  rw [Nat.testBit_or, Bool.eq_iff_iff, Bool.or_eq_true, Rk_bit, Rk_bit, dif_bit, Nat.testBit_two_pow]
  constructor
  · rintro (z | z)
    · exact Or.inl z
    · simp at z
      obtain ⟨c, h1, h2, h3⟩ := (unS_bit (g 1)).mp z.1
      rw [once_bit] at h3
      simp at h3
      exact Or.inr ⟨h3.1, fun e => z.2 e.symm, Nat.zero_testBit b, c, h1, (Rk_bit _ _ _ _ _).mp h2, h3.2⟩
  · rintro (z | ⟨h1, h2, h3, c, h4, h5, h6⟩)
    · exact Or.inl z
    · refine Or.inr ?_
      rw [(unS_bit (f := fun c => once g c 0) (g 1)).mpr ⟨c, h4, (Rk_bit g a n k c).mpr h5, by rw [once_bit, decide_eq_true h1, h6]; rfl⟩]
      simp
      exact fun e => h2 e.symm
end RY
section JZ
variable {w : Wd} {B : Nat} {L F : Wd → Prop}
theorem jn_yawns {x y z : Int32} (I : INV w B) (hB : B + 99 < 2 ^ 24) (hk : ∀ u, INV u (B + 99) → L u) {K : Int32 → Wd → Prop} (hc : ∀ r w1, isK w1 245 12 → w_X12_yawns 245 x y z (fun b w2 => tlT L F r b.toInt64 w2) w1 → K r w1) : w_L_yawns 3 18 64 x y z 260 K w := by
  obtain ⟨g, I⟩ := INV_x I
  have hW := I.2.1
  have h10 := hW.1.1.2.1
  have hirr := wfL_irr hW.2.1
  have bad : ∀ N, wN w ≤ N → ∀ k : Int32, 0 < k → ¬ k = 0 → j_X12_yawns_35 (fun b w2 => tlT L F k b.toInt64 w2) 245 x y z k 245 (wJ w N) := fun N hN k hk1 hk0 => by
    have J := INVx_J I hN
    have J1 := INVx_t (k := 4) (v := k) J (by decide) (by decide) (by decide)
    refine ⟨INVx_M J, INVx_M J, ?_⟩
    rw [fw]
    exact br_t hk1 (finK J1 hk0 (fw _ _) hB hk)
  refine ⟨I.1.1.1, ⟨by decide, by decide⟩, I.1.1.1, ⟨by decide, by decide⟩, q_needWell I.1 hW I.2.2.1 (fun c => ⟨I.1.1.1, ⟨by decide, by decide⟩, q_needWell I.1 hW I.2.2.1 (fun d => ⟨⟨by decide, by decide⟩, q_noise (fun n hy hn cn => ?_) (fun cn N hN => Or.inr ⟨rfl, ?_⟩)⟩) (fun d N hN => Or.inl ⟨rfl, ?_⟩)⟩) (fun c N hN => Or.inl ⟨rfl, ?_⟩)⟩
  · obtain ⟨a, rfl, ha, -⟩ := isB_v c
    obtain ⟨b, rfl, hb, -⟩ := isB_v d
    subst hy
    -- the answer: behind how many yawns, or 0
    have key : ∃ ans : Nat, (ans = 0 ∧ ¬ rch g a n 0 b) ∨ (∃ s, ans = s + 1 ∧ s + 1 ≤ 10 ∧ rsP g a n 0 s b ∧ ∀ j, j < s → ¬ rsP g a n 0 j b) := by
      by_cases q : rch g a n 0 b
      · obtain ⟨s, s1, s2⟩ := pk_least (fun k => rsP g a n 0 k b) q
        have := Rk_cb hW.1 s1 s2 s (Nat.le_refl _)
        have := cb_le (Rk g a n s)
        exact ⟨s + 1, Or.inr ⟨s, rfl, by omega, s1, s2⟩⟩
      · exact ⟨0, Or.inl ⟨rfl, q⟩⟩
    obtain ⟨ans, hans⟩ := key
    have hz := set_lt hW.1 (slp_lt g)
    have R10 : ∀ k, Rk g a n k < 1024 := fun k => set_lt hW.1 (Rk_lt g a n k)
    refine nStart I (fun u N => ?_)
    have Iu := nq_x I N
    obtain ⟨h, Lx, e0, k5⟩ := x_P Iu
    rw [Iu.1.1.2.2.2.2.2.2.1]
    refine n64 Iu ⟨N.2.1.1, q_once N.2.1 N.2.2.1 N.2.2.2.1 Lx.1 hW (LX_nT Lx (by omega)) ha hn (fun u1 hu1 => ?_)⟩
    have N1 := nq_s N hu1
    rw [N.2.2.2.1, p_one (by omega), p_dif, ← Rk_once hirr ha]
    have fin : K 0 (uL u1 260 (0 : Int32).toNatClampNeg (nI ans).toInt64) := by
      have Iu1 := nq_x I N1
      have Io := INVx_o (v := (nI ans).toInt64) Iu1
      have N0 := rq_0 (val := (nI ans).toInt64) Iu1
      refine hc _ (uL u1 260 0 (nI ans).toInt64) (INVx_M Io) ⟨INVx_M Io, p_isWell Io.2.2.2.1 hW.1 ?_⟩
      rw [i64_32, c]
      refine br_f (by decide) ⟨INVx_M Io, p_isWell Io.2.2.2.1 hW.1 ?_⟩
      rw [i64_32, d]
      refine br_f (by decide) (p_isNoise ?_)
      rw [cn]
      refine br_f (by decide) ⟨INVx_M Io, INVx_M Io, ?_⟩
      rw [fw]
      refine br_f (by decide) (rChain N0 hW ha hn (fun z Nz => p_xhas (by have := set_lt hW.1 (clo_lt g a n 0); omega) (by omega) ?_))
      rcases hans with ⟨rfl, q⟩ | ⟨s, rfl, s10, s1, s2⟩
      · rw [show (clo g a n 0).testBit b = false by
          cases e : (clo g a n 0).testBit b
          · rfl
          · exact absurd ((clo_bit g a n 0 b).mp e).2 q]
        exact br_t rfl (rFin Iu1 Nz hB hk)
      · rw [(clo_bit g a n 0 b).mpr ⟨hb, s, s1⟩]
        refine br_f (by decide) ⟨g 1 + 1, ?_⟩
        have go : ∀ E : Nat → Int32 → Int32 → Int32 → Wd → Prop, ∀ KK, (∀ z, rq (uL u1 260 0 (nI (s + 1)).toInt64) z g → E 245 (nI a) (nI b) (nI (Rk g a n 0)) z) → ∀ d' i z, i + d' = g 1 → rq (uL u1 260 0 (nI (s + 1)).toInt64) z g → l_X12_yawns_66 E KK (d' + 1) 245 (nI a) (nI n) (nI b) (nI (mk (fun c => wkn g a c n) i)) (nI i) z := by
          intro E KK hE d'
          induction d' with
          | zero =>
            intro i z hi Nz
            have : i = g 1 := by omega
            subst this
            have y := hE z Nz
            rw [Rk_once hirr ha] at y
            exact ⟨Nz.2.1.1.1, p_wells Nz.2.1 (br_t (nI_le (Nat.le_refl _) (by omega)) y)⟩
          | succ d' ih =>
            intro i z hi Nz
            have y := fun z' N' => ih (i + 1) z' (by omega) N'
            refine ⟨Nz.2.1.1.1, p_wells Nz.2.1 (br_f (nI_ge (by omega) (by omega)) ?_)⟩
            rw [nI_1, p_or0]
            by_cases ei : i = a
            · subst ei
              rw [mk_f (p := fun c => wkn g i c n) (show wkn g i i n = false by unfold wkn; rw [hirr i ha]; rfl)] at y
              exact br_t rfl (y z Nz)
            · refine br_f (fun q => ei ((nI_eq (by omega) (by omega)).mp q)) ⟨Nz.2.1.1.1, rWoken Nz hW ha (by omega) hn (fun z' N' => ?_)⟩
              cases e : wkn g a i n
              · rw [mk_f (p := fun c => wkn g a c n) e] at y
                exact br_t rfl (y z' N')
              · rw [mk_t (p := fun c => wkn g a c n) e] at y
                refine br_f (by decide) ?_
                rw [p_one (by omega), p_or _ (by omega)]
                exact y z' N'
        refine go _ _ (fun z Nz => ⟨s + 1, ?_⟩) (g 1) 0 z (by omega) Nz
        have gl : ∀ E : Int32 → Wd → Prop, (∀ z, rq (uL u1 260 0 (nI (s + 1)).toInt64) z g → E (nI (s + 1)) z) → ∀ d' k z, k + d' = s → rq (uL u1 260 0 (nI (s + 1)).toInt64) z g → l_X12_yawns_114 E (d' + 1) 245 (nI a) (nI b) (nI (Rk g a n k)) (nI (k + 1)) z := by
          intro E hE d'
          induction d' with
          | zero =>
            intro k z hk' Nz
            have : k = s := by omega
            subst this
            refine p_xhas (by have := R10 k; omega) (by omega) ?_
            rw [(Rk_bit g a n k b).mpr s1]
            exact br_f (by decide) (hE z Nz)
          | succ d' ih =>
            intro k z hk' Nz
            refine p_xhas (by have := R10 k; omega) (by omega) ?_
            rw [Rk_bitF (s2 k (by omega))]
            refine br_t rfl ⟨Nz.2.1.1.1, rReach hW (R10 k) Nz (fun z' N' => ?_)⟩
            rw [p_one (by omega), p_dif, fa_or, Rk_ref ha, nI_1]
            exact ih (k + 1) z' (by omega) N'
        exact gl _ (fun z Nz => rFin Iu1 Nz hB hk) s 0 z (by omega) Nz
    have Iu1 := nq_x I N1
    have finX := INVx_out Iu1 fin
    rcases hans with ⟨rfl, q⟩ | ⟨s, rfl, s10, s1, s2⟩
    · refine ⟨11, ?_⟩
      have go : ∀ E : Int32 → Wd → Prop, E 0 u1 → ∀ d' k, k + d' = 10 → l_X4_yawnsTill_27 E (d' + 1) 85 (nI b) (nI (dif (slp g) (2 ^ a))) (nI (frk g a n k)) (nI (Rk g a n k)) (nI (k + 1)) u1 := by
        intro E hE d'
        induction d' with
        | zero =>
          intro k hk'
          have : k = 10 := by omega
          subst this
          exact br_t (by decide) hE
        | succ d' ih =>
          intro k hk'
          refine br_f (nI_nlt (a := 10) (by omega) (by decide)) ?_
          by_cases f0 : frk g a n k = 0
          · exact br_t (by rw [f0]; rfl) hE
          have f10 := frk_lt (a := a) (n := n) hW.1 k
          refine br_f (nI_ne0 (by omega) (by omega)) (q_has (by omega) (by omega) ?_)
          rw [show (frk g a n k).testBit b = false by
            cases e : (frk g a n k).testBit b
            · rfl
            · exact absurd ⟨k, (frk_bit.mp e).1⟩ q]
          refine br_t rfl ⟨N1.2.1.1, q_yawns N1.2.1 hW.1 N1.2.2.2.2 f10 ?_⟩
          rw [fa_and, p_dif, frk_step hW.1 ha, fa_or, Rk_or, nI_1]
          exact ih (k + 1) (by omega)
      exact go _ finX 10 0 (by omega)
    · refine ⟨s + 1, ?_⟩
      have go : ∀ E : Int32 → Wd → Prop, E (nI (s + 1)) u1 → ∀ d' k, k + d' = s → l_X4_yawnsTill_27 E (d' + 1) 85 (nI b) (nI (dif (slp g) (2 ^ a))) (nI (frk g a n k)) (nI (Rk g a n k)) (nI (k + 1)) u1 := by
        intro E hE d'
        induction d' with
        | zero =>
          intro k hk'
          have : k = s := by omega
          subst this
          have f10 := frk_lt (a := a) (n := n) hW.1 k
          have fne := frk_ne s1 s2 (Nat.le_refl k)
          refine br_f (nI_nlt (a := 10) (by omega) (by decide)) (br_f (nI_ne0 (by omega) (by omega)) (q_has (by omega) (by omega) ?_))
          rw [frk_bit.mpr ⟨s1, s2⟩]
          exact br_f (by decide) hE
        | succ d' ih =>
          intro k hk'
          have f10 := frk_lt (a := a) (n := n) hW.1 k
          have fne := frk_ne s1 s2 (show k ≤ s by omega)
          refine br_f (nI_nlt (a := 10) (by omega) (by decide)) (br_f (nI_ne0 (by omega) (by omega)) (q_has (by omega) (by omega) ?_))
          rw [show (frk g a n k).testBit b = false by
            cases e : (frk g a n k).testBit b
            · rfl
            · exact absurd (frk_bit.mp e).1 (s2 k (by omega))]
          refine br_t rfl ⟨N1.2.1.1, q_yawns N1.2.1 hW.1 N1.2.2.2.2 f10 ?_⟩
          rw [fa_and, p_dif, frk_step hW.1 ha, fa_or, Rk_or, nI_1]
          exact ih (k + 1) (by omega)
      exact go _ finX s 0 (by omega)
  · have J := INVx_J I hN
    refine hc _ _ (INVx_M J) ⟨INVx_M J, p_isWell J.2.2.2.1 hW.1 ?_⟩
    rw [i64_32, c]
    refine br_f (by decide) ⟨INVx_M J, p_isWell J.2.2.2.1 hW.1 ?_⟩
    rw [i64_32, d]
    refine br_f (by decide) (p_isNoise ?_)
    rw [cn]
    exact br_t rfl (bad N hN 2 (by decide) (by decide))
  · have J := INVx_J I hN
    refine hc _ _ (INVx_M J) ⟨INVx_M J, p_isWell J.2.2.2.1 hW.1 ?_⟩
    rw [i64_32, c]
    refine br_f (by decide) ⟨INVx_M J, p_isWell J.2.2.2.1 hW.1 ?_⟩
    rw [i64_32, d]
    exact br_t rfl (bad N hN 1 (by decide) (by decide))
  · have J := INVx_J I hN
    refine hc _ _ (INVx_M J) ⟨INVx_M J, p_isWell J.2.2.2.1 hW.1 ?_⟩
    rw [i64_32, c]
    exact br_t rfl (bad N hN 1 (by decide) (by decide))
end JZ
