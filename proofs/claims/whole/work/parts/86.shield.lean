/-! 86: calls: chorus, shield -/
theorem sub_bit {s t m k : Nat} (h : dif s t = 0) (ht : t < 2 ^ m) (hk : m ≤ k) : s.testBit k = false := by
  cases e : s.testBit k
  · rfl
  · have z := dif_0.mp h k e
    rw [Nat.testBit_lt_two_pow (Nat.lt_of_lt_of_le ht (Nat.pow_le_pow_right (by decide) hk))] at z
    cases z
theorem okC_un {g : Nat → Nat} {n s : Nat} (hh : wfH g) (h : dif s (ups g 0) = 0) : unS (rcA g n) s 10 = unS (fun c => clo g c n 0) s (g 1) := by
  have h10 := hh.1.2.1
  have e1 : unS (rcA g n) s 10 = unS (rcA g n) s (g 1) := by
    have := unS_hi (f := rcA g n) (s := s) (m := g 1) (10 - g 1) (fun k hk => sub_bit h (show ups g 0 < 2 ^ g 1 from mk_lt _ _) hk)
    rw [show g 1 + (10 - g 1) = 10 by omega] at this
    exact this
  rw [e1]
  exact unS_cong _ (fun a ha hs => by unfold rcA; rw [if_pos (dif_0.mp h a hs)])
section JS
variable {w : Wd} {B : Nat} {L F : Wd → Prop}
theorem jn_chorus {x y : Int32} (I : INV w B) (hB : B + 99 < 2 ^ 24) (hk : ∀ u, INV u (B + 99) → L u) {K : Int32 → Wd → Prop} (hc : ∀ r w1, isK w1 245 12 → w_X12_chorus 245 x y (fun b w2 => tlT L F r b.toInt64 w2) w1 → K r w1) : w_L_chorus 2 12 64 x y 260 K w := by
  obtain ⟨g, I⟩ := INV_x I
  have hW := I.2.1
  have h10 := hW.1.1.2.1
  have u10 := set_lt hW.1 (show ups g 0 < 2 ^ g 1 from mk_lt _ _)
  refine ⟨I.1.1.1, ⟨by decide, by decide⟩, ⟨by decide, by decide⟩, q_noise (fun n hy hn cn => ⟨⟨by decide, by decide⟩, q_within 0 1 (by decide) (by decide) (fun c => ?_) (fun c N hN => ⟨rfl, ?_⟩)⟩) (fun cn N hN => ⟨rfl, ?_⟩)⟩
  · subst hy
    obtain ⟨a, ha⟩ : ∃ a : Nat, y.toInt = a := ⟨y.toInt.toNat, by omega⟩
    have ha1 : a ≤ 1 := by omega
    obtain ⟨o, ho⟩ : ∃ o, o = bs (okC g n) 1024 := ⟨_, rfl⟩
    have lt : ∀ b, o = some b → b < 1024 := fun b e => bs_10 (ok := okC g n) (i := 1024) (by omega) b (ho.symm.trans e)
    rw [nI_v ha]
    refine nStart I (fun u N => ?_)
    have Iu := nq_x I N
    rw [Iu.1.1.2.2.2.2.2.2.1]
    refine n64 Iu (nChorus I N hn (fun u' N' => ?_))
    rw [← ho]
    refine q_sizeOrSet ha1 lt ?_
    have Iu' := nq_x I N'
    obtain ⟨ans, hans⟩ : ∃ ans : Int32, ans = bsA o a := ⟨_, rfl⟩
    rw [← hans]
    have Io := INVx_o (v := ans.toInt64) Iu'
    have N0 := rq_0 (val := ans.toInt64) Iu'
    refine INVx_out Iu' (hc _ (uL u' 260 0 ans.toInt64) (INVx_M Io) ⟨INVx_M Io, p_isNoise ?_⟩)
    rw [cn]
    refine br_f (by decide) (p_withinI 0 1 (by decide) (by decide) ?_)
    rw [decide_eq_true c, nI_v ha]
    refine br_f (by decide) ⟨N0.2.1.1.1, p_upIn N0.2.1 hW.1 hW.2.2.1 hW.2.2.2.2 (n := 0) (by decide) ⟨g 1 + 1, ?_⟩⟩
    have go : ∀ E : Nat → Int32 → Int32 → Wd → Prop, ∀ KK, (∀ z, rq (uL u' 260 0 ans.toInt64) z g → (∀ c, c < g 1 → wI z 253 c = nI (clo g c n 0)) → E 245 (nI a) (nI (ups g 0)) z) → ∀ d i z, i + d = g 1 → rq (uL u' 260 0 ans.toInt64) z g → (∀ c, c < i → wI z 253 c = nI (clo g c n 0)) → l_X12_chorus_37 E KK (d + 1) 245 (nI n) (nI a) (nI (ups g 0)) (nI i) z := by
      intro E KK hE d
      induction d with
      | zero =>
        intro i z hi Nz hr
        have : i = g 1 := by omega
        subst this
        exact ⟨Nz.2.1.1.1, p_wells Nz.2.1 (br_t (nI_le (Nat.le_refl _) (by omega)) (hE z Nz hr))⟩
      | succ d ih =>
        intro i z hi Nz hr
        refine ⟨Nz.2.1.1.1, p_wells Nz.2.1 (br_f (nI_ge (by omega) (by omega)) ⟨Nz.2.1.1.1, ?_⟩)⟩
        rw [(m20 Nz.1.2.1).1]
        refine ⟨(m20 Nz.1.2.1).2.1, p_chainOf Nz.2.1 hW (by omega) hn (fun f => ?_)⟩
        have N1 := rq_s f Nz
        rw [(m20 N1.1.2.1).2.2, nI_clamp (by omega), nI_1]
        refine ⟨(m20 N1.1.2.1).2.1, vp_in_nI (by omega) (by decide), ih (i + 1) _ (by omega) (rq_wr N1) (fun c hc' => ?_)⟩
        rw [wI_uI]
        by_cases ec : c = i
        · subst ec; rw [if_pos rfl]
        · rw [if_neg ec, wI_sIn (by omega)]; exact hr c (by omega)
    refine go _ _ (fun z Nz hr => ⟨ups g 0 + 2, ?_⟩) (g 1) 0 _ (by omega) N0 (fun c hc' => absurd hc' (Nat.not_lt_zero c))
    have ehi : bs (okC g n) (ups g 0 + 1) = o := by
      rw [ho]
      have := bs_hi (ok := okC g n) (m := ups g 0 + 1) (1024 - (ups g 0 + 1)) (fun s hs => decide_eq_false (fun q => by have := sub_le q.1; omega))
      rw [show ups g 0 + 1 + (1024 - (ups g 0 + 1)) = 1024 by omega] at this
      exact this.symm
    have gs : ∀ E : Int32 → Int32 → Wd → Prop, ∀ KK, E (nI a) (bsI o) z → ∀ d i, i + d = ups g 0 + 1 → l_X12_chorus_72 E KK (d + 1) 245 (nI a) (nI (ups g 0)) (bsI (bs (okC g n) i)) (nI i) z := by
      intro E KK hE d
      induction d with
      | zero =>
        intro i hi
        have : i = ups g 0 + 1 := by omega
        subst this
        rw [ehi]
        exact br_t (nI_lt (by omega) (by omega)) hE
      | succ d ih =>
        intro i hi
        have y := ih (i + 1) (by omega)
        have lt := bs_10 (ok := okC g n) (i := i) (by omega)
        refine br_f (nI_nlt (by omega) (by omega)) ?_
        rw [p_dif, nI_1]
        by_cases cc : dif i (ups g 0) = 0
        · refine br_t (by rw [cc]; rfl) ?_
          have j106 : bsF (bs (okC g n) i) i = true → j_X12_chorus_106 (l_X12_chorus_72 E KK (d + 1)) E KK 245 (nI a) (nI (ups g 0)) (bsI (bs (okC g n) i)) (nI i) z := fun f => by
            rw [bs_s, f, Bool.and_true] at y
            refine ⟨Nz.2.1.1.1, p_allWells Nz.2.1 hW.1 ⟨Nz.2.1.1.1, ?_⟩⟩
            rw [p_dif, nI_1]
            refine rAreWoken hW (set_lt hW.1 (slp_lt g)) Nz hr (by omega) ?_
            have un := okC_un (n := n) hW.1 cc
            by_cases e : dif (slp g) (unS (rcA g n) i 10) = 0
            · rw [if_pos (show okC g n i = true from decide_eq_true ⟨cc, e⟩)] at y
              rw [un] at e
              rw [show decide (dif (dif (allS g) (ups g 0)) (unS (fun c => clo g c n 0) i (g 1)) = 0) = true from decide_eq_true e]
              exact br_f (by decide) y
            · rw [if_neg (by rw [show okC g n i = false from decide_eq_false (fun q => e q.2)]; decide)] at y
              rw [un] at e
              rw [show decide (dif (dif (allS g) (ups g 0)) (unS (fun c => clo g c n 0) i (g 1)) = 0) = false from decide_eq_false e]
              exact br_t rfl y
          cases eo : bs (okC g n) i with
          | none =>
            have z1 := j106 (by rw [eo]; rfl)
            rw [eo] at z1
            exact br_t rfl z1
          | some b =>
            have hb := lt b eo
            have c1 := cb_le b
            have c2 := cb_le i
            refine br_f (fun q => by have := (bsI_neg (o := some b) (fun b' e => by cases e; exact hb)).mp q; cases this) (p_size (by omega) (p_size hb ?_))
            by_cases f : cb i < cb b
            · have z1 := j106 (by rw [eo]; exact decide_eq_true f)
              rw [eo] at z1
              exact br_f (nI_ge f (by omega)) z1
            · rw [bs_s, eo, show bsF (some b) i = false from decide_eq_false f, Bool.and_false, if_neg (by decide)] at y
              exact br_t (nI_le (by omega) (by omega)) y
        · rw [bs_no (show okC g n i = false from decide_eq_false (fun q => cc q.1))] at y
          exact br_f (dif_ne (by omega) cc) y
    refine gs _ _ (p_sizeOrSet (K := fun b w2 => tlT L F 0 b.toInt64 w2) (w := z) ha1 lt ?_) (ups g 0 + 1) 0 (by omega)
    rw [← hans]
    exact rFin Iu' Nz hB hk
  · have J := INVx_J I hN
    have J1 := INVx_t (k := 4) (v := 0) J (by decide) (by decide) (by decide)
    have J2 := INVx_t (k := 4) (v := 1) J1 (by decide) (by decide) (by decide)
    refine hc _ _ (INVx_M J) ⟨INVx_M J, p_isNoise ?_⟩
    rw [cn]
    refine br_f (by decide) (p_withinI 0 1 (by decide) (by decide) ?_)
    rw [decide_eq_false c]
    exact br_t rfl ⟨INVx_M J1, INVx_M J1, finK J2 (by decide) (fw _ _) hB hk⟩
  · have J := INVx_J I hN
    have J1 := INVx_t (k := 4) (v := 0) J (by decide) (by decide) (by decide)
    have J2 := INVx_t (k := 4) (v := 1) J1 (by decide) (by decide) (by decide)
    refine hc _ _ (INVx_M J) ⟨INVx_M J, p_isNoise ?_⟩
    rw [cn]
    exact br_t rfl ⟨INVx_M J1, INVx_M J1, finK J2 (by decide) (fw _ _) hB hk⟩
/-- others of those that a noise wakes -/
noncomputable def oth (g : Nat → Nat) (a n b : Nat) : Nat := dif (clo g a n 0) (2 ^ b)
theorem oth_lt {g : Nat → Nat} {a n b : Nat} : oth g a n b < 2 ^ g 1 := dif_lt (clo_lt _ _ _ _)
noncomputable def okS (g : Nat → Nat) (a n b s : Nat) : Bool := decide (dif s (oth g a n b) = 0) && !(clo g a n s).testBit b
theorem okS_hi {g : Nat → Nat} {a n b s : Nat} (h : oth g a n b < s) : okS g a n b s = false := by
  unfold okS
  rw [decide_eq_false (fun q => by have := sub_le q; omega)]
  rfl
theorem bs_zero {ok : Nat → Bool} (h : ok 0 = true) : ∀ d, bs ok (d + 1) = some 0
  | 0 => by rw [bs_s, h]; rfl
  | d + 1 => by
    rw [bs_s, bs_zero h d]
    rw [show bsF (some 0) (d + 1) = false from decide_eq_false (show ¬ cb (d + 1) < cb 0 by rw [show cb 0 = 0 by decide]; omega), Bool.and_false]
    rfl
theorem nSpread {w u : Wd} {g : Nat → Nat} {K : Int32 → Wd → Prop} {a n s : Nat} (I : INVx w B g) (N : nq w u g) (ha : a < g 1) (hk : K (nI (clo g a n s)) u) : w_X4_spread 85 (nI (once g a n)) (nI (dif (dif (slp g) (2 ^ a)) s)) K u := by
  refine q_spread N.2.1 I.2.1 N.2.2.2.2 (a := a) (n := n) (up := s) (dif_lt (dif_lt (slp_lt g))) (fun b hb => ?_) rfl hk
  rw [dif_bit, dif_bit, slp_bit, Nat.testBit_two_pow]
  simp [hb]
  constructor
  · rintro ⟨⟨h1, h2⟩, h3⟩
    exact ⟨h1, fun e => h2 e.symm, h3⟩
  · rintro ⟨h1, h2, h3⟩
    exact ⟨⟨h1, fun e => h2 e.symm⟩, h3⟩
theorem dif_z (a : Nat) : dif a 0 = a := by unfold dif; simp
theorem nShield {w u : Wd} {g : Nat → Nat} {K : Int32 → Wd → Prop} {a n b : Nat} (I : INVx w B g) (N : nq w u g) (ha : a < g 1) (hb : b < g 1) (hn : n ≤ 99) (hk : ∀ u', nq w u' g → K (bsI (bs (okS g a n b) 1024)) u') : w_X4_leastShield 85 (nI a) (nI n) (nI b) K u := by
  have hW := I.2.1
  have h10 := hW.1.1.2.1
  have Iu := nq_x I N
  obtain ⟨h, Lx, e0, k5⟩ := x_P Iu
  have o10 := set_lt hW.1 (show once g a n < 2 ^ g 1 from mk_lt _ _)
  have c10 : ∀ s, clo g a n s < 1024 := fun s => set_lt hW.1 (clo_lt g a n s)
  refine ⟨N.2.1.1, q_once N.2.1 N.2.2.1 N.2.2.2.1 Lx.1 hW (LX_nT Lx (by omega)) ha hn (fun u1 hu1 => ?_)⟩
  have N1 := nq_s N hu1
  refine ⟨N1.2.1.1, ?_⟩
  rw [N1.2.2.2.1, p_one (by omega), p_dif]
  have sp0 := fun (K' : Int32 → Wd → Prop) hk' => nSpread (K := K') (n := n) (s := 0) I N1 ha hk'
  rw [dif_z] at sp0
  refine sp0 _ (q_has (by have := c10 0; omega) (by omega) ?_)
  cases e : (clo g a n 0).testBit b
  · have z := hk u1 N1
    rw [bs_zero (show okS g a n b 0 = true by unfold okS; rw [e, decide_eq_true (show dif 0 (oth g a n b) = 0 by unfold dif; simp)]; rfl) 1023] at z
    exact br_t rfl z
  have ok0 : okS g a n b 0 = false := by unfold okS; rw [e]; simp
  refine br_f (by decide) ⟨1023 + 1, ?_⟩
  rw [p_one (by omega), p_dif]
  by_cases fb : (once g a n).testBit b = true
  · have no : ∀ s, okS g a n b s = false := fun s => by
      unfold okS
      by_cases q : dif s (oth g a n b) = 0
      · have sb : s.testBit b = false := by
          cases es : s.testBit b
          · rfl
          · have := dif_0.mp q b es
            unfold oth at this
            rw [dif_bit, Nat.testBit_two_pow] at this
            simp at this
        have wk : wkn g a b n = true := by rw [← once_b hb]; exact fb
        rw [show (clo g a n s).testBit b = true from (clo_bit g a n s b).mpr ⟨hb, rch_0 hb (clo_up e).2.1 sb wk⟩]
        simp
      · rw [decide_eq_false q]; rfl
    have z := hk u1 N1
    rw [show bs (okS g a n b) 1024 = none by have := bs_hi (ok := okS g a n b) (m := 0) 1024 (fun s _ => no s); rw [Nat.zero_add] at this; rw [this]; rfl] at z
    refine br_f (by decide) (q_has (by omega) (by omega) ?_)
    rw [fb]
    exact br_f (by decide) z
  have fb' : (once g a n).testBit b = false := by
    cases q : (once g a n).testBit b
    · rfl
    · exact absurd q fb
  have gs : ∀ d i, i + d = 1024 → l_X4_leastShield_57 K (d + 1) 85 (nI b) (nI (once g a n)) (nI (dif (slp g) (2 ^ a))) (nI (dif (clo g a n 0) (2 ^ b))) (bsI (bs (okS g a n b) i)) (nI i) u1 := by
    intro d
    induction d with
    | zero =>
      intro i hi
      have : i = 1024 := by omega
      subst this
      exact br_t (by decide) (hk u1 N1)
    | succ d ih =>
      intro i hi
      have z := ih (i + 1) (by omega)
      have lt := bs_10 (ok := okS g a n b) (i := i) (by omega)
      refine br_f (nI_ge (b := 1024) (by omega) (by decide)) (q_has (by omega) (by omega) ?_)
      rw [fb']
      refine br_t rfl ?_
      rw [p_dif, nI_1]
      by_cases c : dif i (oth g a n b) = 0
      · refine br_t (by rw [show dif i (dif (clo g a n 0) (2 ^ b)) = 0 from c]; rfl) (q_isFewer (by omega) lt ?_)
        cases f : bsF (bs (okS g a n b) i) i
        · rw [bs_s, f, Bool.and_false, if_neg (by decide)] at z
          exact br_t rfl z
        · rw [bs_s, f, Bool.and_true] at z
          refine br_f (by decide) ⟨N1.2.1.1, ?_⟩
          rw [p_dif]
          refine nSpread I N1 ha (q_has (by have := c10 i; omega) (by omega) ?_)
          cases e2 : (clo g a n i).testBit b
          · rw [if_pos (show okS g a n b i = true by unfold okS; rw [e2, decide_eq_true c]; rfl)] at z
            exact br_t rfl z
          · rw [if_neg (by rw [show okS g a n b i = false by unfold okS; rw [e2]; simp]; decide)] at z
            exact br_f (by decide) z
      · rw [bs_no (show okS g a n b i = false by unfold okS; rw [decide_eq_false c]; rfl)] at z
        exact br_f (dif_ne (by omega) c) z
  have z := gs 1023 1 (by omega)
  rw [bs_no ok0] at z
  exact z
end JS
