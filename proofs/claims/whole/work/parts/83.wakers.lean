/-! 83: calls: wakers, leastNoise, quietest, loudest -/
noncomputable def wkrs (g : Nat → Nat) (v n : Nat) : Nat := mk (fun a => upb g 0 a && (clo g a n 0).testBit v) (g 1)
theorem wkrs_lt (g : Nat → Nat) (v n : Nat) : wkrs g v n < 2 ^ g 1 := mk_lt _ _
theorem wkrs_up {g : Nat → Nat} {v n : Nat} (h : upb g 0 v = true) : wkrs g v n = 0 := mk_ext (mk_lt _ _) (Nat.two_pow_pos _) (fun k hk => by
  unfold wkrs
  rw [mk_bit, Nat.zero_testBit]
  cases e : (clo g k n 0).testBit v
  · simp
  · rw [(clo_up e).1] at h; cases h)
theorem br_0 {c A B : Prop} (h : A) (k : B) : (c → A) ∧ (¬ c → B) := ⟨fun _ => h, fun _ => k⟩
section WK
variable {w u : Wd} {B : Nat} {g : Nat → Nat} {v n : Nat}
theorem nWakers {K : Int32 → Wd → Prop} (I : INVx w B g) (N : nq w u g) (hv : v < g 1) (hn : n ≤ 99) (hk : ∀ u', nq w u' g → K (nI (wkrs g v n)) u') : w_X4_awakeOnesThatWake 85 (nI v) (nI n) K u := by
  have hW := I.2.1
  have h10 := hW.1.1.2.1
  have hz := set_lt hW.1 (slp_lt g)
  have Iu := nq_x I N
  obtain ⟨h, Lx, e0, k5⟩ := x_P Iu
  have H := Lx.1.1.1.2.2
  unfold w_X4_awakeOnesThatWake
  rw [N.2.2.2.1]
  refine ⟨N.2.1.1, q_has (by omega) (by omega) ?_⟩
  rw [slp_bit, decide_eq_true hv]
  cases e : upb g 0 v
  case true =>
    have z := hk u N
    rw [wkrs_up e] at z
    exact br_t rfl z
  refine br_f (by decide) ⟨N.2.1.1, ?_⟩
  rw [N.2.2.1, Lx.1.1.1.2.1]
  refine ⟨Lx.1.1.1.1, H.1, q_allWells H hW.1 ⟨N.2.1.1, 10 + 1, ?_⟩⟩
  rw [N.2.2.2.1, p_dif]
  have ab : ∀ a, (dif (allS g) (slp g)).testBit a = (decide (a < g 1) && upb g 0 a) := fun a => by
    rw [dif_bit, slp_bit]
    unfold allS
    rw [Nat.testBit_two_pow_sub_one]
    cases decide (a < g 1) <;> simp
  have al : dif (allS g) (slp g) < 2 ^ g 1 := dif_lt (show 2 ^ g 1 - 1 < 2 ^ g 1 by have := Nat.two_pow_pos (g 1); omega)
  have al10 := set_lt hW.1 al
  have go : ∀ d i u, i + d = 10 → nq w u g → l_X4_awakeOnesThatWake_37 K (d + 1) 85 (nI v) (nI n) (nI (mk (fun a => decide (a < g 1) && (upb g 0 a && (clo g a n 0).testBit v)) i)) (nI (dif (allS g) (slp g))) (nI i) u := by
    intro d
    induction d with
    | zero =>
      intro i u hi Nu
      have : i = 10 := by omega
      subst this
      have em : mk (fun a => decide (a < g 1) && (upb g 0 a && (clo g a n 0).testBit v)) 10 = wkrs g v n := mk_ext (mk_lt _ _) (mk_le _ h10) (fun k hk' => by unfold wkrs; rw [mk_bit, mk_bit]; simp [hk'])
      rw [em]
      exact br_t (by decide) (hk u Nu)
    | succ d ih =>
      intro i u hi Nu
      have off : (decide (i < g 1) && (upb g 0 i && (clo g i n 0).testBit v)) = false → ∀ u, nq w u g → l_X4_awakeOnesThatWake_37 K (d + 1) 85 (nI v) (nI n) (nI (mk (fun a => decide (a < g 1) && (upb g 0 a && (clo g a n 0).testBit v)) i)) (nI (dif (allS g) (slp g))) (nI i + 1) u := fun e u Nu => by
        have z := ih (i + 1) u (by omega) Nu
        rw [mk_f (p := fun a => decide (a < g 1) && (upb g 0 a && (clo g a n 0).testBit v)) e] at z
        rw [nI_1]
        exact z
      refine br_f (nI_ge (b := 10) (by omega) (by decide)) (q_has (by omega) (by omega) ?_)
      rw [ab]
      by_cases hi1 : i < g 1
      case neg =>
        rw [decide_eq_false hi1]
        exact br_t rfl (off (by simp [hi1]) u Nu)
      rw [decide_eq_true hi1]
      cases e1 : upb g 0 i
      · exact br_t rfl (off (by simp [e1]) u Nu)
      refine br_f (by decide) ⟨Nu.2.1.1, nWoken I Nu hi1 hn (fun u' N' => q_has ?_ (by omega) ?_)⟩
      · have := set_lt hW.1 (clo_lt g i n 0); omega
      cases e2 : (clo g i n 0).testBit v
      · exact br_t rfl (off (by simp [e2]) u' N')
      · have z := ih (i + 1) u' (by omega) N'
        rw [mk_t (p := fun a => decide (a < g 1) && (upb g 0 a && (clo g a n 0).testBit v)) (by simp [hi1, e1, e2])] at z
        refine br_f (by decide) ?_
        rw [p_one (by omega), p_or _ (by omega), nI_1]
        exact z
  exact go 10 0 u (by omega) N
theorem rWakers {z : Wd} {K : Int32 → Wd → Prop} (N : rq u z g) (hW : WF g B) (hv : v < g 1) (hn : n ≤ 99) (hk : ∀ z', rq u z' g → K (nI (wkrs g v n)) z') : w_X12_wakersOf 245 (nI v) (nI n) K z := by
  have h10 := hW.1.1.2.1
  have go : ∀ d i z, i + d = g 1 → rq u z g → l_X12_wakersOf_5 K (d + 1) 245 (nI v) (nI n) (nI (mk (fun a => upb g 0 a && (clo g a n 0).testBit v) i)) (nI i) z := by
    intro d
    induction d with
    | zero =>
      intro i z hi Nz
      have : i = g 1 := by omega
      subst this
      exact ⟨Nz.2.1.1.1, p_wells Nz.2.1 (br_t (nI_le (Nat.le_refl _) (by omega)) (hk z Nz))⟩
    | succ d ih =>
      intro i z hi Nz
      have off : (upb g 0 i && (clo g i n 0).testBit v) = false → ∀ z, rq u z g → l_X12_wakersOf_5 K (d + 1) 245 (nI v) (nI n) (nI (mk (fun a => upb g 0 a && (clo g a n 0).testBit v) i) ||| 0) (nI i + 1) z := fun e z Nz => by
        have y := ih (i + 1) z (by omega) Nz
        rw [mk_f (p := fun a => upb g 0 a && (clo g a n 0).testBit v) e] at y
        rw [nI_1, p_or0]
        exact y
      refine ⟨Nz.2.1.1.1, p_wells Nz.2.1 (br_f (nI_ge (by omega) (by omega)) ?_)⟩
      by_cases ev : i = v
      · subst ev
        refine br_t rfl (off ?_ z Nz)
        cases e : (clo g i n 0).testBit i
        · simp
        · exact absurd rfl (clo_up e).2.1
      refine br_f (fun q => ev ((nI_eq (by omega) (by omega)).mp q)) ⟨Nz.2.1.1.1, p_isUp Nz.2.1 hW.1 hW.2.2.1 hW.2.2.2.2 (by omega) ?_⟩
      cases e1 : upb g 0 i
      · exact br_t rfl (off (by simp [e1]) z Nz)
      refine br_f (by decide) ⟨Nz.2.1.1.1, rChain Nz hW (by omega) hn (fun z' N' => p_xhas ?_ (by omega) ?_)⟩
      · have := set_lt hW.1 (clo_lt g i n 0); omega
      cases e2 : (clo g i n 0).testBit v
      · exact br_t rfl (off (by simp [e2]) z' N')
      · have y := ih (i + 1) z' (by omega) N'
        rw [mk_t (p := fun a => upb g 0 a && (clo g a n 0).testBit v) (by simp [e1, e2])] at y
        refine br_f (by decide) ?_
        rw [p_one (by omega), p_or _ (by omega), nI_1]
        exact y
  exact ⟨g 1 + 1, go (g 1) 0 z (by omega) N⟩
end WK
section JW
variable {w : Wd} {B : Nat} {L F : Wd → Prop}
theorem jn_wakers {x y : Int32} (I : INV w B) (hB : B + 99 < 2 ^ 24) (hk : ∀ u, INV u (B + 99) → L u) {K : Int32 → Wd → Prop} (hc : ∀ r w1, isK w1 245 12 → w_X12_wakers 245 x y (fun b w2 => tlT L F r b.toInt64 w2) w1 → K r w1) : w_L_wakers 2 12 64 x y 260 K w := by
  obtain ⟨g, I⟩ := INV_x I
  have hW := I.2.1
  refine ⟨I.1.1.1, ⟨by decide, by decide⟩, I.1.1.1, ⟨by decide, by decide⟩, q_needWell I.1 hW I.2.2.1 (fun c => ⟨⟨by decide, by decide⟩, q_noise (fun n hy hn cn => ?_) (fun cn N hN => Or.inr ⟨rfl, ?_⟩)⟩) (fun c N hN => Or.inl ⟨rfl, ?_⟩)⟩
  · obtain ⟨a, rfl, ha, -⟩ := isB_v c
    subst hy
    refine nStart I (fun u N => ?_)
    have Iu := nq_x I N
    rw [Iu.1.1.2.2.2.2.2.2.1]
    refine n64 Iu (nWakers I N ha hn (fun u' N' => ?_))
    have Iu' := nq_x I N'
    have Io := INVx_o (v := (nI (wkrs g a n)).toInt64) Iu'
    refine INVx_out Iu' (hc _ _ (INVx_M Io) ⟨INVx_M Io, p_isWell Io.2.2.2.1 hW.1 ?_⟩)
    rw [i64_32, c]
    refine br_f (by decide) (p_isNoise ?_)
    rw [cn]
    refine br_f (by decide) ⟨INVx_M Io, ?_⟩
    rw [fw]
    exact br_t (by decide) (rWakers (rq_0 Iu') hW ha hn (fun v Nv => rFin Iu' Nv hB hk))
  · have J := INVx_J I hN
    have J1 := INVx_t (k := 4) (v := 2) J (by decide) (by decide) (by decide)
    refine hc _ _ (INVx_M J) ⟨INVx_M J, p_isWell J.2.2.2.1 hW.1 ?_⟩
    rw [i64_32, c]
    refine br_f (by decide) (p_isNoise ?_)
    rw [cn]
    refine br_t rfl ⟨INVx_M J, ?_⟩
    rw [fw]
    exact br_f (by decide) (finK J1 (by decide) (fw _ _) hB hk)
  · have J := INVx_J I hN
    have J1 := INVx_t (k := 4) (v := 1) J (by decide) (by decide) (by decide)
    refine hc _ _ (INVx_M J) ⟨INVx_M J, p_isWell J.2.2.2.1 hW.1 ?_⟩
    rw [i64_32, c]
    refine br_t rfl ⟨INVx_M J, ?_⟩
    rw [fw]
    exact br_f (by decide) (finK J1 (by decide) (fw _ _) hB hk)
theorem jn_leastNoise {x y : Int32} (I : INV w B) (hB : B + 99 < 2 ^ 24) (hk : ∀ u, INV u (B + 99) → L u) {K : Int32 → Wd → Prop} (hc : ∀ r w1, isK w1 245 12 → w_X12_leastNoise 245 x y (fun b w2 => tlT L F r b.toInt64 w2) w1 → K r w1) : w_L_leastNoise 2 12 64 x y 260 K w := by
  obtain ⟨g, I⟩ := INV_x I
  have hW := I.2.1
  refine ⟨I.1.1.1, ⟨by decide, by decide⟩, I.1.1.1, ⟨by decide, by decide⟩, q_needWell I.1 hW I.2.2.1 (fun c => ⟨⟨by decide, by decide⟩, q_within 0 1 (by decide) (by decide) (fun cn => ?_) (fun cn N hN => Or.inr ⟨rfl, ?_⟩)⟩) (fun c N hN => Or.inl ⟨rfl, ?_⟩)⟩
  · obtain ⟨v, rfl, hv, -⟩ := isB_v c
    obtain ⟨a, ha⟩ : ∃ a : Nat, y.toInt = a := ⟨y.toInt.toNat, by omega⟩
    have ha1 : a ≤ 1 := by omega
    rw [nI_v ha]
    obtain ⟨k, k1, k2, k3⟩ := jd_ex (fun j => if wkrs g v j = 0 then 0 else 1) 100
    have k2' : ∀ j, j < k → wkrs g v j = 0 := fun j hj => by
      have : (if wkrs g v j = 0 then 0 else 1) = 0 := k2 j hj
      by_cases z : wkrs g v j = 0
      · exact z
      · rw [if_neg z] at this; cases this
    have k3' : k < 100 → wkrs g v k ≠ 0 := fun hk' z => k3 hk' (show (if wkrs g v k = 0 then 0 else 1) = 0 by rw [if_pos z])
    have s10 : ∀ j, wkrs g v j < 1024 := fun j => set_lt hW.1 (wkrs_lt g v j)
    obtain ⟨ans, hans⟩ : ∃ ans : Int32, ans = if k < 100 then (if a = 0 then nI k else nI (lb (wkrs g v k))) else -1 := ⟨_, rfl⟩
    refine nStart I (fun u N => ⟨k + 1, ?_⟩)
    have go : ∀ E : Int32 → Wd → Prop, ∀ X, (∀ u, nq w u g → E ans u) → ∀ d j u, j + d = k → nq w u g → l_X11_leastNoise_27 2 12 X E (d + 1) 64 (nI v) (nI a) (nI j) 2 12 u := by
      intro E X hE d
      induction d with
      | zero =>
        intro j u hj Nu
        have : j = k := by omega
        subst this
        have Iu := nq_x I Nu
        unfold l_X11_leastNoise_27
        rw [Iu.1.1.2.2.2.2.2.2.1]
        by_cases ek : j < 100
        · rw [if_pos ek] at hans
          refine br_f (nI_nlt (a := 99) (by omega) (by decide)) (n64 Iu (nWakers I Nu hv (by omega) (fun u' N' => br_f (nI_ne0 (by have := k3' ek; omega) (by have := s10 j; omega)) ?_)))
          have z := hE u' N'
          rw [hans] at z
          by_cases a0 : a = 0
          · rw [if_pos a0] at z; exact br_t (by rw [a0]; rfl) z
          · rw [if_neg a0] at z; exact br_f (nI_ne0 (by omega) (by omega)) (q_ntz (s10 j) (by have := k3' ek; omega) z)
        · rw [if_neg ek] at hans
          have z := hE u Nu
          rw [hans] at z
          exact br_t (nI_lt (a := 99) (by omega) (by omega)) z
      | succ d ih =>
        intro j u hj Nu
        have Iu := nq_x I Nu
        unfold l_X11_leastNoise_27
        rw [Iu.1.1.2.2.2.2.2.2.1]
        refine br_f (nI_nlt (a := 99) (by omega) (by decide)) (n64 Iu (nWakers I Nu hv (by omega) (fun u' N' => br_t (by rw [k2' j (by omega)]; rfl) ?_)))
        rw [nI_1]
        exact ih (j + 1) u' (by omega) N'
    refine go _ _ (fun u' N' => ?_) k 0 u (by omega) N
    have Iu' := nq_x I N'
    have Io := INVx_o (v := ans.toInt64) Iu'
    refine INVx_out Iu' (hc _ _ (INVx_M Io) ⟨INVx_M Io, p_isWell Io.2.2.2.1 hW.1 ?_⟩)
    rw [i64_32, c]
    refine br_f (by decide) (p_withinI 0 1 (by decide) (by decide) ?_)
    rw [decide_eq_true cn, nI_v ha]
    refine br_f (by decide) ⟨INVx_M Io, ?_⟩
    rw [fw]
    refine br_t (by decide) ⟨k + 1, ?_⟩
    have gr : ∀ E : Int32 → Wd → Prop, (∀ z, rq (uL u' 260 0 ans.toInt64) z g → E ans z) → ∀ d j z, j + d = k → rq (uL u' 260 0 ans.toInt64) z g → l_X12_leastNoise_43 E (d + 1) 245 (nI v) (nI a) (nI j) z := by
      intro E hE d
      induction d with
      | zero =>
        intro j z hj Nz
        have : j = k := by omega
        subst this
        by_cases ek : j < 100
        · rw [if_pos ek] at hans
          refine br_f (nI_nlt (a := 99) (by omega) (by decide)) ⟨Nz.2.1.1.1, rWakers Nz hW hv (by omega) (fun z' N' => br_f (nI_ne0 (by have := k3' ek; omega) (by have := s10 j; omega)) ?_)⟩
          have y := hE z' N'
          rw [hans] at y
          by_cases a0 : a = 0
          · rw [if_pos a0] at y; exact br_t (by rw [a0]; rfl) y
          · rw [if_neg a0] at y; exact br_f (nI_ne0 (by omega) (by omega)) (p_firstOf (s10 j) (by have := k3' ek; omega) y)
        · rw [if_neg ek] at hans
          have y := hE z Nz
          rw [hans] at y
          exact br_t (nI_lt (a := 99) (by omega) (by omega)) y
      | succ d ih =>
        intro j z hj Nz
        refine br_f (nI_nlt (a := 99) (by omega) (by decide)) ⟨Nz.2.1.1.1, rWakers Nz hW hv (by omega) (fun z' N' => br_t (by rw [k2' j (by omega)]; rfl) ?_)⟩
        rw [nI_1]
        exact ih (j + 1) z' (by omega) N'
    exact gr _ (fun z Nz => rFin Iu' Nz hB hk) k 0 _ (by omega) (rq_0 Iu')
  · have J := INVx_J I hN
    have J1 := INVx_t (k := 4) (v := 2) J (by decide) (by decide) (by decide)
    refine hc _ _ (INVx_M J) ⟨INVx_M J, p_isWell J.2.2.2.1 hW.1 ?_⟩
    rw [i64_32, c]
    refine br_f (by decide) (p_withinI 0 1 (by decide) (by decide) ?_)
    rw [decide_eq_false cn]
    refine br_t rfl ⟨INVx_M J, ?_⟩
    rw [fw]
    exact br_f (by decide) (finK J1 (by decide) (fw _ _) hB hk)
  · have J := INVx_J I hN
    have J1 := INVx_t (k := 4) (v := 1) J (by decide) (by decide) (by decide)
    refine hc _ _ (INVx_M J) ⟨INVx_M J, p_isWell J.2.2.2.1 hW.1 ?_⟩
    rw [i64_32, c]
    refine br_t rfl ⟨INVx_M J, ?_⟩
    rw [fw]
    exact br_f (by decide) (finK J1 (by decide) (fw _ _) hB hk)
theorem once_clo {g : Nat → Nat} {v n : Nat} (hup : upb g 0 v = true) : once g v n = 0 ↔ clo g v n 0 = 0 := by
  constructor
  · intro h
    refine mk_ext (clo_lt g v n 0) (Nat.two_pow_pos _) (fun k hk => ?_)
    rw [Nat.zero_testBit]
    cases e : (clo g v n 0).testBit k
    · rfl
    exfalso
    have z := ((clo_bit g v n 0 k).mp e).2
    refine rch_ind (S := fun _ => False) (fun b h1 h2 h3 h4 => ?_) (fun b c h1 h2 h3 h4 h5 h6 => h5) z
    have q : (once g v n).testBit b = true := by rw [once_b h1]; exact h4
    rw [h, Nat.zero_testBit] at q
    cases q
  · intro h
    refine mk_ext (show once g v n < 2 ^ g 1 from mk_lt _ _) (Nat.two_pow_pos _) (fun k hk => ?_)
    rw [Nat.zero_testBit, once_b hk]
    cases e : wkn g v k n
    · rfl
    exfalso
    have ne : k ≠ v := fun z => by
      subst z
      unfold wkn at e
      rw [hup] at e
      simp at e
    have q : (clo g v n 0).testBit k = true := (clo_bit g v n 0 k).mpr ⟨hk, rch_0 hk ne (Nat.zero_testBit k) e⟩
    rw [h, Nat.zero_testBit] at q
    cases q
/-- a draw could be now, and were quiet -/
noncomputable def qz (g : Nat → Nat) (v n : Nat) : Bool := decide (whyD g v n = 0 ∧ once g v n = 0)
theorem whyD_up {g : Nat → Nat} {v : Nat} {y : Int} (h : whyD g v y = 0) : upb g 0 v = true := by
  unfold whyD at h
  split at h
  · cases h
  split at h
  · cases h
  split at h
  · cases h
  rename_i c
  cases e : upb g 0 v
  · exact absurd e (by rw [Int.toNat_natCast] at c; exact c)
  · rfl
noncomputable def qst (g : Nat → Nat) (v : Nat) : Nat → Nat
  | 0 => 0
  | n + 1 => if qz g v (n + 1) = true then n + 1 else qst g v n
theorem qst_le (g : Nat → Nat) (v : Nat) : ∀ n, qst g v n ≤ n
  | 0 => Nat.le_refl _
  | n + 1 => by
    have := qst_le g v n
    unfold qst
    split <;> omega
theorem qst_hi {g : Nat → Nat} {v m : Nat} : ∀ d, (∀ n, m < n → qz g v n = false) → qst g v (m + d) = qst g v m
  | 0, _ => rfl
  | d + 1, h => by
    show (if qz g v (m + d + 1) = true then m + d + 1 else qst g v (m + d)) = _
    rw [if_neg (by rw [h _ (by omega)]; decide), qst_hi d h]
theorem rQuiet {u z : Wd} {g : Nat → Nat} {v n : Nat} {K : Int32 → Wd → Prop} (N : rq u z g) (hW : WF g B) (hv : v < g 1) (hn : n ≤ 99) (hk : ∀ z', rq u z' g → K (b2i (qz g v n)) z') : w_X12_isQuiet 245 (nI v) (nI n) K z := by
  have h10 := hW.1.1.2.1
  have wl := whyD_le g v n
  refine ⟨N.2.1.1.1, p_whyDraw N.2.1 hW ?_⟩
  rw [i64_32, i64_32, nI_toInt (by omega), nI_toInt (by omega)]
  by_cases c : whyD g v n = 0
  · refine br_t (by rw [c]; rfl) ⟨N.2.1.1.1, rChain N hW hv hn (fun z' N' => ?_)⟩
    have y := hk z' N'
    have oc := once_clo (n := n) (whyD_up c)
    by_cases d : clo g v n 0 = 0
    · rw [show qz g v n = true from decide_eq_true ⟨c, oc.mpr d⟩] at y
      exact br_t (by rw [d]; rfl) y
    · rw [show qz g v n = false from decide_eq_false (fun q => d (oc.mp q.2))] at y
      exact br_f (nI_ne0 (by omega) (by have := set_lt hW.1 (clo_lt g v n 0); omega)) y
  · have y := hk z N
    rw [show qz g v n = false from decide_eq_false (fun q => c q.1)] at y
    exact br_f (nI_ne0 (by omega) (by omega)) y
theorem jn_quietest {x : Int32} (I : INV w B) (hB : B + 99 < 2 ^ 24) (hk : ∀ u, INV u (B + 99) → L u) {K : Int32 → Wd → Prop} (hc : ∀ r w1, isK w1 245 12 → w_X12_quietest 245 x (fun b w2 => tlT L F r b.toInt64 w2) w1 → K r w1) : w_L_quietest 1 6 64 x 260 K w := by
  obtain ⟨g, I⟩ := INV_x I
  have hW := I.2.1
  have h10 := hW.1.1.2.1
  refine ⟨I.1.1.1, ⟨by decide, by decide⟩, I.1.1.1, ⟨by decide, by decide⟩, q_needWell I.1 hW I.2.2.1 (fun c => ?_) (fun c N hN => ⟨rfl, ?_⟩)⟩
  · obtain ⟨v, rfl, hv, -⟩ := isB_v c
    have ql := qst_le g v 99
    refine nLook I (fun u Iu P => ⟨100, ?_⟩)
    have go : ∀ E : Int32 → Wd → Prop, ∀ X, (∀ u, INVx u B g → E (nI (qst g v 99)) u) → ∀ n u, n ≤ 99 → qst g v n = qst g v 99 → INVx u B g → NP u 85 92 g 0 → l_X11_quietest_22 1 6 X E (n + 1) 64 (nI v) (nI n) 1 6 u := by
      intro E X hE n
      induction n with
      | zero =>
        intro u hn hq Iu P
        have z := hE u Iu
        rw [← hq] at z
        exact br_t (by decide) z
      | succ n ih =>
        intro u hn hq Iu P
        obtain ⟨h, Lx, e0, k5⟩ := x_P Iu
        have wl := whyD_le g v ((n + 1 : Nat) : Int)
        unfold l_X11_quietest_22
        rw [Iu.1.1.2.1, e0]
        refine br_f (nI_nlt (b := 1) (by omega) (by omega)) ⟨Iu.1.1.1, k5, Lx.1.1.1.1, q_whyD Lx.1.1 hW ?_⟩
        rw [nI_toInt (by omega), nI_toInt (by omega)]
        have off : qz g v (n + 1) = false → ∀ u, INVx u B g → NP u 85 92 g 0 → l_X11_quietest_22 1 6 X E (n + 1) 64 (nI v) (nI (n + 1) + (-1)) 1 6 u := fun e u Iu P => by
          rw [pk_m1]
          refine ih u (by omega) ?_ Iu P
          rw [← hq]
          show _ = if qz g v (n + 1) = true then n + 1 else qst g v n
          rw [if_neg (by rw [e]; decide)]
        by_cases c1 : whyD g v ((n + 1 : Nat) : Int) = 0
        · refine br_t (by rw [c1]; rfl) (nOnce Iu P hv (by omega) (fun u' hu' Iu' P' => ?_))
          by_cases d : once g v (n + 1) = 0
          · have z := hE u' Iu'
            rw [← hq, show qst g v (n + 1) = n + 1 by show (if qz g v (n + 1) = true then n + 1 else qst g v n) = _; rw [if_pos (show qz g v (n + 1) = true from decide_eq_true ⟨c1, d⟩)]] at z
            exact br_t (by rw [d]; rfl) z
          · exact br_f (nI_ne0 (by omega) (by have := set_lt hW.1 (show once g v (n + 1) < 2 ^ g 1 from mk_lt _ _); omega)) (off (decide_eq_false (fun q => d q.2)) u' Iu' P')
        · exact br_f (nI_ne0 (by omega) (by omega)) (off (decide_eq_false (fun q => c1 q.1)) u Iu P)
    refine go _ _ (fun u' Iu' => ?_) 99 u (by omega) rfl Iu P
    have Io := INVx_o (v := (nI (qst g v 99)).toInt64) Iu'
    have N0 := rq_0 (val := (nI (qst g v 99)).toInt64) Iu'
    refine INVx_out Iu' (hc _ (uL u' 260 0 (nI (qst g v 99)).toInt64) (INVx_M Io) ⟨INVx_M Io, p_isWell N0.2.1 hW.1 ?_⟩)
    rw [i64_32, c]
    obtain ⟨a1, a2, a3⟩ := p_rd (k := 15 + v) N0.2.1 (by omega) (P := fun z => z = nI (g (15 + v))) rfl
    rw [show nI (15 + v) = 15 + nI v from (nI_add 15 v).symm] at a2 a3
    have qd := hW.1.2.1 v hv
    have q2 : g (15 + v) ≤ g (47 + v) := (hW.2.2.1.1 v hv).2
    have hi : ∀ n, g (15 + v) < n → qz g v n = false := fun n hn => decide_eq_false (fun q => by
      obtain ⟨v', n', e1, e2, -, -, -, e3⟩ := whyD_0 q.1
      have : v' = v := by omega
      subst this
      omega)
    refine br_f (by decide) ⟨N0.2.1.1.1, a1, a2, ?_⟩
    rw [a3]
    have gr : ∀ E : Int32 → Wd → Prop, (∀ z, rq (uL u' 260 0 (nI (qst g v 99)).toInt64) z g → E (nI (qst g v 99)) z) → ∀ n z, n ≤ 99 → qst g v n = qst g v 99 → rq (uL u' 260 0 (nI (qst g v 99)).toInt64) z g → l_X12_quietest_35 E (n + 1) 245 (nI v) (nI n) z := by
      intro E hE n
      induction n with
      | zero =>
        intro z hn hq Nz
        have y := hE z Nz
        rw [← hq] at y
        exact br_t (by decide) y
      | succ n ih =>
        intro z hn hq Nz
        refine br_f (fun q => by have := (nI_leI (b := 0) (by omega) (by decide)).mp q; omega) ⟨Nz.2.1.1.1, rQuiet Nz hW hv hn (fun z' N' => ?_)⟩
        cases e : qz g v (n + 1)
        · refine br_t rfl ?_
          rw [pk_m1]
          refine ih z' (by omega) ?_ N'
          rw [← hq]
          show _ = if qz g v (n + 1) = true then n + 1 else qst g v n
          rw [if_neg (by rw [e]; decide)]
        · have y := hE z' N'
          rw [← hq, show qst g v (n + 1) = n + 1 by show (if qz g v (n + 1) = true then n + 1 else qst g v n) = _; rw [if_pos e]] at y
          exact br_f (by decide) y
    have fin : ∀ m, m ≤ 99 → qst g v m = qst g v 99 → ∃ n, l_X12_quietest_35 (fun b w2 => tlT L F 0 b.toInt64 w2) n 245 (nI v) (nI m) (uI (uL u' 260 0 (nI (qst g v 99)).toInt64) 245 4 0) := fun m hm hq => ⟨m + 1, gr _ (fun z Nz => rFin Iu' Nz hB hk) m _ hm hq N0⟩
    by_cases cw : g (15 + v) < 99
    · refine br_t (nI_lt (b := 99) cw (by decide)) (fin _ (by omega) ?_)
      have := qst_hi (g := g) (v := v) (99 - g (15 + v)) hi
      rw [show g (15 + v) + (99 - g (15 + v)) = 99 by omega] at this
      exact this.symm
    · exact br_f (nI_nlt (b := 99) (by omega) (by omega)) (fin 99 (by omega) rfl)
  · have J := INVx_J I hN
    have J1 := INVx_t (k := 4) (v := 0) J (by decide) (by decide) (by decide)
    have J2 := INVx_t (k := 4) (v := 1) J1 (by decide) (by decide) (by decide)
    refine hc _ _ (INVx_M J) ⟨INVx_M J, p_isWell J1.2.2.2.1 hW.1 ?_⟩
    rw [i64_32, c]
    exact br_t rfl ⟨INVx_M J1, INVx_M J1, finK J2 (by decide) (fw _ _) hB hk⟩
end JW
