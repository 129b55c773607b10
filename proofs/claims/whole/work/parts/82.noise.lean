/-! 82: calls: noises -/
def ntz62 (a b : Int32) : Int32 := if a ≤ 4 then b + x_iushr a 1 else (b + 2) + x_iushr (x_iushr a 2) 1
def ntz34 (a b : Int32) : Int32 := if a ≤ 256 then (if a ≤ 16 then ntz62 a b else ntz62 (x_iushr a 4) (b + 4)) else if x_iushr a 8 ≤ 16 then ntz62 (x_iushr a 8) (b + 8) else ntz62 (x_iushr (x_iushr a 8) 4) ((b + 8) + 4)
def ntzF (x : Int32) : Int32 := if 0 < (x ^^^ (-1)) &&& (x - 1) then (if (x ^^^ (-1)) &&& (x - 1) ≤ 65536 then ntz34 ((x ^^^ (-1)) &&& (x - 1)) 1 else ntz34 (x_iushr ((x ^^^ (-1)) &&& (x - 1)) 16) (1 + 16)) else ((x ^^^ (-1)) &&& (x - 1)) &&& 32
theorem br_i {c : Prop} (d : Decidable c) {K : Int32 → Wd → Prop} {w : Wd} {x y : Int32} {A B : Prop} (h : K (if c then x else y) w) (ha : K x w → A) (hb : K y w → B) : (c → A) ∧ (¬ c → B) := ⟨fun z => ha (by rw [if_pos z] at h; exact h), fun z => hb (by rw [if_neg z] at h; exact h)⟩
theorem j62 {K : Int32 → Wd → Prop} {w : Wd} {a b : Int32} (h : K (ntz62 a b) w) : j_J6_numberOfTrailingZeros_0f7a4_62 K a b w := br_i _ h id id
theorem j34 {K : Int32 → Wd → Prop} {w : Wd} {a b : Int32} (h : K (ntz34 a b) w) : j_J6_numberOfTrailingZeros_0f7a4_34 K a b w := br_i _ h (fun z => br_i _ z j62 j62) (fun z => br_i _ z j62 j62)
theorem q_ntzF {K : Int32 → Wd → Prop} {w : Wd} {x : Int32} (h : K (ntzF x) w) : w_J6_numberOfTrailingZeros_0f7a4 x K w := br_i _ h (fun z => br_i _ z j34 j34) id
/-- the least of a set -/
def lbF (s : Nat) : Nat → Nat → Nat
  | 0, k => k
  | d + 1, k => if s.testBit k then k else lbF s d (k + 1)
def lb (s : Nat) : Nat := lbF s 10 0
theorem ntz_lb : ∀ s, s < 1024 → 0 < s → ntzF (nI s) = nI (lb s) := by decide +kernel
theorem lb_fst : ∀ s, s < 1024 → 0 < s → lb s < 10 ∧ s.testBit (lb s) = true := by decide +kernel
theorem lb_least : ∀ s, s < 1024 → 0 < s → ∀ k, k < 10 → k < lb s → s.testBit k = false := by decide +kernel
theorem q_ntz {K : Int32 → Wd → Prop} {w : Wd} {s : Nat} (hs : s < 1024) (h0 : 0 < s) (h : K (nI (lb s)) w) : w_J6_numberOfTrailingZeros_0f7a4 (nI s) K w := q_ntzF (by rw [ntz_lb s hs h0]; exact h)
theorem p_firstOf {K : Int32 → Wd → Prop} {w : Wd} {s : Nat} (hs : s < 1024) (h0 : 0 < s) (h : K (nI (lb s)) w) : w_X12_firstOf (nI s) K w := by
  obtain ⟨l1, l2⟩ := lb_fst s hs h0
  have go : ∀ d i, i + d = lb s → l_X12_firstOf_2 K (d + 1) (nI s) (nI i) w := by
    intro d
    induction d with
    | zero =>
      intro i hi
      have : i = lb s := by omega
      subst this
      refine p_xhas (by omega) (by omega) ?_
      rw [l2]
      exact br_f (by decide) h
    | succ d ih =>
      intro i hi
      refine p_xhas (by omega) (by omega) ?_
      rw [lb_least s hs h0 i (by omega) (by omega), nI_1]
      exact br_t rfl (ih (i + 1) (by omega))
  exact ⟨lb s + 1, go (lb s) 0 (by omega)⟩
theorem clo_up {g : Nat → Nat} {a n up b : Nat} (h : (clo g a n up).testBit b = true) : upb g 0 b = false ∧ b ≠ a ∧ b < g 1 ∧ up.testBit b = false := by
  have z := (clo_bit g a n up b).mp h
  have wk : ∀ c b n, wkn g c b n = true → upb g 0 b = false := fun c b n q => by
    unfold wkn at q
    cases e : upb g 0 b
    · rfl
    · rw [e] at q; simp at q
  have q : upb g 0 b = false ∧ b ≠ a ∧ up.testBit b = false := rch_ind (S := fun b => upb g 0 b = false ∧ b ≠ a ∧ up.testBit b = false) (fun b h1 h2 h3 h4 => ⟨wk _ _ _ h4, h2, h3⟩) (fun b c h1 h2 h3 h4 h5 h6 => ⟨wk _ _ _ h6, h2, h3⟩) z.2
  exact ⟨q.1, q.2.1, z.1, q.2.2⟩
/-- a noise of the class's that looks at the page's land, all yawns being known -/
def nq (w u : Wd) (g : Nat → Nat) : Prop := eqW (nA 85) w u ∧ NP u 85 92 g 10
theorem nA_cS {t : Nat} (h : nA 85 t) : cS t := by unfold nA at h; unfold cS; omega
def rq (u v : Wd) (g : Nat → Nat) : Prop := stR u v ∧ RS v 245 g ∧ wI v 245 4 = 0
section NQ
variable {w u : Wd} {B : Nat} {g : Nat → Nat}
theorem nA_x {T : Nat → Prop} (I : INVx w B g) (e : eqW T w u) (hT : ∀ t, T t → nA 85 t) (hN : NS u 85) : INVx u B g := by
  have c := cx_eqW e
  exact INVx_q I c (fun t z => nA_cS (hT t z)) (SH_t c (fun t z => by have := hT t z; unfold nA at this; omega) (LdS_cx c (fun z => by have := hT _ z; unfold nA at this; omega) I.1.2.2.2.2.1) hN I.1)
theorem nq_x (I : INVx w B g) (n : nq w u g) : INVx u B g := nA_x I n.1 (fun _ z => z) n.2.1
theorem nq_s {u' : Wd} (n : nq w u g) (e : eqW (nT 85) u u') : nq w u' g := ⟨eqW_trans n.1 (eqW_mono (fun _ => nT_nA) e), NP_fr e n.2⟩
theorem x_P (I : INVx w B g) : ∃ h, LX w 92 h g ∧ wR w 90 0 = 92 ∧ isK w 90 5 := by
  obtain ⟨h, e, P⟩ := I.2.2.1
  exact ⟨h, P.2.1, P.1.2.1, P.1.1⟩
theorem LX_nT {r h : Nat} (L : LX w r h g) (hr : (82 ≤ r ∧ r + 2 < 85) ∨ (89 < r ∧ r < 245)) : ∀ t, hT w h t ∨ landT r t → ¬ nT 85 t := fun t z k => LX_n L hr t z (nT_nA k)
theorem nStart {K : Wd → Prop} (I : INVx w B g) (hk : ∀ u, nq w u g → K u) : isK w 64 11 ∧ isK w (wR w 64 5) 4 ∧ isK w (wR w 64 0) 5 ∧ isK w (wR w (wR w 64 0) 0) 2 ∧ w_X4_over (wR w 64 5) (wR w (wR w 64 0) 0) K w := by
  obtain ⟨h, Lx, e0, k5⟩ := x_P I
  rw [I.1.1.2.2.2.2.2.2.1, I.1.1.2.1, e0]
  exact ⟨I.1.1.1, I.1.2.2.2.2.2.1.1, k5, Lx.1.1.1.1, q_over I.1.2.2.2.2.2.1 Lx.1 (by omega) I.2.1 (LX_n Lx (by omega)) (fun u hu P _ => hk u ⟨hu, P⟩)⟩
theorem nLook {K : Wd → Prop} (I : INVx w B g) (hk : ∀ u, INVx u B g → NP u 85 92 g 0 → K u) : isK w 64 11 ∧ isK w (wR w 64 5) 4 ∧ isK w (wR w 64 0) 5 ∧ isK w (wR w (wR w 64 0) 0) 2 ∧ w_X4_lookAt (wR w 64 5) (wR w (wR w 64 0) 0) K w := by
  obtain ⟨h, Lx, e0, k5⟩ := x_P I
  rw [I.1.1.2.2.2.2.2.2.1, I.1.1.2.1, e0]
  exact ⟨I.1.1.1, I.1.2.2.2.2.2.1.1, k5, Lx.1.1.1.1, q_lookAt I.1.2.2.2.2.2.1 Lx.1 (by omega) I.2.1 (LX_n Lx (by omega)) (fun u hu P _ => hk u (nA_x I hu (fun _ z => z) P.1) P)⟩
theorem nOnce {K : Int32 → Wd → Prop} {i a n : Nat} (I : INVx u B g) (P : NP u 85 92 g i) (ha : a < g 1) (hn : n ≤ 99) (hk : ∀ u', eqW (nT 85) u u' → INVx u' B g → NP u' 85 92 g i → K (nI (once g a n)) u') : isK u 64 11 ∧ isK u (wR u 64 5) 4 ∧ w_X4_wokenAtOnce (wR u 64 5) (nI a) (nI n) K u := by
  obtain ⟨h, Lx, e0, k5⟩ := x_P I
  rw [I.1.1.2.2.2.2.2.2.1]
  refine ⟨I.1.1.1, I.1.2.2.2.2.2.1.1, q_once P.1 P.2.1 P.2.2.1 Lx.1 I.2.1 (LX_nT Lx (by omega)) ha hn (fun u' hu' => ?_)⟩
  have P' := NP_fr hu' P
  exact hk u' hu' (nA_x I hu' (fun _ => nT_nA) P'.1) P'
theorem nWoken {K : Int32 → Wd → Prop} {a n : Nat} (I : INVx w B g) (N : nq w u g) (ha : a < g 1) (hn : n ≤ 99) (hk : ∀ u', nq w u' g → K (nI (clo g a n 0)) u') : w_X4_wokenBy 85 (nI a) (nI n) K u := by
  have Iu := nq_x I N
  obtain ⟨h, Lx, e0, k5⟩ := x_P Iu
  exact q_wokenBy N.2 Lx.1 I.2.1 (LX_nT Lx (by omega)) ha hn (fun u' hu' => hk u' (nq_s N hu'))
theorem n64 {P : Prop} (I : INVx w B g) (h : P) : isK w 64 11 ∧ isK w 85 4 ∧ P := ⟨I.1.1.1, I.1.2.2.2.2.2.1.1, h⟩
theorem rq_0 {val : Int64} (I : INVx u B g) : rq (uL u 260 0 val) (uI (uL u 260 0 val) 245 4 0) g := ⟨stR_uI (INVx_o I).1 (by decide) (by decide) (by decide), RSs (INVx_o I).2.2.2.1 (t := 245) (by omega) _, by rw [wI_uI, if_pos rfl]⟩
theorem rq_s {v : Wd} (f : Nat → Int32) (n : rq u v g) : rq u (sI v (245 + 6) f) g := by
  have e : eqW (fun t => t = 251) v (sI v (245 + 6) f) := eqW_sI rfl
  refine ⟨stR_trans n.1 (stR_e n.1.2.1 e (fun t z => by subst z; unfold rS; omega)), RSs n.2.1 (by omega) f, ?_⟩
  rw [(e.2.2.2 245 (by omega)).1]
  exact n.2.2
theorem rChain {v : Wd} {K : Int32 → Wd → Prop} {a n : Nat} (N : rq u v g) (hW : WF g B) (ha : a < g 1) (hn : n ≤ 99) (hk : ∀ v', rq u v' g → K (nI (clo g a n 0)) v') : w_X12_chainOf 245 (nI a) (nI n) K v := p_chainOf N.2.1 hW ha hn (fun f => hk _ (rq_s f N))
theorem rWoken {v : Wd} {K : Int32 → Wd → Prop} {a n b : Nat} (N : rq u v g) (hW : WF g B) (ha : a < g 1) (hb : b < g 1) (hn : n ≤ 99) (hk : ∀ v', rq u v' g → K (b2i (wkn g a b n)) v') : w_X12_isWoken 245 (nI a) (nI b) (nI n) K v := p_isWoken N.2.1 hW.1 hW.2.2.1 hW.2.1 hW.2.2.2.2 ha hb hn (fun f => hk _ (rq_s f N))
theorem rFin {L F : Wd → Prop} {v : Wd} {val : Int64} (I : INVx u B g) (N : rq (uL u 260 0 val) v g) (hB : B + 99 < 2 ^ 24) (hk : ∀ u, INV u (B + 99) → L u) : tlT L F 0 val v := finT I N.1 N.2.1 N.2.2 hB hk
end NQ
theorem fw (w : Wd) (k : Int32) : wI (uI w 245 4 k) 245 4 = k := by rw [wI_uI, if_pos rfl]
theorem isN_i {x : Int32} {n : Nat} (h : x.toInt = n) (hn : n ≤ 99) : isB 100 x.toInt = true := isB_t (by omega)
section JN
variable {w : Wd} {B : Nat} {L F : Wd → Prop}
theorem q_noise {x : Int32} {K : Wd → Prop} {X : String → Wd → Prop} (h1 : ∀ n : Nat, x = nI n → n ≤ 99 → isB 100 x.toInt = true → K w) (h2 : isB 100 x.toInt = false → ∀ N, wN w ≤ N → X "java/lang/IllegalArgumentException" (wJ w N)) : w_X11_needNoise 1 6 x K X w := by
  refine ⟨⟨by decide, by decide⟩, q_within 0 99 (by decide) (by decide) (fun c => ?_) (fun c N hN => h2 (isB_f (by omega)) N hN)⟩
  exact h1 x.toInt.toNat (i32n c.1).symm (by omega) (isB_t (by omega))
theorem jn_chain {x y : Int32} (I : INV w B) (hB : B + 99 < 2 ^ 24) (hk : ∀ u, INV u (B + 99) → L u) {K : Int32 → Wd → Prop} (hc : ∀ r w1, isK w1 245 12 → w_X12_chain 245 x y (fun b w2 => tlT L F r b.toInt64 w2) w1 → K r w1) : w_L_chain 2 12 64 x y 260 K w := by
  obtain ⟨g, I⟩ := INV_x I
  have hW := I.2.1
  refine ⟨I.1.1.1, ⟨by decide, by decide⟩, I.1.1.1, ⟨by decide, by decide⟩, q_needWell I.1 hW I.2.2.1 (fun c => ⟨⟨by decide, by decide⟩, q_noise (fun n hy hn cn => ?_) (fun cn N hN => Or.inr ⟨rfl, ?_⟩)⟩) (fun c N hN => Or.inl ⟨rfl, ?_⟩)⟩
  · obtain ⟨a, rfl, ha, -⟩ := isB_v c
    subst hy
    refine nStart I (fun u N => ?_)
    have Iu := nq_x I N
    rw [Iu.1.1.2.2.2.2.2.2.1]
    refine n64 Iu (nWoken I N ha hn (fun u' N' => ?_))
    have Iu' := nq_x I N'
    have Io := INVx_o (v := (nI (clo g a n 0)).toInt64) Iu'
    refine INVx_out Iu' (hc _ _ (INVx_M Io) ⟨INVx_M Io, p_isWell Io.2.2.2.1 hW.1 ?_⟩)
    rw [i64_32, c]
    refine br_f (by decide) (p_isNoise ?_)
    rw [cn]
    refine br_f (by decide) ⟨INVx_M Io, ?_⟩
    rw [fw]
    exact br_t (by decide) (rChain (rq_0 Iu') hW ha hn (fun v Nv => rFin Iu' Nv hB hk))
  · have J := INVx_J I hN
    have J1 := INVx_t (k := 4) (v := 2) J (by decide) (by decide) (by decide)
    refine hc _ _ (INVx_M J) ⟨INVx_M J, p_isWell J.2.2.2.1 hW.1 ?_⟩
    rw [i64_32, c]
    refine br_f (by decide) (p_isNoise ?_)
    rw [cn]
    refine br_t rfl ⟨INVx_M J, ?_⟩
    rw [fw]
    exact br_f (by decide) (finK J1 (by decide) (fw _ _) hB hk)
  · have J := INVx_J I hN
    have J1 := INVx_t (k := 4) (v := 1) J (by decide) (by decide) (by decide)
    refine hc _ _ (INVx_M J) ⟨INVx_M J, p_isWell J.2.2.2.1 hW.1 ?_⟩
    rw [i64_32, c]
    refine br_t rfl ⟨INVx_M J, ?_⟩
    rw [fw]
    exact br_f (by decide) (finK J1 (by decide) (fw _ _) hB hk)
theorem once_b {g : Nat → Nat} {a n b : Nat} (hb : b < g 1) : (once g a n).testBit b = wkn g a b n := by rw [once_bit, decide_eq_true hb]; rfl
theorem jn_wakes {x y z : Int32} (I : INV w B) (hB : B + 99 < 2 ^ 24) (hk : ∀ u, INV u (B + 99) → L u) {K : Int32 → Wd → Prop} (hc : ∀ r w1, isK w1 245 12 → w_X12_wakes 245 x y z (fun b w2 => (¬ b = 0 → tlT L F r 1 w2) ∧ (b = 0 → tlT L F r 0 w2)) w1 → K r w1) : w_L_wakes 4 24 64 x y z 260 K w := by
  obtain ⟨g, I⟩ := INV_x I
  have hW := I.2.1
  have h10 := hW.1.1.2.1
  have bad : ∀ N, wN w ≤ N → ∀ k : Int32, ¬ k = 0 → j_X12_wakes_40 (fun b w2 => (¬ b = 0 → tlT L F k 1 w2) ∧ (b = 0 → tlT L F k 0 w2)) 245 x y z k 245 (wJ w N) := fun N hN k hk0 => by
    have J := INVx_J I hN
    have J1 := INVx_t (k := 4) (v := k) J (by decide) (by decide) (by decide)
    refine ⟨INVx_M J, INVx_M J, ?_⟩
    rw [fw]
    exact br_f hk0 ⟨fun q => absurd rfl q, fun _ => finK J1 hk0 (fw _ _) hB hk⟩
  refine ⟨I.1.1.1, ⟨by decide, by decide⟩, I.1.1.1, ⟨by decide, by decide⟩, q_needWell I.1 hW I.2.2.1 (fun c => ⟨I.1.1.1, ⟨by decide, by decide⟩, q_needWell I.1 hW I.2.2.1 (fun d => ⟨⟨by decide, by decide⟩, ?_⟩) (fun d N hN => Or.inl ⟨rfl, ?_⟩)⟩) (fun c N hN => Or.inl ⟨rfl, ?_⟩)⟩
  · refine ⟨fun e => ⟨⟨by decide, by decide⟩, fun N hN => Or.inr ⟨rfl, ?_⟩⟩, fun e => ⟨⟨by decide, by decide⟩, q_noise (fun n hy hn cn => ?_) (fun cn N hN => Or.inr ⟨rfl, ?_⟩)⟩⟩
    · have J := INVx_J I hN
      refine hc _ _ (INVx_M J) ⟨INVx_M J, p_isWell J.2.2.2.1 hW.1 ?_⟩
      rw [i64_32, c]
      refine br_f (by decide) ⟨INVx_M J, p_isWell J.2.2.2.1 hW.1 ?_⟩
      rw [i64_32, d]
      exact br_f (by decide) (br_t e (bad N hN 2 (by decide)))
    · obtain ⟨a, rfl, ha, -⟩ := isB_v c
      obtain ⟨b, rfl, hb, -⟩ := isB_v d
      subst hy
      refine nLook I (fun u Iu P => nOnce Iu P ha hn (fun u' hu' Iu' P' => ?_))
      have s10 := set_lt hW.1 (show once g a n < 2 ^ g 1 from mk_lt _ _)
      refine q_has (by omega) (by omega) ⟨b2i_or _, ?_⟩
      rw [once_b hb]
      have ref : ∀ val : Int64, (val = if wkn g a b n = true then 1 else 0) → K 0 (uL u' 260 (0 : Int32).toNatClampNeg val) := fun val hv => by
        have Io := INVx_o (v := val) Iu'
        refine hc _ _ (INVx_M Io) ⟨INVx_M Io, p_isWell Io.2.2.2.1 hW.1 ?_⟩
        rw [i64_32, c]
        refine br_f (by decide) ⟨INVx_M Io, p_isWell Io.2.2.2.1 hW.1 ?_⟩
        rw [i64_32, d]
        refine br_f (by decide) (br_f e (p_isNoise ?_))
        rw [cn]
        refine br_f (by decide) ⟨INVx_M Io, INVx_M Io, ?_⟩
        rw [fw]
        refine br_t rfl (rWoken (rq_0 Iu') hW ha hb hn (fun v Nv => ?_))
        have z := rFin (F := F) Iu' Nv hB hk
        cases e5 : wkn g a b n
        · rw [hv, e5] at z
          exact br_t rfl ⟨fun q => absurd rfl q, fun _ => z⟩
        · rw [hv, e5] at z
          exact br_f (by decide) ⟨fun _ => z, fun q => absurd q (by decide)⟩
      cases e5 : wkn g a b n
      · exact br_t rfl (INVx_out Iu' (ref 0 (by rw [e5]; rfl)))
      · exact br_f (by decide) (INVx_out Iu' (ref 1 (by rw [e5]; rfl)))
    · have J := INVx_J I hN
      refine hc _ _ (INVx_M J) ⟨INVx_M J, p_isWell J.2.2.2.1 hW.1 ?_⟩
      rw [i64_32, c]
      refine br_f (by decide) ⟨INVx_M J, p_isWell J.2.2.2.1 hW.1 ?_⟩
      rw [i64_32, d]
      refine br_f (by decide) (br_f e (p_isNoise ?_))
      rw [cn]
      exact br_t rfl (bad N hN 2 (by decide))
  · have J := INVx_J I hN
    refine hc _ _ (INVx_M J) ⟨INVx_M J, p_isWell J.2.2.2.1 hW.1 ?_⟩
    rw [i64_32, c]
    refine br_f (by decide) ⟨INVx_M J, p_isWell J.2.2.2.1 hW.1 ?_⟩
    rw [i64_32, d]
    exact br_t rfl (bad N hN 1 (by decide))
  · have J := INVx_J I hN
    refine hc _ _ (INVx_M J) ⟨INVx_M J, p_isWell J.2.2.2.1 hW.1 ?_⟩
    rw [i64_32, c]
    exact br_t rfl (bad N hN 1 (by decide))
end JN
