/-! 85: calls: chorus, shield -/
theorem nW_wr {w u : Wd} {g : Nat → Nat} {k : Nat} {v : Int32} (n : nq w u g) : nq w (uI u 87 k v) g := by
  have e : eqW (fun t => t = 87) u (uI u 87 k v) := eqW_uI rfl
  have f5 := e.2.2.2 85 (by omega)
  have f6 := e.2.2.2 86 (by omega)
  refine ⟨eqW_trans n.1 (eqW_uI (by unfold nA; omega)), n.2.1, n.2.2.1, ?_, fun i hi => ?_⟩
  · rw [f5.1]; exact n.2.2.2.1
  · show wI (uI u 87 k v) 86 i = _
    rw [f6.1]
    exact n.2.2.2.2 i hi
theorem dif_ups (g : Nat → Nat) : dif (allS g) (slp g) = ups g 0 := mk_ext (n := g 1) (dif_lt (show 2 ^ g 1 - 1 < 2 ^ g 1 by have := Nat.two_pow_pos (g 1); omega)) (mk_lt _ _) (fun k hk => by
  unfold ups
  rw [dif_bit, slp_bit, mk_bit]
  unfold allS
  rw [Nat.testBit_two_pow_sub_one]
  cases decide (k < g 1) <;> simp)
noncomputable def rcA (g : Nat → Nat) (n a : Nat) : Nat := if (ups g 0).testBit a = true then clo g a n 0 else 0
theorem rcA_lt {g : Nat → Nat} {n a : Nat} : rcA g n a < 2 ^ g 1 := by
  unfold rcA
  split
  · exact clo_lt _ _ _ _
  · exact Nat.two_pow_pos _
theorem unS_cong {f f' : Nat → Nat} {s : Nat} : ∀ i, (∀ a, a < i → s.testBit a = true → f a = f' a) → unS f s i = unS f' s i
  | 0, _ => rfl
  | i + 1, h => by
    unfold unS
    rw [unS_cong i (fun a ha => h a (by omega))]
    split
    · rename_i e; rw [h i (by omega) e]
    · rfl
/-- sets of awake ones that wake all -/
noncomputable def okC (g : Nat → Nat) (n s : Nat) : Bool := decide (dif s (ups g 0) = 0 ∧ dif (slp g) (unS (rcA g n) s 10) = 0)
theorem bs_10 {ok : Nat → Bool} {i : Nat} (h : i ≤ 1024) : ∀ b, bs ok i = some b → b < 1024 := fun b e => by have := bs_lt e; omega
section SC
variable {w u : Wd} {B : Nat} {g : Nat → Nat}
theorem nReach {K : Int32 → Wd → Prop} {n s : Nat} (hh : wfH g) (N : NS u 85) (hr : ∀ a, a < 10 → wI u 87 a = nI (rcA g n a)) (hs : s < 1024) (hk : K (nI (unS (rcA g n) s 10)) u) : w_X4_reachOf 85 (nI s) K u := by
  have go : ∀ d i, i + d = 10 → l_X4_reachOf_4 K (d + 1) 85 (nI s) (nI (unS (rcA g n) s i)) (nI i) u := by
    intro d
    induction d with
    | zero =>
      intro i hi
      have : i = 10 := by omega
      subst this
      unfold l_X4_reachOf_4
      rw [N.2.2.1.1, N.2.2.1.2.2]
      exact ⟨N.1, N.2.2.1.2.1, br_t (by decide) hk⟩
    | succ d ih =>
      intro i hi
      have e := ih (i + 1) (by omega)
      unfold l_X4_reachOf_4
      rw [N.2.2.1.1, N.2.2.1.2.2]
      refine ⟨N.1, N.2.2.1.2.1, br_f (nI_ge (b := 10) (by omega) (by decide)) (q_has (by omega) (by omega) ?_)⟩
      rw [N.2.2.1.1, N.2.2.1.2.2, nI_clamp (by omega), show wI u (85 + 2) i = nI (rcA g n i) from hr i (by omega), fa_or, nI_1]
      unfold unS at e
      cases eb : s.testBit i
      · rw [eb, if_neg (by decide)] at e
        exact br_t rfl e
      · rw [eb, if_pos rfl] at e
        exact br_f (by decide) ⟨N.1, N.2.2.1.2.1, vp_in_nI (by omega) (by decide), e⟩
  exact ⟨10 + 1, go 10 0 (by omega)⟩
theorem nChorus {K : Int32 → Wd → Prop} {n : Nat} (I : INVx w B g) (N : nq w u g) (hn : n ≤ 99) (hk : ∀ u', nq w u' g → K (bsI (bs (okC g n) 1024)) u') : w_X4_leastChorus 85 (nI n) K u := by
  have hW := I.2.1
  have h10 := hW.1.1.2.1
  have Iu := nq_x I N
  obtain ⟨h, Lx, e0, k5⟩ := x_P Iu
  have H := Lx.1.1.1.2.2
  have u10 := set_lt hW.1 (show ups g 0 < 2 ^ g 1 from mk_lt _ _)
  unfold w_X4_leastChorus
  rw [N.2.2.1, Lx.1.1.1.2.1]
  refine ⟨N.2.1.1, Lx.1.1.1.1, H.1, q_allWells H hW.1 ⟨N.2.1.1, 10 + 1, ?_⟩⟩
  rw [N.2.2.2.1, p_dif, dif_ups]
  have go : ∀ E : Nat → Int32 → Wd → Prop, ∀ KK, (∀ u, nq w u g → (∀ a, a < 10 → wI u 87 a = nI (rcA g n a)) → E 85 (nI (ups g 0)) u) → ∀ d i u, i + d = 10 → nq w u g → (∀ a, a < i → wI u 87 a = nI (rcA g n a)) → l_X4_leastChorus_20 E KK (d + 1) 85 (nI n) (nI (ups g 0)) (nI i) u := by
    intro E KK hE d
    induction d with
    | zero =>
      intro i u hi Nu hr
      have : i = 10 := by omega
      subst this
      unfold l_X4_leastChorus_20
      rw [Nu.2.1.2.2.1.1, Nu.2.1.2.2.1.2.2]
      exact ⟨Nu.2.1.1, Nu.2.1.2.2.1.2.1, br_t (by decide) (hE u Nu hr)⟩
    | succ d ih =>
      intro i u hi Nu hr
      unfold l_X4_leastChorus_20
      rw [Nu.2.1.2.2.1.1, Nu.2.1.2.2.1.2.2]
      refine ⟨Nu.2.1.1, Nu.2.1.2.2.1.2.1, br_f (nI_ge (b := 10) (by omega) (by decide)) (q_has (by omega) (by omega) ?_)⟩
      rw [nI_clamp (by omega), nI_1]
      have nxt : ∀ u, nq w u g → (∀ a, a < i → wI u 87 a = nI (rcA g n a)) → l_X4_leastChorus_20 E KK (d + 1) 85 (nI n) (nI (ups g 0)) (nI (i + 1)) (uI u (85 + 2) i (nI (rcA g n i))) := fun u Nu hr => by
        refine ih (i + 1) _ (by omega) (nW_wr Nu) (fun a ha => ?_)
        show wI (uI u 87 i (nI (rcA g n i))) 87 a = _
        rw [wI_uI]
        by_cases ea : a = i
        · subst ea; rw [if_pos rfl]
        · rw [if_neg ea]; exact hr a (by omega)
      cases e : (ups g 0).testBit i
      · have z := nxt u Nu hr
        rw [show rcA g n i = 0 by unfold rcA; rw [if_neg (by rw [e]; decide)]] at z
        exact br_t rfl ⟨Nu.2.1.2.2.1.2.1, by rw [Nu.2.1.2.2.1.2.2]; exact vp_in_nI (by omega) (by decide), z⟩
      · have hi1 : i < g 1 := by
          unfold ups at e
          rw [mk_bit] at e
          simp at e
          exact e.1
        refine br_f (by decide) ⟨Nu.2.1.1, ?_⟩
        have Iu := nq_x I Nu
        obtain ⟨h, Lx, e0, k5⟩ := x_P Iu
        refine q_wokenBy Nu.2 Lx.1 hW (LX_nT Lx (by omega)) hi1 hn (fun u' hu' => ?_)
        have N' := nq_s Nu hu'
        have z := nxt u' N' (fun a ha => by rw [(hu'.2.2.2 87 (by unfold nT; omega)).1]; exact hr a ha)
        rw [show rcA g n i = clo g i n 0 by unfold rcA; rw [if_pos e]] at z
        exact ⟨N'.2.1.2.2.1.2.1, by rw [N'.2.1.2.2.1.2.2]; exact vp_in_nI (by omega) (by decide), z⟩
  refine go _ _ (fun u Nu hr => ⟨1024 + 1, ?_⟩) 10 0 u (by omega) N (fun a ha => absurd ha (Nat.not_lt_zero a))
  have gs : ∀ d i, i + d = 1024 → l_X4_leastChorus_64 K (d + 1) 85 (nI (ups g 0)) (bsI (bs (okC g n) i)) (nI i) u := by
    intro d
    induction d with
    | zero =>
      intro i hi
      have : i = 1024 := by omega
      subst this
      exact br_t (by decide) (hk u Nu)
    | succ d ih =>
      intro i hi
      have z := ih (i + 1) (by omega)
      have lt := bs_10 (ok := okC g n) (i := i) (by omega)
      refine br_f (nI_ge (b := 1024) (by omega) (by decide)) ?_
      rw [p_dif, nI_1]
      by_cases c : dif i (ups g 0) = 0
      · refine br_t (by rw [c]; rfl) (q_isFewer (by omega) lt ?_)
        cases f : bsF (bs (okC g n) i) i
        · rw [bs_s, f, Bool.and_false, if_neg (by decide)] at z
          exact br_t rfl z
        · rw [bs_s, f, Bool.and_true] at z
          refine br_f (by decide) ⟨Nu.2.1.1, nReach hW.1 Nu.2.1 hr (by omega) ?_⟩
          rw [Nu.2.2.2.1, p_dif]
          have sl := set_lt hW.1 (slp_lt g)
          by_cases e : dif (slp g) (unS (rcA g n) i 10) = 0
          · rw [if_pos (show okC g n i = true from decide_eq_true ⟨c, e⟩)] at z
            exact br_t (by rw [e]; rfl) z
          · rw [if_neg (by rw [show okC g n i = false from decide_eq_false (fun q => e q.2)]; decide)] at z
            exact br_f (dif_ne sl e) z
      · rw [bs_no (show okC g n i = false from decide_eq_false (fun q => c q.1))] at z
        exact br_f (dif_ne (by omega) c) z
  exact gs 1024 0 (by omega)
theorem m20 (s : SH w) : wR w 245 20 = 253 ∧ isK w 253 20 ∧ wn w 253 = 10 := s.2.2.2.2.2.2.2.2.2.2.1.2.2.2.2.1
theorem rq_wr {v : Wd} {k : Nat} {x : Int32} (n : rq u v g) : rq u (uI v 253 k x) g := by
  have e : eqW (fun t => t = 253) v (uI v 253 k x) := eqW_uI rfl
  refine ⟨stR_trans n.1 (stR_e n.1.2.1 e (fun t z => by subst z; unfold rS; omega)), RSs n.2.1 (t := 253) (by omega) _, ?_⟩
  rw [(e.2.2.2 245 (by omega)).1]
  exact n.2.2
theorem rAreWoken {v : Wd} {K : Int32 → Wd → Prop} {n s a : Nat} (hW : WF g B) (ha : a < 1024) (N : rq u v g) (hr : ∀ a, a < g 1 → wI v 253 a = nI (clo g a n 0)) (hs : s < 1024) (hk : K (b2i (decide (dif a (unS (fun c => clo g c n 0) s (g 1)) = 0))) v) : w_X12_areWoken 245 (nI s) (nI a) K v := by
  have h10 := hW.1.1.2.1
  have go : ∀ d i, i + d = g 1 → l_X12_areWoken_5 K (d + 1) 245 (nI s) (nI a) (nI (unS (fun c => clo g c n 0) s i)) (nI i) v := by
    intro d
    induction d with
    | zero =>
      intro i hi
      have : i = g 1 := by omega
      subst this
      refine ⟨N.2.1.1.1, p_wells N.2.1 (br_t (nI_le (Nat.le_refl _) (by omega)) ?_)⟩
      rw [fa_and]
      have un := unS_lt (f := fun c => clo g c n 0) (s := s) (n := g 1) (fun i => clo_lt g i n 0) (g 1)
      have un10 := set_lt hW.1 un
      by_cases c : dif a (unS (fun c => clo g c n 0) s (g 1)) = 0
      · rw [decide_eq_true c] at hk
        exact br_t (by rw [and_sub.mpr c]) hk
      · rw [decide_eq_false c] at hk
        refine br_f (fun z => c (and_sub.mp ?_)) hk
        have l1 : unS (fun c => clo g c n 0) s (g 1) &&& a < 1024 := Nat.lt_of_le_of_lt Nat.and_le_left un10
        exact (nI_eq (by omega) (by omega)).mp z
    | succ d ih =>
      intro i hi
      have e := ih (i + 1) (by omega)
      refine ⟨N.2.1.1.1, p_wells N.2.1 (br_f (nI_ge (by omega) (by omega)) (p_xhas (by omega) (by omega) ?_))⟩
      rw [(m20 N.1.2.1).1, (m20 N.1.2.1).2.2, nI_clamp (by omega), hr i (by omega), fa_or, nI_1, p_or0]
      unfold unS at e
      cases eb : s.testBit i
      · rw [eb, if_neg (by decide)] at e
        exact br_t rfl e
      · rw [eb, if_pos rfl] at e
        exact br_f (by decide) ⟨N.2.1.1.1, (m20 N.1.2.1).2.1, vp_in_nI (by omega) (by decide), e⟩
  exact ⟨g 1 + 1, go (g 1) 0 (by omega)⟩
end SC
