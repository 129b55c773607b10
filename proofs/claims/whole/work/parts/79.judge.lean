/-! 79: calls: told deeds judged, performed -/
section TY
variable {w : Wd} {B : Nat} {g : Nat → Nat}
theorem m26 (s : SH w) : wR w 245 26 = 257 ∧ isK w 257 20 ∧ wn w 257 = 4 := s.2.2.2.2.2.2.2.2.2.2.1.2.2.2.2.2.2.2.2.1
theorem m27 (s : SH w) : wR w 245 27 = 258 ∧ isK w 258 20 ∧ wn w 258 = 4 := s.2.2.2.2.2.2.2.2.2.2.1.2.2.2.2.2.2.2.2.2.1
theorem m28 (s : SH w) : wR w 245 28 = 259 ∧ isK w 259 21 ∧ wn w 259 = 120 := s.2.2.2.2.2.2.2.2.2.2.1.2.2.2.2.2.2.2.2.2.2.1
theorem q_anyTray {x : Int32} {K : Nat → Wd → Prop} {X : String → Wd → Prop} (s : SH w) (h1 : ∀ i, i < 4 → x = nI i → K (230 + 2 * i) w) (h2 : isB 4 x.toInt = false → ∀ N, wN w ≤ N → X "java/util/NoSuchElementException" (wJ w N)) : w_X11_anyTray 1 6 64 x K X w := by
  have p0 : (0 : Int32).toInt = 0 := by decide
  have p4 : (Int32.ofNat 4).toInt = 4 := by decide
  have a := s.2.1.2
  unfold w_X11_anyTray
  rw [s.1.2.2.2.1, a.2.1]
  refine ⟨fun c => ⟨⟨by decide, by decide⟩, h2 (isB_f (by rw [fa_lt, p0] at c; omega))⟩, fun c => ⟨s.1.1, a.1, fun d => ?_, fun d => ⟨⟨by decide, by decide⟩, h2 (isB_f (by rw [fa_lt, p4] at d; omega))⟩⟩⟩
  rw [fa_lt, p0] at c
  rw [fa_lt, p4] at d
  obtain ⟨i, rfl, hi, -⟩ := isB_v (n := 4) (x := x) (isB_t (by omega))
  rw [nI_clamp (by omega), a.2.2 i hi]
  exact ⟨vp_in_nI hi (by decide), (s.2.2.2.2.2.2.1 i hi).1, h1 i hi rfl⟩
theorem q_presentTray {x : Int32} {K : Nat → Wd → Prop} {X : String → Wd → Prop} (s : SH w) (T : ∀ i, i < 4 → TR w i) (h1 : ∀ i, i < 4 → x = nI i → ∀ sv m v, TRv w i true sv m v → K (230 + 2 * i) w) (h2 : isB 4 x.toInt = false → ∀ N, wN w ≤ N → X "java/util/NoSuchElementException" (wJ w N)) (h3 : ∀ i, i < 4 → x = nI i → ∀ sv m v, TRv w i false sv m v → ∀ N, wN w ≤ N → X "java/lang/IllegalStateException" (wJ w N)) : w_X11_presentTray 2 12 64 x K X w := by
  refine ⟨s.1.1, ⟨by decide, by decide⟩, q_anyTray s (fun i hi hx => ?_) h2⟩
  obtain ⟨b, sv, m, v, t⟩ := T i hi
  rw [t.2.2.1.1]
  refine ⟨(s.2.2.2.2.2.2.1 i hi).1, ?_⟩
  cases b
  · exact br_t rfl ⟨⟨by decide, by decide⟩, h3 i hi hx sv m v t⟩
  · exact br_f (by decide) (h1 i hi hx sv m v t)
theorem q_numberAt {i sv m k : Nat} {b : Bool} {v : Nat → Int64} {K : Int64 → Wd → Prop} (s : SH w) (hi : i < 4) (t : TRv w i b sv m v) (hk : k < m) (h : K (v k) w) : w_X10_numberAt (230 + 2 * i) (nI k) K w := by
  have S := s.2.2.2.2.2.2.1 i hi
  have hm := t.2.1
  unfold w_X10_numberAt
  rw [t.2.2.1.2.1, S.2.1, S.2.2.2, nI_clamp (by omega), t.2.2.1.2.2.2 k (by omega)]
  exact br_f (nI_pos (by omega)) ⟨S.1, br_f (nI_ge hk (by omega)) ⟨S.2.2.1, br_f (nI_ge (b := 30) (by omega) (by decide)) ⟨vp_in_nI (by omega) (by decide), h⟩⟩⟩
theorem p_trayFault {i sv m : Nat} {b : Bool} {v : Nat → Int64} {K : Int32 → Wd → Prop} (s : SH w) (hi : i < 4) (t : TRv w i b sv m v) (hk : K (if b then 0 else 2) w) : w_X12_trayFault 245 (nI i) K w := by
  have hs := t.1
  unfold w_X12_trayFault w_X12_isTray
  refine p_withinI 0 3 (by decide) (by decide) ⟨b2i_or _, ?_⟩
  rw [decide_eq_true (by rw [nI_toInt (by omega)]; omega)]
  refine br_f (by decide) ⟨s.2.2.2.2.2.2.2.2.2.2.1.1, ?_⟩
  rw [(m26 s).1, (m26 s).2.2, nI_clamp (by omega), t.2.2.2.1]
  refine ⟨(m26 s).2.1, vp_in_nI hi (by decide), ?_⟩
  cases b
  · exact br_t rfl hk
  · refine br_f (fun z => ?_) hk
    have e := congrArg Int32.toInt z
    rw [if_pos rfl, nI_toInt (by omega)] at e
    exact absurd e (by rw [show (-1 : Int32).toInt = -1 from by decide]; omega)
theorem p_trayFault_n {x : Int32} {K : Int32 → Wd → Prop} (h : isB 4 x.toInt = false) (hk : K 1 w) : w_X12_trayFault 245 x K w := by
  unfold w_X12_trayFault w_X12_isTray
  refine p_withinI 0 3 (by decide) (by decide) ⟨b2i_or _, ?_⟩
  have e := of_decide_eq_false h
  rw [decide_eq_false (by omega)]
  exact br_t rfl hk
theorem TRv_fr {T : Nat → Prop} {u : Wd} {i sv m : Nat} {b : Bool} {v : Nat → Int64} (c : cx T w u) (s : SH w) (hi : i < 4) (hT : ∀ t, T t → ¬ ((230 ≤ t ∧ t ≤ 237) ∨ (257 ≤ t ∧ t ≤ 259))) (t : TRv w i b sv m v) : TRv u i b sv m v := by
  have W := SH_N s
  have no : ∀ t, ((230 ≤ t ∧ t ≤ 237) ∨ (257 ≤ t ∧ t ≤ 259)) → wI u t = wI w t ∧ wL u t = wL w t := fun t ht => by
    have z := (c.2 t (by omega)).2.2 (fun k => hT t k ht)
    exact ⟨z.1, z.2.1⟩
  obtain ⟨q1, q2, ⟨q3, q4, q5, q6⟩, q7, q8, q9⟩ := t
  have a0 := no (230 + 2 * i) (by omega)
  exact ⟨q1, q2, ⟨by rw [a0.1]; exact q3, by rw [a0.1]; exact q4, by rw [a0.1]; exact q5, fun k hk => by rw [(no (231 + 2 * i) (by omega)).2]; exact q6 k hk⟩, by rw [(no 257 (by omega)).1]; exact q7, by rw [(no 258 (by omega)).1]; exact q8, fun k hk => by rw [(no 259 (by omega)).2]; exact q9 k hk⟩
end TY
/-- told deeds one behind the other -/
noncomputable def jdR (g : Nat → Nat) (v : Nat → Int64) : Nat → Nat → Nat
  | 0 => g
  | k + 1 => doR (jdR g v k) (v k).toInt
theorem jd_ex (f : Nat → Nat) : ∀ m : Nat, ∃ k, k ≤ m ∧ (∀ j, j < k → f j = 0) ∧ (k < m → f k ≠ 0)
  | 0 => ⟨0, Nat.le_refl _, fun j hj => absurd hj (Nat.not_lt_zero j), fun h => absurd h (Nat.not_lt_zero _)⟩
  | m + 1 => by
    obtain ⟨k, h1, h2, h3⟩ := jd_ex f m
    by_cases e : k < m
    · exact ⟨k, by omega, h2, fun _ => h3 e⟩
    · have : k = m := by omega
      subst this
      by_cases f0 : f k = 0
      · exact ⟨k + 1, by omega, fun j hj => by
          by_cases ej : j = k
          · subst ej; exact f0
          · exact h2 j (by omega), fun h => absurd h (by omega)⟩
      · exact ⟨k, by omega, h2, fun _ => f0⟩
theorem jdR_WF {g : Nat → Nat} {v : Nat → Int64} {B : Nat} (hW : WF g B) : ∀ {k : Nat}, B + k < 2 ^ 24 → (∀ j, j < k → whyT (jdR g v j) (v j).toInt = 0) → WF (jdR g v k) (B + k) ∧ sameH g (jdR g v k)
  | 0, _, _ => ⟨hW, sameH_refl g⟩
  | k + 1, h, ok => by
    have z := jdR_WF hW (k := k) (by omega) (fun j hj => ok j (by omega))
    have y := doR_WF z.1 (by omega) (ok k (by omega))
    exact ⟨y.1, sameH_trans z.2 y.2⟩
theorem whyT_le (g : Nat → Nat) (x : Int) : whyT g x ≤ 4 := by
  have a := whyD_le g (x / 100) (x % 100)
  have b := whyL_le g (x - 2000)
  have c := whyC_le g (x - 2100)
  unfold whyT
  repeat' split
  all_goals omega
section JJ
variable {w : Wd} {B : Nat} {L F : Wd → Prop}
theorem finT {u v : Wd} {g : Nat → Nat} {val : Int64} (I : INVx u B g) (st : stR (uL u 260 0 val) v) (R : RS v 245 g) (h4 : wI v 245 4 = 0) (hB : B + 99 < 2 ^ 24) (hk : ∀ u, INV u (B + 99) → L u) : tlT L F 0 val v := tlT_0 st.2.1 h4 (out_at I.1 st) (hk v (x_INV (INVx_r (INVx_o I) st R) (by omega) hB))
theorem finK {v : Wd} {g : Nat → Nat} {k : Int32} {b : Int64} (J : INVx v B g) (h0 : ¬ k = 0) (h4 : wI v 245 4 = k) (hB : B + 99 < 2 ^ 24) (hk : ∀ u, INV u (B + 99) → L u) : tlT L F k b v := tlT_k J.1 h0 h4 (hk v (x_INV J (by omega) hB))
/-- the class's own look ahead: cells of the land ahead and of the noise -/
def aT (t : Nat) : Prop := landT 82 t ∨ nA 85 t
theorem aT_cS {t : Nat} (h : aT t) : cS t := by unfold aT landT nA at h; unfold cS; omega
theorem aT_SH {u : Wd} (s : SH w) (c : cx aT w u) (hL : LdS u 82) (hN : NS u 85) : SH u := SH_t c (fun t z => by unfold aT landT nA at z; omega) hL hN s
theorem dT_aT {t : Nat} (h : dT 85 82 t) : aT t := h.elim Or.inr Or.inl
theorem jn_judge {x y : Int32} (I : INV w B) (hB : B + 99 < 2 ^ 24) (hk : ∀ u, INV u (B + 99) → L u) {K : Int32 → Wd → Prop} (hc : ∀ r w1, isK w1 245 12 → w_X12_judge 245 x y (fun b w2 => tlT L F r b.toInt64 w2) w1 → K r w1) : w_L_judge 3 18 64 x y 260 K w := by
  obtain ⟨g, I⟩ := INV_x I
  have s := I.1
  have hW := I.2.1
  refine ⟨s.1.1, ⟨by decide, by decide⟩, s.1.1, ⟨by decide, by decide⟩, q_presentTray s I.2.2.2.2.2.1 (fun i hi hx sv m v t => ?_) (fun c N hN => Or.inl ⟨rfl, ?_⟩) (fun i hi hx sv m v t N hN => Or.inr (Or.inl ⟨rfl, ?_⟩))⟩
  · subst hx
    have hm := t.2.1
    refine ⟨⟨by decide, by decide⟩, q_within 0 3 (by decide) (by decide) (fun c => ?_) (fun c N hN => Or.inr (Or.inr ⟨rfl, ?_⟩))⟩
    · obtain ⟨a, ha⟩ : ∃ a : Nat, y.toInt = a := ⟨y.toInt.toNat, by omega⟩
      have ha3 : a ≤ 3 := by omega
      rw [nI_v ha]
      rw [nI_v ha] at hc
      obtain ⟨h, e, P⟩ := I.2.2.1
      obtain ⟨k, k1, k2, k3⟩ := jd_ex (fun j => whyT (jdR g v j) (v j).toInt) m
      have Wk : ∀ j, j ≤ k → WF (jdR g v j) (B + j) ∧ sameH g (jdR g v j) := fun j hj => jdR_WF hW (by omega) (fun j' hj' => k2 j' (by omega))
      have wl := whyT_le (jdR g v k) (v k).toInt
      rw [s.1.2.2.2.2.1, s.1.2.1, P.1.2.1]
      refine ⟨s.1.1, s.2.2.2.2.1.1, P.1.1, P.2.1.1.1.1.1, q_becomeX s.2.2.2.2.1 P.2.1 (by omega) (by omega) (fun u0 hu0 L0 => ⟨k + 2, ?_⟩)⟩
      -- the answer
      obtain ⟨ans, hans⟩ : ∃ ans : Int32, ans = if a = 0 then (if k < m then nI k else -1) else if a = 1 then (if k < m then nI (whyT (jdR g v k) (v k).toInt) else 0) else if a = 2 then nI (wsum (jdR g v k) (jdR g v k 1)) else nI (ups (jdR g v k) 0) := ⟨_, rfl⟩
      have stp : ∀ u, cx aT w u → LX u 82 h (jdR g v k) → NS u 85 → SH u := fun u cu Lu Nu => aT_SH s cu (LA_LdS Lu.1) Nu
      have refr : ∀ u, INVx u B g → TRv u i true sv m v → w_X12_judge 245 (nI i) (nI a) (fun b w2 => tlT L F 0 b.toInt64 w2) (uL u 260 0 ans.toInt64) := fun u Iu tu => by
        have Io := INVx_o (v := ans.toInt64) Iu
        have to : TRv (uL u 260 0 ans.toInt64) i true sv m v := TRv_fr (T := cS) (cx_uL (by unfold cS; omega)) Iu.1 hi (fun t z => by unfold cS at z; omega) tu
        have I4 := INVx_t (k := 4) (v := 0) Io (by decide) (by decide) (by decide)
        have t4 : TRv (uI (uL u 260 0 ans.toInt64) 245 4 0) i true sv m v := TRv_fr (T := rS) (cx_uI (Or.inl rfl)) Io.1 hi (fun t z => by unfold rS at z; omega) to
        have x4 : wI (uI (uL u 260 0 ans.toInt64) 245 4 0) 245 4 = 0 := by rw [wI_uI, if_pos rfl]
        refine ⟨INVx_M Io, p_trayFault Io.1 hi to ⟨INVx_M Io, ?_⟩⟩
        rw [if_pos rfl, x4]
        refine br_t rfl (p_withinI 0 3 (by decide) (by decide) ?_)
        rw [decide_eq_true (by rw [nI_toInt (by omega)]; omega)]
        refine br_f (by decide) ⟨INVx_M I4, ?_⟩
        rw [x4]
        refine br_t (by decide) (p_aside I4.2.2.2.1 (fun f hf => ⟨k + 2, ?_⟩))
        obtain ⟨v0, hv0⟩ : ∃ v0, v0 = sI (uI (uL u 260 0 ans.toInt64) 245 4 0) (245 + 7) f := ⟨_, rfl⟩
        have e0 : eqW (fun t => t = 252) (uI (uL u 260 0 ans.toInt64) 245 4 0) v0 := by rw [hv0]; exact eqW_sI rfl
        have st0 : stR (uI (uL u 260 0 ans.toInt64) 245 4 0) v0 := stR_e I4.1 e0 (fun t z => by subst z; unfold rS; omega)
        have R0 : RS v0 245 g := by rw [hv0]; exact RSs I4.2.2.2.1 (by omega) f
        have f0 : ∀ k, k < 22 → wI v0 252 k = nI (g (5 + k)) := fun k hk => by rw [hv0]; show wI (sI _ 252 f) 252 k = _; rw [wI_sI]; exact hf k hk
        rw [← hv0]
        have tv : ∀ u, eqW (refT 245) v0 u → TRv u i true sv m v ∧ SH u := fun u hu => by
          have q := stR_trans st0 (stR_refT st0.2.1 hu)
          exact ⟨TRv_fr q.1 I4.1 hi (fun t z => by unfold rS at z; omega) t4, q.2.1⟩
        have go : ∀ E : Nat → Int32 → Int32 → Int32 → Wd → Prop, ∀ KK : Int32 → Wd → Prop, (∀ u, eqW (refT 245) v0 u → RS u 245 (jdR g v k) → E 245 (nI a) (if k < m then nI k else -1) (if k < m then nI (whyT (jdR g v k) (v k).toInt) else 0) u) → ∀ d j u, j + d = k → eqW (refT 245) v0 u → RS u 245 (jdR g v j) → l_X12_judge_54 E KK (d + 2) 245 (nI i) (nI a) (-1) 0 (nI j) u := by
          intro E KK hE d
          induction d with
          | zero =>
            intro j u hj hu Ru
            have : j = k := by omega
            subst this
            obtain ⟨tu, su⟩ := tv u hu
            unfold l_X12_judge_54
            rw [(m27 su).1, (m27 su).2.2, nI_clamp (n := i) (by omega), tu.2.2.2.2.1]
            refine ⟨Ru.1.1, (m27 su).2.1, vp_in_nI hi (by decide), ?_⟩
            have z := hE u hu Ru
            by_cases ek : j < m
            · rw [if_pos ek, if_pos ek] at z
              refine br_f (nI_ge ek (by omega)) (br_t rfl ?_)
              have ei : ((30 * nI i) + nI j : Int32) = nI (30 * i + j) := by rw [show (30 * nI i : Int32) = nI (30 * i) from pk_mul 30 i, nI_add]
              rw [(m28 su).1, (m28 su).2.2, ei, nI_clamp (n := 30 * i + j) (by omega), tu.2.2.2.2.2 j (by omega)]
              refine ⟨(m28 su).2.1, vp_in_nI (by omega) (by decide), p_whyT Ru (Wk j (by omega)).1 (br_f (nI_ne0 (by have := k3 ek; omega) (by omega)) ?_)⟩
              unfold l_X12_judge_54
              rw [(m27 su).1, (m27 su).2.2, nI_clamp (n := i) (by omega), tu.2.2.2.2.1, nI_1]
              refine ⟨Ru.1.1, (m27 su).2.1, vp_in_nI hi (by decide), ⟨fun _ => z, fun _ => br_f (fun q => ?_) z⟩⟩
              have e := congrArg Int32.toInt q
              rw [nI_toInt (by omega)] at e
              exact absurd e (by rw [show (-1 : Int32).toInt = -1 from by decide]; omega)
            · rw [if_neg ek, if_neg ek] at z
              exact br_t (nI_le (by omega) (by omega)) z
          | succ d ih =>
            intro j u hj hu Ru
            obtain ⟨tu, su⟩ := tv u hu
            unfold l_X12_judge_54
            rw [(m27 su).1, (m27 su).2.2, nI_clamp (n := i) (by omega), tu.2.2.2.2.1]
            refine ⟨Ru.1.1, (m27 su).2.1, vp_in_nI hi (by decide), br_f (nI_ge (by omega) (by omega)) (br_t rfl ?_)⟩
            have ei : ((30 * nI i) + nI j : Int32) = nI (30 * i + j) := by rw [show (30 * nI i : Int32) = nI (30 * i) from pk_mul 30 i, nI_add]
            have w0 := k2 j (by omega)
            rw [(m28 su).1, (m28 su).2.2, ei, nI_clamp (n := 30 * i + j) (by omega), tu.2.2.2.2.2 j (by omega)]
            refine ⟨(m28 su).2.1, vp_in_nI (by omega) (by decide), p_whyT Ru (Wk j (by omega)).1 ?_⟩
            rw [show whyT (jdR g v j) (v j).toInt = 0 from w0]
            refine br_t rfl ⟨Ru.1.1, ?_⟩
            rw [(m28 su).1, (m28 su).2.2, tu.2.2.2.2.2 j (by omega), nI_1]
            exact ⟨(m28 su).2.1, vp_in_nI (by omega) (by decide), p_does Ru (Wk j (by omega)).1 (by omega) w0 (fun u' hu' Ru' => ih (j + 1) u' (by omega) (eqW_trans hu hu') Ru')⟩
        refine go _ _ (fun u' hu' Ru' => ?_) k 0 v0 (by omega) (eqW_refl _ _) R0
        have Wkk := Wk k (Nat.le_refl _)
        refine ⟨Ru'.1.1, p_waterAll Ru' Wkk.1.1 ⟨Ru'.1.1, p_upIn Ru' Wkk.1.1 Wkk.1.2.2.1 Wkk.1.2.2.2.2 (n := 0) (by decide) ⟨Ru'.1.1, p_back (g0 := g) Ru' (fun k hk => by rw [(hu'.2.2.2 252 (by unfold refT; omega)).1]; exact f0 k hk) Wkk.2 (fun u2 hu2 Ru2 => ?_)⟩⟩⟩
        have e5 := eqW_trans hu' hu2
        have st5 := stR_trans (stR_trans (stR_uI (k := 4) (v := 0) Io.1 (by decide) (by decide) (by decide)) st0) (stR_refT st0.2.1 e5)
        have h45 : wI u2 245 4 = 0 := by rw [(e5.2.2.2 245 (by unfold refT; omega)).1, (e0.2.2.2 245 (by omega)).1]; exact x4
        have z : tlT L F 0 ans.toInt64 u2 := finT Iu st5 Ru2 h45 hB hk
        rw [hans] at z
        by_cases a0 : a = 0
        · rw [if_pos a0] at z; exact br_t (by rw [a0]; rfl) z
        rw [if_neg a0] at z
        refine br_f (nI_ne0 (by omega) (by omega)) ?_
        by_cases a1 : a = 1
        · rw [if_pos a1] at z; exact br_t (by rw [a1]; rfl) z
        rw [if_neg a1] at z
        refine br_f (fun q => a1 ((nI_eq (b := 1) (by omega) (by decide)).mp q)) ?_
        by_cases a2 : a = 2
        · rw [if_pos a2] at z; exact br_t (by rw [a2]; rfl) z
        rw [if_neg a2] at z
        exact br_f (fun q => a2 ((nI_eq (b := 2) (by omega) (by decide)).mp q)) z
      have fin : ∀ u, cx aT w u → LX u 82 h (jdR g v k) → NS u 85 → isK u 260 21 ∧ vp_in 0 (wn u 260) ∧ K 0 (uL u 260 (0 : Int32).toNatClampNeg ans.toInt64) := fun u cu Lu Nu => by
        have Iu := INVx_q I cu (fun _ => aT_cS) (stp u cu Lu Nu)
        have tu := TRv_fr cu s hi (fun t z => by unfold aT landT nA at z; omega) t
        exact INVx_out Iu (hc _ _ (INVx_M (INVx_o Iu)) (refr u Iu tu))
      have c0 : cx aT w u0 := cx_mono (fun _ => Or.inl) (cx_eqW hu0)
      have N0 : NS u0 85 := NS_fr hu0 (fun z => by unfold landT at z; omega) s.2.2.2.2.2.1
      have go : ∀ E : Nat → Int32 → Int32 → Int32 → Nat → Nat → Wd → Prop, ∀ X KK, (∀ u p, cx aT w u → LX u 82 h (jdR g v k) → NS u 85 → (k < m → p = nI k) → E 64 (nI a) p (if k < m then nI (whyT (jdR g v k) (v k).toInt) else 0) 3 18 u) → ∀ d j u p, j + d = k → cx aT w u → LX u 82 h (jdR g v j) → NS u 85 → l_X11_judge_35 3 18 X E KK (d + 2) 64 (nI a) (230 + 2 * i) p 0 (nI j) 3 18 u := by
        intro E X KK hE d
        induction d with
        | zero =>
          intro j u p hj cu Lu Nu
          have : j = k := by omega
          subst this
          have su := stp u cu Lu Nu
          have tu := TRv_fr cu s hi (fun t z => by unfold aT landT nA at z; omega) t
          have S := su.2.2.2.2.2.2.1 i hi
          unfold l_X11_judge_35
          rw [tu.2.2.1.2.1]
          refine ⟨S.1, ?_⟩
          by_cases ek : j < m
          · refine br_f (nI_ge ek (by omega)) (br_t rfl (q_numberAt su hi tu ek ?_))
            rw [su.1.2.2.2.2.1]
            refine ⟨su.1.1, Lu.1.1.1.1, q_whyT Lu.1.1 (Wk j (by omega)).1 (br_f (nI_ne0 (by have := k3 ek; omega) (by omega)) ?_)⟩
            have z := hE u (nI j) cu Lu Nu (fun _ => rfl)
            rw [if_pos ek] at z
            unfold l_X11_judge_35
            rw [tu.2.2.1.2.1, nI_1]
            exact ⟨S.1, ⟨fun _ => z, fun _ => br_f (nI_ne0 (by have := k3 ek; omega) (by omega)) z⟩⟩
          · have z := hE u p cu Lu Nu (fun q => absurd q ek)
            rw [if_neg ek] at z
            exact br_t (nI_le (by omega) (by omega)) z
        | succ d ih =>
          intro j u p hj cu Lu Nu
          have su : SH u := aT_SH s cu (LA_LdS Lu.1) Nu
          have tu := TRv_fr cu s hi (fun t z => by unfold aT landT nA at z; omega) t
          have S := su.2.2.2.2.2.2.1 i hi
          have w0 := k2 j (by omega)
          unfold l_X11_judge_35
          rw [tu.2.2.1.2.1]
          refine ⟨S.1, br_f (nI_ge (by omega) (by omega)) (br_t rfl (q_numberAt su hi tu (by omega) ?_))⟩
          rw [su.1.2.2.2.2.1]
          refine ⟨su.1.1, Lu.1.1.1.1, q_whyT Lu.1.1 (Wk j (by omega)).1 ?_⟩
          rw [show whyT (jdR g v j) (v j).toInt = 0 from w0]
          refine br_t rfl ⟨su.1.1, ?_⟩
          rw [su.1.2.2.2.2.1, su.1.2.2.2.2.2.2.2.1]
          refine ⟨su.2.2.2.2.2.2.2.2.1.1, Lu.1.1.1.1, q_carryOut (SH_d su) (by unfold nA; omega) Nu Lu.1 (by omega) (Wk j (by omega)).1 (by omega) (LX_n Lu (by omega)) w0 (fun u' hu' Lu' Nu' => ?_)⟩
          rw [nI_1]
          have nH : noH aT := fun t z => by unfold aT landT nA at z; omega
          exact ih (j + 1) u' (nI j) (by omega) (cx_trans cu (cx_mono (fun _ => dT_aT) (cx_eqW hu'))) (LX_of (cx_mono (fun _ => dT_aT) (cx_eqW hu')) nH Lu Lu') Nu'
      refine go _ _ _ (fun u p cu Lu Nu hp => ?_) k 0 u0 0 (by omega) c0 L0 N0
      have z := fin u cu Lu Nu
      have su := stp u cu Lu Nu
      have Wkk := Wk k (Nat.le_refl _)
      rw [hans] at z
      by_cases a0 : a = 0
      · rw [if_pos a0] at z
        refine br_t (by rw [a0]; rfl) ?_
        by_cases ek : k < m
        · rw [if_pos ek] at z
          rw [if_pos ek, hp ek]
          exact br_f (nI_ne0 (by have := k3 ek; omega) (by omega)) z
        · rw [if_neg ek] at z
          rw [if_neg ek]
          exact br_t rfl z
      rw [if_neg a0] at z
      refine br_f (nI_ne0 (by omega) (by omega)) ?_
      by_cases a1 : a = 1
      · rw [if_pos a1] at z; exact br_t (by rw [a1]; rfl) z
      rw [if_neg a1] at z
      refine br_f (fun q => a1 ((nI_eq (b := 1) (by omega) (by decide)).mp q)) ?_
      rw [su.1.2.2.2.2.1]
      by_cases a2 : a = 2
      · rw [if_pos a2] at z; exact br_t (by rw [a2]; rfl) ⟨su.1.1, Lu.1.1.1.1, q_allWater Lu.1.1 Wkk.1.1 z⟩
      rw [if_neg a2] at z
      exact br_f (fun q => a2 ((nI_eq (b := 2) (by omega) (by decide)).mp q)) ⟨su.1.1, Lu.1.1.1.1, q_awakeBits Lu.1.1 Wkk.1 z⟩
    · have J := INVx_J I hN
      have tJ := TRv_fr (T := fun _ => False) (cx_wJ hN) s hi (fun _ z => z.elim) t
      have J1 := INVx_t (k := 4) (v := 0) J (by decide) (by decide) (by decide)
      have J2 := INVx_t (k := 4) (v := 3) J1 (by decide) (by decide) (by decide)
      refine hc _ _ (INVx_M J) ⟨INVx_M J, p_trayFault J.1 hi tJ ⟨INVx_M J, ?_⟩⟩
      rw [if_pos rfl, show wI (uI (wJ w N) 245 4 0) 245 4 = 0 by rw [wI_uI, if_pos rfl]]
      refine br_t rfl (p_withinI 0 3 (by decide) (by decide) ?_)
      rw [decide_eq_false c]
      refine br_t rfl ⟨INVx_M J1, INVx_M J2, ?_⟩
      rw [show wI (uI (uI (wJ w N) 245 4 0) 245 4 3) 245 4 = 3 by rw [wI_uI, if_pos rfl]]
      exact br_f (by decide) (finK J2 (by decide) (by rw [wI_uI, if_pos rfl]) hB hk)
  · have J := INVx_J I hN
    have J1 := INVx_t (k := 4) (v := 1) J (by decide) (by decide) (by decide)
    refine hc _ _ (INVx_M J) ⟨INVx_M J, p_trayFault_n c ⟨INVx_M J, ?_⟩⟩
    rw [show wI (uI (wJ w N) 245 4 1) 245 4 = 1 by rw [wI_uI, if_pos rfl]]
    refine br_f (by decide) ⟨INVx_M J1, ?_⟩
    rw [show wI (uI (wJ w N) 245 4 1) 245 4 = 1 by rw [wI_uI, if_pos rfl]]
    exact br_f (by decide) (finK J1 (by decide) (by rw [wI_uI, if_pos rfl]) hB hk)
  · subst hx
    have J := INVx_J I hN
    have tJ := TRv_fr (T := fun _ => False) (cx_wJ hN) s hi (fun _ z => z.elim) t
    have J1 := INVx_t (k := 4) (v := 2) J (by decide) (by decide) (by decide)
    refine hc _ _ (INVx_M J) ⟨INVx_M J, p_trayFault J.1 hi tJ ⟨INVx_M J, ?_⟩⟩
    rw [if_neg (by decide), show wI (uI (wJ w N) 245 4 2) 245 4 = 2 by rw [wI_uI, if_pos rfl]]
    refine br_f (by decide) ⟨INVx_M J1, ?_⟩
    rw [show wI (uI (wJ w N) 245 4 2) 245 4 = 2 by rw [wI_uI, if_pos rfl]]
    exact br_f (by decide) (finK J1 (by decide) (by rw [wI_uI, if_pos rfl]) hB hk)
end JJ
