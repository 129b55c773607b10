/-! 97: calls: write, copy -/
theorem cut_01 : ∀ s, s < 4 → cutF s 0 = 0 ∧ cutF s 1 = 1 := by decide +kernel
section WR
variable {w : Wd} {B : Nat} {L F : Wd → Prop} {g : Nat → Nat}
theorem q_numC {i m k : Nat} {K : Int64 → Wd → Prop} (s : SH w) (hi : i < 4) (hm : wI w (230 + 2 * i) 1 = nI m) (h30 : m ≤ 30) (hk : k < m) (h : K (wL w (231 + 2 * i) k) w) : w_X10_numberAt (230 + 2 * i) (nI k) K w := by
  have S := s.2.2.2.2.2.2.1 i hi
  unfold w_X10_numberAt
  rw [hm, S.2.1, S.2.2.2, nI_clamp (by omega)]
  exact br_f (nI_pos (by omega)) ⟨S.1, br_f (nI_ge hk (by omega)) ⟨S.2.2.1, br_f (nI_ge (b := 30) (by omega) (by decide)) ⟨vp_in_nI (by omega) (by decide), h⟩⟩⟩
theorem q_put {i m p sv : Nat} {v : Int64} {K : Wd → Prop} (s : SH w) (hi : i < 4) (hm : wI w (230 + 2 * i) 1 = nI m) (hs : wI w (230 + 2 * i) 2 = nI sv) (hsv : sv < 4) (h30 : m ≤ 30) (hp : p < m) (h : K (uL w (231 + 2 * i) p (cutF sv v))) : w_X10_put (230 + 2 * i) (nI p) v K w := by
  have S := s.2.2.2.2.2.2.1 i hi
  unfold w_X10_put
  rw [hm, S.2.1, S.2.2.2]
  refine br_f (nI_pos (by omega)) ⟨S.1, br_f (nI_ge hp (by omega)) ⟨S.2.2.1, br_f (nI_ge (b := 30) (by omega) (by decide)) ⟨S.1, ?_⟩⟩⟩
  rw [hs, nI_clamp (by omega)]
  have vp : vp_in (nI p) (wn w (231 + 2 * i)) := by rw [S.2.2.2]; exact vp_in_nI (by omega) (by decide)
  unfold cutF at h
  have e : sv = 0 ∨ sv = 1 ∨ sv = 2 ∨ sv = 3 := by omega
  rcases e with rfl | rfl | rfl | rfl
  · exact br_t rfl ⟨S.2.2.1, vp, h⟩
  · exact br_f (by decide) (br_t rfl ⟨S.2.2.1, vp, h⟩)
  · exact br_f (by decide) (br_f (by decide) (br_t rfl ⟨S.2.2.1, vp, h⟩))
  · exact br_f (by decide) (br_f (by decide) (br_f (by decide) ⟨S.2.2.1, vp, h⟩))
theorem p_cut {i p sv : Nat} {v : Int64} {K : Int64 → Wd → Prop} (s : SH w) (hi : i < 4) (hp : p < 30) (hs : wI w 257 i = nI sv) (hsv : sv < 4) (h : K (cutF sv v) (uL w 259 (30 * i + p) (cutF sv v))) : w_X12_cut 245 (nI i) (nI p) v K w := by
  have ei : ((30 * nI i) + nI p : Int32) = nI (30 * i + p) := by rw [show (30 * nI i : Int32) = nI (30 * i) from pk_mul 30 i, nI_add]
  have vp : vp_in (nI (30 * i + p)) 120 := vp_in_nI (by omega) (by decide)
  unfold w_X12_cut
  rw [(m26 s).1, (m28 s).1, (m26 s).2.2, (m28 s).2.2, ei, nI_clamp (n := 30 * i + p) (by omega), nI_clamp (n := i) (by omega), hs, cut_eq hsv, wL_uL, if_pos rfl]
  exact ⟨s.2.2.2.2.2.2.2.2.2.2.1.1, (m26 s).2.1, vp_in_nI hi (by decide), (m28 s).2.1, vp, vp, h⟩
/-- what is written in a tray, on both sides -/
theorem INV_wr {u : Wd} {i sv m : Nat} {v v' : Nat → Int64} (I : INVx w B g) (hi : i < 4) (t : TRv w i true sv m v) (c : cx trT w u) (hR : wR u = wR w) (hI : ∀ r, r ≠ 245 → wI u r = wI w r) (f : fl3 w u) (hL : ∀ r, r ≠ 231 + 2 * i → r ≠ 259 → r ≠ 260 → wL u r = wL w r) (h1 : ∀ k, k < 30 → wL u (231 + 2 * i) k = v' k) (h2 : ∀ k, k < 30 → wL u 259 (30 * i + k) = v' k) (h3 : ∀ k, (k < 30 * i ∨ 30 * i + 30 ≤ k) → wL u 259 k = wL w 259 k) (hB : B + 99 < 2 ^ 24) : INV u (B + 99) := by
  refine INV_tr I c hR f (fun j hj => ?_) hB
  by_cases ej : j = i
  · subst ej
    obtain ⟨q1, q2, ⟨q3, q4, q5, q6⟩, q7, q8, q9⟩ := t
    exact ⟨true, sv, m, v', q1, q2, ⟨by rw [hI _ (by omega)]; exact q3, by rw [hI _ (by omega)]; exact q4, by rw [hI _ (by omega)]; exact q5, h1⟩, by rw [hI _ (by omega)]; exact q7, by rw [hI _ (by omega)]; exact q8, h2⟩
  · exact TR_other (w := w) hi hj ej (fun t ht a b => ⟨hI t (by omega), hL t b (by omega) (by omega)⟩) (by rw [hI _ (by omega)]) (by rw [hI _ (by omega)]) (fun k hk' => h3 _ (by omega)) (I.2.2.2.2.2.1 j hj)
theorem jn_write {x y : Int32} {v : Int64} (I : INV w B) (hB : B + 99 < 2 ^ 24) (hk : ∀ u, INV u (B + 99) → L u) {K : Int32 → Wd → Prop} (hc : ∀ r w1, isK w1 245 12 → w_X12_write 245 x y v (fun b w2 => tlT L F r b w2) w1 → K r w1) : w_L_write 3 18 64 x y v 260 K w := by
  obtain ⟨g, I⟩ := INV_x I
  have s := I.1
  have p0 : (0 : Int32).toInt = 0 := by decide
  refine ⟨s.1.1, ⟨by decide, by decide⟩, s.1.1, ⟨by decide, by decide⟩, q_presentTray s I.2.2.2.2.2.1 (fun i hi hx sv m vv t => ?_) (fun c N hN => Or.inl ⟨rfl, ?_⟩) (fun i hi hx sv m vv t N hN => Or.inr (Or.inl ⟨rfl, ?_⟩))⟩
  · subst hx
    have hm := t.2.1
    have tm := t.2.2.1.2.1
    have nm : (nI m - 1).toInt64.toInt = (m : Int) - 1 := by rw [i64_32]; exact pk_sub_toInt (a := m) (b := 1) (by omega) (by decide)
    have bad : ¬ (0 ≤ y.toInt ∧ y.toInt < m) → ∀ N, wN w ≤ N → K 3 (wJ w N) := fun q N hN => by
      have J := INVx_J I hN
      have tJ := TRv_fr (T := fun _ => False) (cx_wJ hN) s hi (fun _ z => z.elim) t
      have J1 := INVx_t (k := 4) (v := 0) J (by decide) (by decide) (by decide)
      have J2 := INVx_t (k := 4) (v := 3) J1 (by decide) (by decide) (by decide)
      have t1 : TRv (uI (wJ w N) 245 4 0) i true sv m vv := TRv_fr (T := rS) (cx_uI (Or.inl rfl)) J.1 hi (fun t z => by unfold rS at z; omega) tJ
      refine hc _ _ (INVx_M J) ⟨INVx_M J, p_trayFault J.1 hi tJ ⟨INVx_M J, ?_⟩⟩
      rw [if_pos rfl, fw, (m27 J.1).1, (m27 J.1).2.2, nI_clamp (n := i) (by omega), t1.2.2.2.2.1]
      refine br_t (by decide) ⟨(m27 J.1).2.1, vp_in_nI hi (by decide), p_within ?_⟩
      rw [within_dec (p := 0) (q := (m : Int) - 1) (by decide) nm, i64_32, decide_eq_false (by omega)]
      exact br_t rfl ⟨INVx_M J1, INVx_M J1, finK J2 (by decide) (fw _ _) hB hk⟩
    rw [tm]
    have S := s.2.2.2.2.2.2.1 i hi
    have nmI : (nI m).toInt = (m : Int) := nI_toInt (by omega)
    refine ⟨fun q => ⟨⟨by decide, by decide⟩, fun N hN => Or.inr (Or.inr ⟨rfl, bad (by rw [fa_lt, p0] at q; omega) N hN⟩)⟩, fun q => ⟨S.1, fun q2 => ?_, fun q2 => ⟨⟨by decide, by decide⟩, fun N hN => Or.inr (Or.inr ⟨rfl, bad (by rw [fa_lt, nmI] at q2; omega) N hN⟩)⟩⟩⟩
    rw [fa_lt, p0] at q
    rw [fa_lt, nmI] at q2
    obtain ⟨p, hp⟩ : ∃ p : Nat, y.toInt = p := ⟨y.toInt.toNat, by omega⟩
    have hpm : p < m := by omega
    have ey := nI_v hp
    subst ey
    obtain ⟨cv, hcv⟩ : ∃ cv, cv = cutF sv v := ⟨_, rfl⟩
    refine q_put s hi tm t.2.2.1.2.2.1 t.1 hm hpm ?_
    rw [← hcv]
    have c1 : cx trT w (uL w (231 + 2 * i) p cv) := cx_uL (by unfold trT; omega)
    have s1 : SH (uL w (231 + 2 * i) p cv) := SH_e c1 rfl s
    refine ⟨(s1.2.2.2.2.2.2.1 i hi).1, q_numC s1 hi tm hm hpm ?_⟩
    rw [wL_uL, if_pos rfl]
    have k260 := s1.2.2.2.2.2.2.2.2.2.2.2
    refine ⟨k260.1, by rw [k260.2]; exact vp_in_nI (n := 0) (by decide) (by decide), ?_⟩
    obtain ⟨u2, hu2⟩ : ∃ u2, u2 = uL (uL w (231 + 2 * i) p cv) 260 0 cv := ⟨_, rfl⟩
    have c2 : cx trT w u2 := by rw [hu2]; exact cx_trans c1 (cx_uL (by unfold trT; omega))
    have R2 : wR u2 = wR w := by rw [hu2]; rfl
    have I2 : wI u2 = wI w := by rw [hu2]; rfl
    have s2 : SH u2 := SH_e c2 R2 s
    have l1 : ∀ r, r ≠ 260 → r ≠ 231 + 2 * i → wL u2 r = wL w r := fun r a b => by rw [hu2, wL_uLn a, wL_uLn b]
    have l2 : ∀ k, wL u2 (231 + 2 * i) k = if k = p then cv else wL w (231 + 2 * i) k := fun k => by rw [hu2, wL_uLn (by omega), wL_uL]
    have l3 : wL u2 260 0 = cv := by rw [hu2, wL_uL, if_pos rfl]
    have M2 := s2.2.2.2.2.2.2.2.2.2.2.1.1
    have t7 : wI u2 257 i = nI sv := by rw [I2]; have := t.2.2.2.1; rw [if_pos rfl] at this; exact this
    have tF : ∀ {K' : Int32 → Wd → Prop}, K' 0 u2 → w_X12_trayFault 245 (nI i) K' u2 := fun {K'} h => by
      have hs := t.1
      unfold w_X12_trayFault w_X12_isTray
      refine p_withinI 0 3 (by decide) (by decide) ⟨b2i_or _, ?_⟩
      rw [decide_eq_true (by rw [nI_toInt (by omega)]; omega)]
      refine br_f (by decide) ⟨M2, ?_⟩
      rw [(m26 s2).1, (m26 s2).2.2, nI_clamp (by omega), t7]
      refine ⟨(m26 s2).2.1, vp_in_nI hi (by decide), br_f (fun z => ?_) h⟩
      have e := congrArg Int32.toInt z
      rw [nI_toInt (by omega)] at e
      exact absurd e (by rw [show (-1 : Int32).toInt = -1 from by decide]; omega)
    refine (show K 0 u2 from hc _ u2 M2 ⟨M2, tF ⟨M2, ?_⟩⟩) |> fun z => by rw [hu2] at z; exact z
    have t8 : wI (uI u2 245 4 0) 258 i = nI m := by rw [sI_uI, wI_sIn (t := 245) (r := 258) (by decide), I2]; exact t.2.2.2.2.1
    rw [fw, (m27 s2).1, (m27 s2).2.2, nI_clamp (n := i) (by omega), t8]
    refine br_t (by decide) ⟨(m27 s2).2.1, vp_in_nI hi (by decide), p_within ?_⟩
    rw [within_dec (p := 0) (q := (m : Int) - 1) (by decide) nm, i64_32, decide_eq_true (by rw [nI_toInt (by omega)]; omega)]
    have c3 : cx trT w (uI u2 245 4 0) := cx_trans c2 (cx_uI (by unfold trT; omega))
    have s3 : SH (uI u2 245 4 0) := SH_e c3 R2 s
    refine br_f (by decide) ⟨M2, p_cut s3 hi (by omega) (by rw [sI_uI, wI_sIn (by decide)]; exact t7) t.1 ?_⟩
    rw [← hcv]
    have c4 : cx trT w (uL (uI u2 245 4 0) 259 (30 * i + p) cv) := cx_trans c3 (cx_uL (by unfold trT; omega))
    have s4 : SH (uL (uI u2 245 4 0) 259 (30 * i + p) cv) := SH_e c4 R2 s
    refine tlT_0 s4 (fw u2 0) (by rw [wL_uLn (by decide)]; exact l3) (hk _ (INV_wr (v' := fun k => if k = p then cv else vv k) I hi t c4 R2 (fun r hr => ?_) ⟨?_, ?_, ?_⟩ (fun r a b c => ?_) (fun k hk' => ?_) (fun k hk' => ?_) (fun k hk' => ?_) hB))
    · show wI (uI u2 245 4 0) r = _
      rw [sI_uI, wI_sIn hr, I2]
    · show wI (uI u2 245 4 0) 245 6 = _
      rw [wI_uI, if_neg (by decide), I2]
    · show wI (uI u2 245 4 0) 245 14 = _
      rw [wI_uI, if_neg (by decide), I2]
    · show wI (uI u2 245 4 0) 245 15 = _
      rw [wI_uI, if_neg (by decide), I2]
    · rw [wL_uLn b]; exact l1 r c a
    · rw [wL_uLn (by omega)]
      show wL u2 (231 + 2 * i) k = _
      rw [l2, t.2.2.1.2.2.2 k hk']
    · rw [wL_uL]
      by_cases e : k = p
      · rw [if_pos (by omega), if_pos e]
      · rw [if_neg (by omega), if_neg e]
        show wL u2 259 _ = _
        rw [l1 259 (by decide) (by omega)]
        exact t.2.2.2.2.2 k hk'
    · rw [wL_uL, if_neg (by omega)]
      show wL u2 259 _ = _
      rw [l1 259 (by decide) (by omega)]
  · have J := INVx_J I hN
    have J1 := INVx_t (k := 4) (v := 1) J (by decide) (by decide) (by decide)
    refine hc _ _ (INVx_M J) ⟨INVx_M J, p_trayFault_n c ⟨INVx_M J, ?_⟩⟩
    rw [fw]
    exact br_f (by decide) (finK J1 (by decide) (fw _ _) hB hk)
  · subst hx
    have J := INVx_J I hN
    have tJ := TRv_fr (T := fun _ => False) (cx_wJ hN) s hi (fun _ z => z.elim) t
    have J1 := INVx_t (k := 4) (v := 2) J (by decide) (by decide) (by decide)
    refine hc _ _ (INVx_M J) ⟨INVx_M J, p_trayFault J.1 hi tJ ⟨INVx_M J, ?_⟩⟩
    rw [if_neg (by decide), fw]
    exact br_f (by decide) (finK J1 (by decide) (fw _ _) hB hk)
end WR
