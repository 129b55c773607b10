/-! 99.n3: calls: seen, roundAt, listen, whose -/
section SC
variable {w : Wd} {B : Nat} {L F : Wd → Prop} {g : Nat → Nat}
theorem x71 (s : SH w) : wR w 64 9 = 71 := s.1.2.2.2.2.2.2.2.2.2.2
theorem INVx_7 {u : Wd} (I : INVx w B g) (c : cx sn7 w u) (cR : wR u = wR w) : INVx u B g := INVx_q I c (fun t z => by unfold sn7 at z; unfold cS; omega) (SH_e c cR I.1)
theorem sn_bad {u : Wd} {k : Int32} {b : Int64} {A : Prop} (J : INVx u B g) (hk0 : 0 < k) (hB : B + 99 < 2 ^ 24) (hk : ∀ u, INV u (B + 99) → L u) : isK u 245 12 ∧ (((wI (uI u 245 4 k) 245 4) ≤ 0 → A) ∧ (¬ (wI (uI u 245 4 k) 245 4) ≤ 0 → tlT L F k b (uI u 245 4 k))) := by
  rw [fw]
  exact ⟨INVx_M J, br_f (fun q => by rw [fa_le] at q; rw [fa_lt] at hk0; omega) (finK (INVx_t J (by decide) (by decide) (by decide)) (fun z => by subst z; exact absurd hk0 (by decide)) (fw _ _) hB hk)⟩
/-- worlds of the reference within such a call -/
def snZ (u0 : Wd) (g : Nat → Nat) (i sv m : Nat) (v : Nat → Int64) (u : Wd) : Prop := rq u0 u g ∧ TRv u i true sv m v
theorem snZ_S {u0 u : Wd} {i sv m : Nat} {v : Nat → Int64} (z : snZ u0 g i sv m v u) : SH u ∧ TRv u i true sv m v := ⟨z.1.1.2.1, z.2⟩
theorem snZ_25 {u0 u : Wd} {i sv m : Nat} {v : Nat → Int64} (hi : i < 4) (x : Int32) (z : snZ u0 g i sv m v u) : snZ u0 g i sv m v (uI u 245 25 x) := by
  have s := z.1.1.2.1
  refine ⟨⟨stR_trans z.1.1 (stR_uI s (by decide) (by decide) (by decide)), RSs z.1.2.1 (t := 245) (by omega) _, ?_⟩, TRv_fr (T := rS) (cx_uI (Or.inl rfl)) s hi (fun t z => by unfold rS at z; omega) z.2⟩
  rw [wI_uI, if_neg (by decide)]
  exact z.1.2.2
theorem snZ_0 {u : Wd} {val : Int64} {i sv m : Nat} {v : Nat → Int64} (hi : i < 4) (I : INVx u B g) (t : TRv u i true sv m v) : snZ (uL u 260 0 val) g i sv m v (uI (uL u 260 0 val) 245 4 0) ∧ TRv (uL u 260 0 val) i true sv m v := by
  have to : TRv (uL u 260 0 val) i true sv m v := TRv_fr (T := cS) (cx_uL (by unfold cS; omega)) I.1 hi (fun t z => by unfold cS at z; omega) t
  exact ⟨⟨rq_0 I, TRv_fr (T := rS) (cx_uI (Or.inl rfl)) (INVx_o I).1 hi (fun t z => by unfold rS at z; omega) to⟩, to⟩
theorem TRv_J {i sv m N : Nat} {b : Bool} {v : Nat → Int64} (s : SH w) (hN : wN w ≤ N) (hi : i < 4) (t : TRv w i b sv m v) : TRv (wJ w N) i b sv m v := TRv_fr (T := fun _ => False) (cx_wJ hN) s hi (fun _ z => z.elim) t
/-- the reference's fault of such a call, behind a throw of the class's -/
theorem p_seen1 {x : Int32} {K : Int32 → Wd → Prop} (hM : isK w 245 12) (c : isB 4 x.toInt = false) (hk : K 1 w) : w_X12_seenFault 245 x K w := ⟨hM, p_trayFault_n c (br_f (by decide) hk)⟩
theorem p_seen2 {i sv m : Nat} {v : Nat → Int64} {K : Int32 → Wd → Prop} (s : SH w) (hi : i < 4) (t : TRv w i false sv m v) (hk : K 2 w) : w_X12_seenFault 245 (nI i) K w := ⟨s.2.2.2.2.2.2.2.2.2.2.1.1, p_trayFault s hi t (br_f (by decide) hk)⟩
theorem jn_seen {x : Int32} (I : INV w B) (hB : B + 99 < 2 ^ 24) (hk : ∀ u, INV u (B + 99) → L u) {K : Int32 → Wd → Prop} (hc : ∀ r w1, isK w1 245 12 → w_X12_seen 245 x (fun b w2 => tlT L F r b.toInt64 w2) w1 → K r w1) : w_L_seen 3 18 64 x 260 K w := by
  obtain ⟨g, I⟩ := INV_x I
  have s := I.1
  refine ⟨s.1.1, ⟨by decide, by decide⟩, s.1.1, ?_⟩
  rw [x71 s]
  refine ⟨s.2.2.2.1.1, ⟨by decide, by decide⟩, q_heardTray s I.2.2.2.2.2.1 (fun i hi hx sv m v t o => ?_) (fun c N hN => Or.inl ⟨rfl, ?_⟩) (fun i hi hx sv m v t N hN => Or.inr (Or.inl ⟨rfl, ?_⟩)) (fun i hi hx sv m v t o N hN => Or.inr (Or.inr ⟨rfl, ?_⟩))⟩
  · subst hx
    refine ⟨s.2.2.2.1.1, q_hear s hi t o (fun u c cR n => ?_)⟩
    have Iu := INVx_7 I c cR
    rw [x71 Iu.1]
    refine ⟨Iu.1.1.1, Iu.1.2.2.2.1.1, Iu.1.2.2.2.1.1, q_findFitting Iu.1 n o (fun u2 W => ?_)⟩
    have I2 := INVx_7 Iu W.1 W.2.1
    have t2 := sn7_fr W.1 Iu.1 hi (sn7_fr c s hi t)
    rw [W.2.2.2.1]
    refine ⟨I2.1.2.2.2.1.1, INVx_out I2 (hc _ _ (INVx_M (INVx_o I2)) ?_)⟩
    obtain ⟨z0, to⟩ := snZ_0 (val := (nI (snR (fun r a s => snF v r a s m) 11).1).toInt64) hi I2 t2
    refine ⟨INVx_M (INVx_o I2), p_seenFault (INVx_o I2).1 hi to (fun _ => ⟨INVx_M (INVx_o I2), ?_⟩) (fun z => absurd o z)⟩
    rw [fw]
    exact br_t (by decide) (p_fitting (Z := snZ _ g i sv m v) hi (fun _ z => snZ_25 hi z) (fun _ => snZ_S) (Or.inl ⟨rfl, fun _ _ _ => rfl⟩) z0 (fun u3 z3 _ => rFin I2 z3.1 hB hk))
  · have J := INVx_J I hN
    exact hc _ _ (INVx_M J) ⟨INVx_M J, p_seen1 (INVx_M J) c (sn_bad J (by decide) hB hk)⟩
  · have J := INVx_J I hN
    subst hx
    exact hc _ _ (INVx_M J) ⟨INVx_M J, p_seen2 J.1 hi (TRv_J s hN hi t) (sn_bad J (by decide) hB hk)⟩
  · have J := INVx_J I hN
    subst hx
    exact hc _ _ (INVx_M J) ⟨INVx_M J, p_seenFault J.1 hi (TRv_J s hN hi t) (fun z => absurd z o) (fun _ => sn_bad J (by decide) hB hk)⟩
theorem sn_bad2 {u : Wd} {k y : Int32} {b : Int32} (J : INVx u B g) (hk0 : 0 < k) (hB : B + 99 < 2 ^ 24) (hk : ∀ u, INV u (B + 99) → L u) {x : Int32} : isK u 245 12 ∧ (((wI (uI u 245 4 k) 245 4) = 0 → ((0 ≤ y → j_X12_roundAt_25 (fun b w2 => tlT L F k b.toInt64 w2) 245 x y (uI u 245 4 k)) ∧ (¬ 0 ≤ y → j_X12_roundAt_25 (fun b w2 => tlT L F k b.toInt64 w2) 245 x y (uI (uI u 245 4 k) 245 4 3)))) ∧ (¬ (wI (uI u 245 4 k) 245 4) = 0 → j_X12_roundAt_25 (fun b w2 => tlT L F k b.toInt64 w2) 245 x y (uI u 245 4 k))) := by
  have J1 := INVx_t (k := 4) (v := k) J (by decide) (by decide) (by decide)
  have n0 : ¬ k = 0 := fun z => by subst z; exact absurd hk0 (by decide)
  have e := fw u k
  refine ⟨INVx_M J, ?_⟩
  rw [e]
  refine br_f n0 ⟨INVx_M J1, ?_⟩
  rw [e]
  exact br_f (fun q => by rw [fa_le] at q; rw [fa_lt] at hk0; omega) (finK J1 n0 e hB hk)
theorem jn_roundAt {x y : Int32} (I : INV w B) (hB : B + 99 < 2 ^ 24) (hk : ∀ u, INV u (B + 99) → L u) {K : Int32 → Wd → Prop} (hc : ∀ r w1, isK w1 245 12 → w_X12_roundAt 245 x y (fun b w2 => tlT L F r b.toInt64 w2) w1 → K r w1) : w_L_roundAt 4 24 64 x y 260 K w := by
  obtain ⟨g, I⟩ := INV_x I
  have s := I.1
  refine ⟨s.1.1, ⟨by decide, by decide⟩, s.1.1, ⟨by decide, by decide⟩, q_heardTray s I.2.2.2.2.2.1 (fun i hi hx sv m v t o => ⟨⟨by decide, by decide⟩, q_within 0 2147483647 (by decide) (by decide) (fun cy => ?_) (fun cy N hN => Or.inr (Or.inr ⟨rfl, ?_⟩))⟩) (fun c N hN => Or.inl ⟨rfl, ?_⟩) (fun i hi hx sv m v t N hN => Or.inr (Or.inl ⟨rfl, ?_⟩)) (fun i hi hx sv m v t o N hN => Or.inr (Or.inr ⟨rfl, ?_⟩))⟩
  · subst hx
    rw [x71 s]
    refine ⟨s.1.1, s.2.2.2.1.1, q_hear s hi t o (fun u c cR n => ?_)⟩
    have Iu := INVx_7 I c cR
    rw [x71 Iu.1]
    refine ⟨Iu.1.1.1, Iu.1.2.2.2.1.1, Iu.1.2.2.2.1.1, q_findFitting Iu.1 n o (fun u2 W => ?_)⟩
    have I2 := INVx_7 Iu W.1 W.2.1
    have t2 := sn7_fr W.1 Iu.1 hi (sn7_fr c s hi t)
    obtain ⟨x, hx⟩ : ∃ x, x = snR (fun r a s => snF v r a s m) 11 := ⟨_, rfl⟩
    have hx6 : x.1 ≤ 649 := by rw [hx]; exact sn_all _
    have h3 := W.2.2.2.1
    have hrow := W.2.2.2.2
    rw [← hx] at h3 hrow
    have p0 : (0 : Int32).toInt = 0 := by decide
    have fin : ∀ val : Int32, val = snK x y → isK u2 260 21 ∧ vp_in 0 (wn u2 260) ∧ K 0 (uL u2 260 (0 : Int32).toNatClampNeg val.toInt64) := fun val hval => by
      refine INVx_out I2 (hc _ _ (INVx_M (INVx_o I2)) ?_)
      obtain ⟨z0, to⟩ := snZ_0 (val := val.toInt64) hi I2 t2
      refine ⟨INVx_M (INVx_o I2), p_seenFault (INVx_o I2).1 hi to (fun _ => ⟨INVx_M (INVx_o I2), ?_⟩) (fun z => absurd o z)⟩
      rw [fw]
      refine br_t rfl (br_t (by rw [fa_le, p0]; exact cy.1) ⟨INVx_M (INVx_t (INVx_o I2) (by decide) (by decide) (by decide)), ?_⟩)
      rw [show wI (uI (uL u2 260 (0 : Int32).toNatClampNeg val.toInt64) 245 4 0) 245 4 = 0 from fw _ _]
      refine br_t (by decide) (p_fitting (Z := snZ (uL u2 260 0 val.toInt64) g i sv m v) (P := fun r a s => snF v r a s m) hi (fun _ z => snZ_25 hi z) (fun _ => snZ_S) (Or.inl ⟨rfl, fun _ _ _ => rfl⟩) z0 (fun u3 z3 e3 => ⟨(snZ_S z3).1.2.2.2.2.2.2.2.2.2.2.1.1, ?_⟩))
      rw [e3, ← hx, ← hval]
      exact rFin I2 z3.1 hB hk
    refine br_f (fun z => by rw [fa_lt, p0] at z; omega) ⟨I2.1.2.2.2.1.1, ?_⟩
    rw [h3, I2.1.2.2.2.1.2.1, I2.1.2.2.2.1.2.2.2]
    obtain ⟨j, hj⟩ : ∃ j : Nat, y.toInt = j := ⟨y.toInt.toNat, by omega⟩
    have ey := nI_v hj
    by_cases c1 : x.1 ≤ j
    · have k1 : (-1 : Int32) = snK x y := (if_neg (by omega)).symm
      exact br_t (by rw [ey]; exact nI_le c1 (by omega)) (fin _ k1)
    · have k1 : nI (x.2 j) = snK x y := by
        unfold snK
        rw [if_pos (by omega), hj]
        rfl
      rw [ey]
      refine br_f (nI_ge (by omega) (by omega)) ⟨I2.1.2.2.2.1.2.2.1, br_f (nI_ge (b := 649) (by omega) (by decide)) ⟨vp_in_nI (by omega) (by decide), ?_⟩⟩
      rw [nI_clamp (by omega), hrow j (by omega)]
      exact fin _ k1
  · have J := INVx_J I hN
    subst hx
    refine hc _ _ (INVx_M J) ⟨INVx_M J, p_seenFault J.1 hi (TRv_J s hN hi t) (fun _ => ⟨INVx_M J, ?_⟩) (fun z => absurd o z)⟩
    rw [fw]
    have J1 := INVx_t (k := 4) (v := 0) J (by decide) (by decide) (by decide)
    have J2 := INVx_t (k := 4) (v := 3) J1 (by decide) (by decide) (by decide)
    have p0 : (0 : Int32).toInt = 0 := by decide
    have hy := Int32.toInt_lt y
    refine br_t rfl (br_f (fun z => cy ?_) ⟨INVx_M J2, ?_⟩)
    · rw [fa_le, p0] at z
      omega
    · rw [fw]
      exact br_f (by decide) (finK J2 (by decide) (fw _ _) hB hk)
  · have J := INVx_J I hN
    exact hc _ _ (INVx_M J) ⟨INVx_M J, p_seen1 (INVx_M J) c (sn_bad2 (b := 0) J (by decide) hB hk)⟩
  · have J := INVx_J I hN
    subst hx
    exact hc _ _ (INVx_M J) ⟨INVx_M J, p_seen2 J.1 hi (TRv_J s hN hi t) (sn_bad2 (b := 0) J (by decide) hB hk)⟩
  · have J := INVx_J I hN
    subst hx
    exact hc _ _ (INVx_M J) ⟨INVx_M J, p_seenFault J.1 hi (TRv_J s hN hi t) (fun z => absurd z o) (fun _ => sn_bad2 (b := 0) J (by decide) hB hk)⟩
end SC
