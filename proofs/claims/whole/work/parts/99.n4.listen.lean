/-! 99.n4: calls: listen, whose -/
def snL (x : Nat × (Nat → Nat)) (m : Nat) : Nat → Int32 × Int32
  | 0 => (-1, -1)
  | k + 1 => if (snL x m k).2 < nI (min (snC x.2 (m + k) x.1) (x.1 - snC x.2 (m + k) x.1)) then (nI (k + 1), nI (min (snC x.2 (m + k) x.1) (x.1 - snC x.2 (m + k) x.1))) else snL x m k
section SL
variable {w : Wd} {B : Nat} {L F : Wd → Prop} {g : Nat → Nat}
theorem q_tells {x : Nat × (Nat → Nat)} {m : Nat} {K : Int32 → Wd → Prop} (S : SH w) (hm : m ≤ 24) (h0 : wI w 71 0 = nI m) (h3 : wI w 71 3 = nI x.1) (hrow : ∀ j, j < x.1 → wI w 72 j = nI (x.2 j)) (hb : snB x) (hx : x.1 ≤ 649) (hk : K (if x.1 = 0 then -1 else (snL x m 24).1) w) : ∃ n, l_X9_tellsMost_10 K n 71 (-1) (-1) 0 w := by
  by_cases c : x.1 = 0
  · rw [if_pos c] at hk
    refine ⟨1, br_f (by decide) ⟨S.2.2.2.1.1, ?_⟩⟩
    rw [h3, c]
    exact br_t (by decide) hk
  · rw [if_neg c] at hk
    have go : ∀ d k, k + d = 24 → l_X9_tellsMost_10 K (d + 1) 71 (snL x m k).1 (snL x m k).2 (nI k) w := by
      intro d
      induction d with
      | zero =>
        intro k hk1
        have : k = 24 := by omega
        subst this
        exact br_t (by decide) hk
      | succ d ih =>
        intro k hk1
        have cl := snC_le x.2 (m + k) x.1
        have z := ih (k + 1) (by omega)
        have e : snL x m (k + 1) = if (snL x m k).2 < nI (min (snC x.2 (m + k) x.1) (x.1 - snC x.2 (m + k) x.1)) then (nI (k + 1), nI (min (snC x.2 (m + k) x.1) (x.1 - snC x.2 (m + k) x.1))) else snL x m k := rfl
        rw [e] at z
        refine br_f (nI_ge (b := 24) (by omega) (by decide)) ⟨S.2.2.2.1.1, ?_⟩
        rw [h3, h0, nI_add]
        refine br_f (nI_ge (a := 0) (by omega) (by omega)) (q_awakeAmong S h3 hrow hb hx (by omega) ⟨S.2.2.2.1.1, ?_⟩)
        rw [h3, pk_sub cl, show (nI k + 1 : Int32) = nI (k + 1) from nI_add k 1]
        refine p_minI (by omega) (by omega) ?_
        by_cases q : (snL x m k).2 < nI (min (snC x.2 (m + k) x.1) (x.1 - snC x.2 (m + k) x.1))
        · rw [if_pos q] at z
          exact br_f (fa_of_lt q).2.1 z
        · rw [if_neg q] at z
          exact br_t (fa_of_nlt q) z
    exact ⟨25, go 24 0 rfl⟩
theorem jn_listen {x : Int32} (I : INV w B) (hB : B + 99 < 2 ^ 24) (hk : ∀ u, INV u (B + 99) → L u) {K : Int32 → Wd → Prop} (hc : ∀ r w1, isK w1 245 12 → w_X12_listen 245 x (fun b w2 => tlT L F r b.toInt64 w2) w1 → K r w1) : w_L_listen 3 18 64 x 260 K w := by
  obtain ⟨g, I⟩ := INV_x I
  have s := I.1
  refine ⟨s.1.1, ⟨by decide, by decide⟩, s.1.1, ?_⟩
  rw [x71 s]
  refine ⟨s.2.2.2.1.1, ⟨by decide, by decide⟩, q_heardTray s I.2.2.2.2.2.1 (fun i hi hx sv m v t o => ?_) (fun c N hN => Or.inl ⟨rfl, ?_⟩) (fun i hi hx sv m v t N hN => Or.inr (Or.inl ⟨rfl, ?_⟩)) (fun i hi hx sv m v t o N hN => Or.inr (Or.inr ⟨rfl, ?_⟩))⟩
  · subst hx
    refine ⟨s.2.2.2.1.1, q_hear s hi t o (fun u c cR n => ?_)⟩
    have Iu := INVx_7 I c cR
    rw [x71 Iu.1]
    refine ⟨Iu.1.1.1, Iu.1.2.2.2.1.1, Iu.1.2.2.2.1.1, q_findFitting Iu.1 n o (fun u2 W => ?_)⟩
    have I2 := INVx_7 Iu W.1 W.2.1
    have t2 := sn7_fr W.1 Iu.1 hi (sn7_fr c s hi t)
    have hm := o.2.1
    obtain ⟨P, hP⟩ : ∃ P : Nat → Nat → Nat → Bool, P = fun r a s => snF v r a s m := ⟨_, rfl⟩
    obtain ⟨x, hx⟩ : ∃ x, x = snR P 11 := ⟨_, rfl⟩
    have hx6 : x.1 ≤ 649 := by rw [hx]; exact sn_all _
    have hxB : snB x := by rw [hx]; exact snR_B P 11 (Nat.le_refl _)
    have h3 := W.2.2.2.1
    have hrow := W.2.2.2.2
    rw [← hP, ← hx] at h3 hrow
    refine q_tells I2.1 hm W.2.2.1.1 h3 hrow hxB hx6 (INVx_out I2 (hc _ _ (INVx_M (INVx_o I2)) ?_))
    obtain ⟨val, hval⟩ : ∃ val : Int32, val = if x.1 = 0 then -1 else (snL x m 24).1 := ⟨_, rfl⟩
    rw [← hval]
    obtain ⟨z0, to⟩ := snZ_0 (val := val.toInt64) hi I2 t2
    refine ⟨INVx_M (INVx_o I2), p_seenFault (INVx_o I2).1 hi to (fun _ => ⟨INVx_M (INVx_o I2), ?_⟩) (fun z => absurd o z)⟩
    rw [fw]
    refine br_t (by decide) (p_fitting (Z := snZ (uL u2 260 0 val.toInt64) g i sv m v) (P := P) hi (fun _ z => snZ_25 hi z) (fun _ => snZ_S) (Or.inl ⟨rfl, fun _ _ _ => by rw [hP]⟩) z0 (fun u3 z3 _ => ?_))
    rw [← hx]
    by_cases cx0 : x.1 = 0
    · rw [if_pos cx0] at hval
      rw [cx0]
      subst hval
      exact br_t rfl (rFin I2 z3.1 hB hk)
    · rw [if_neg cx0] at hval
      refine br_f (nI_ne0 (by omega) (by omega)) ?_
      have go : ∀ d k u4, k + d = 24 → snZ (uL u2 260 0 val.toInt64) g i sv m v u4 → l_X12_listen_40 (fun b w2 => tlT L F 0 b.toInt64 w2) (d + 1) 245 (nI i) (nI x.1) (snL x m k).1 (snL x m k).2 (nI k) u4 := by
        intro d
        induction d with
        | zero =>
          intro k u4 hk1 z4
          have : k = 24 := by omega
          subst this
          refine br_t (by decide) ?_
          rw [← hval]
          exact rFin I2 z4.1 hB hk
        | succ d ih =>
          intro k u4 hk1 z4
          obtain ⟨S4, t4⟩ := snZ_S z4
          have cl := snC_le x.2 (m + k) x.1
          have m7 := m27a S4 hi t4
          refine br_f (nI_ge (b := 24) (by omega) (by decide)) ⟨S4.2.2.2.2.2.2.2.2.2.2.1.1, m7.1, m7.2.1, ?_⟩
          rw [m7.2.2, nI_add]
          refine p_fitting (Z := snZ (uL u2 260 0 val.toInt64) g i sv m v) (P := fun r a s => P r a s && snA r a s (m + k)) hi (fun _ z => snZ_25 hi z) (fun _ => snZ_S) (Or.inr ⟨m + k, by omega, rfl, fun _ _ _ => by rw [hP]⟩) z4 (fun u5 z5 _ => ?_)
          rw [snR_C P (m + k) 11 (Nat.le_refl _), ← hx, pk_sub cl, show (nI k + 1 : Int32) = nI (k + 1) from nI_add k 1]
          have z := ih (k + 1) u5 (by omega) z5
          have e : snL x m (k + 1) = if (snL x m k).2 < nI (min (snC x.2 (m + k) x.1) (x.1 - snC x.2 (m + k) x.1)) then (nI (k + 1), nI (min (snC x.2 (m + k) x.1) (x.1 - snC x.2 (m + k) x.1))) else snL x m k := rfl
          rw [e] at z
          refine p_minI (by omega) (by omega) ?_
          by_cases q : (snL x m k).2 < nI (min (snC x.2 (m + k) x.1) (x.1 - snC x.2 (m + k) x.1))
          · rw [if_pos q] at z
            exact br_t q z
          · rw [if_neg q] at z
            exact br_f q z
      exact ⟨25, go 24 0 u3 rfl z3⟩
  · have J := INVx_J I hN
    exact hc _ _ (INVx_M J) ⟨INVx_M J, p_seen1 (INVx_M J) c (sn_bad J (by decide) hB hk)⟩
  · have J := INVx_J I hN
    subst hx
    exact hc _ _ (INVx_M J) ⟨INVx_M J, p_seen2 J.1 hi (TRv_J s hN hi t) (sn_bad J (by decide) hB hk)⟩
  · have J := INVx_J I hN
    subst hx
    exact hc _ _ (INVx_M J) ⟨INVx_M J, p_seenFault J.1 hi (TRv_J s hN hi t) (fun z => absurd z o) (fun _ => sn_bad J (by decide) hB hk)⟩
theorem jn_whose {x : Int32} (I : INV w B) (hB : B + 99 < 2 ^ 24) (hk : ∀ u, INV u (B + 99) → L u) {K : Int32 → Wd → Prop} (hc : ∀ r w1, isK w1 245 12 → w_X12_whose 245 x (fun b w2 => tlT L F r b.toInt64 w2) w1 → K r w1) : w_L_whose 3 18 64 x 260 K w := by
  obtain ⟨g, I⟩ := INV_x I
  have s := I.1
  have hW := I.2.1
  have h10 := hW.1.1.2.1
  refine ⟨s.1.1, ⟨by decide, by decide⟩, s.1.1, ?_⟩
  rw [x71 s]
  refine ⟨s.2.2.2.1.1, ⟨by decide, by decide⟩, q_heardTray s I.2.2.2.2.2.1 (fun i hi hx sv m v t o => ?_) (fun c N hN => Or.inl ⟨rfl, ?_⟩) (fun i hi hx sv m v t N hN => Or.inr (Or.inl ⟨rfl, ?_⟩)) (fun i hi hx sv m v t o N hN => Or.inr (Or.inr ⟨rfl, ?_⟩))⟩
  · subst hx
    refine ⟨s.2.2.2.1.1, q_hear s hi t o (fun u c cR n => ?_)⟩
    have Iu := INVx_7 I c cR
    have tu := sn7_fr c s hi t
    obtain ⟨h, Lx, e0, k5⟩ := x_P Iu
    have H := Lx.1.1.1.2.2
    obtain ⟨p, hp⟩ : ∃ p : Nat → Bool, p = fun k => snF v (g (27 + k)) (g (37 + k)) (ph g k 0) m := ⟨_, rfl⟩
    obtain ⟨val, hval⟩ : ∃ val : Int32, val = nI (mk p (g 1)) := ⟨_, rfl⟩
    have bd : ∀ k, k < g 1 → 0 < g (27 + k) ∧ g (27 + k) < 100 ∧ g (37 + k) < 100 ∧ ph g k 0 < 100 := fun k hk1 => by
      obtain ⟨⟨b1, b2, b3, b4⟩, -⟩ := hW.1.2.1 k hk1
      have := Nat.mod_lt (g 26 + 0 + g (5 + k)) (show 0 < g (27 + k) by omega)
      exact ⟨by omega, by omega, by omega, by unfold ph; omega⟩
    have ref : K 0 (uL u 260 0 val.toInt64) := by
      refine hc _ _ (INVx_M (INVx_o Iu)) ?_
      obtain ⟨z0, to⟩ := snZ_0 (val := val.toInt64) hi Iu tu
      refine ⟨INVx_M (INVx_o Iu), p_seenFault (INVx_o Iu).1 hi to (fun _ => ⟨INVx_M (INVx_o Iu), ?_⟩) (fun z => absurd o z)⟩
      rw [fw]
      refine br_t (by decide) ?_
      obtain ⟨u1, hu1⟩ : ∃ u1, u1 = uI (uL u 260 0 val.toInt64) 245 4 0 := ⟨_, rfl⟩
      rw [← hu1] at z0 ⊢
      have R := z0.1.2.1
      have S1 := (snZ_S z0).1
      have go : ∀ d k, k + d = g 1 → l_X12_whose_22 (fun b w2 => tlT L F 0 b.toInt64 w2) (d + 1) 245 (nI i) (nI (mk p k)) (nI k) u1 := by
        intro d
        induction d with
        | zero =>
          intro k hk1
          have : k = g 1 := by omega
          subst this
          refine ⟨R.1.1, p_wells R (br_t (nI_le (Nat.le_refl _) (by omega)) ?_)⟩
          rw [← hval]
          exact rFin Iu z0.1 hB hk
        | succ d ih =>
          intro k hk1
          obtain ⟨b1, b2, b3, b4⟩ := bd k (by omega)
          obtain ⟨a1, a2, a3⟩ := p_rd (k := 27 + k) R (by omega) (P := fun z => z = nI (g (27 + k))) rfl
          obtain ⟨-, a5, a6⟩ := p_rd (k := 37 + k) R (by omega) (P := fun z => z = nI (g (37 + k))) rfl
          refine ⟨R.1.1, p_wells R (br_f (nI_ge (by omega) (by omega)) ⟨R.1.1, ?_⟩)⟩
          rw [show (27 + nI k : Int32) = nI (27 + k) from nI_add 27 k, show (37 + nI k : Int32) = nI (37 + k) from nI_add 37 k, a3, a6]
          refine ⟨a1, a2, a5, p_phaseIn R hW.1 hW.2.2.1 hW.2.2.2.2 (by omega) (n := 0) (by decide) ⟨R.1.1, p_fitsSeen S1 hi z0.2 b1 b2 b3 b4 ?_⟩⟩
          rw [p_or0, p_one (by omega), p_or _ (by omega), show (nI k + 1 : Int32) = nI (k + 1) from nI_add k 1]
          have z := ih (k + 1) (by omega)
          cases q : snF v (g (27 + k)) (g (37 + k)) (ph g k 0) m
          · rw [mk_f (show p k = false from by rw [hp]; exact q)] at z
            exact br_t rfl z
          · rw [mk_t (show p k = true from by rw [hp]; exact q)] at z
            exact br_f (by decide) z
      exact ⟨g 1 + 1, go (g 1) 0 (by omega)⟩
    rw [Iu.1.1.2.1, e0]
    refine ⟨Iu.1.1.1, k5, Lx.1.1.1.1, g 1 + 1, ?_⟩
    have go : ∀ d k, k + d = g 1 → l_X11_whose_25 3 18 (fun E u => (E = "java/util/NoSuchElementException" ∧ K 1 u) ∨ (E = "java/lang/IllegalStateException" ∧ K 2 u) ∨ (E = "java/lang/IllegalArgumentException" ∧ K 3 u)) (fun r1 w1 => isK w1 260 21 ∧ vp_in 0 (wn w1 260) ∧ K 0 (uL w1 260 (0 : Int32).toNatClampNeg r1.toInt64)) (d + 1) 64 92 (nI (mk p k)) (nI k) 3 18 u := by
      intro d
      induction d with
      | zero =>
        intro k hk1
        have : k = g 1 := by omega
        subst this
        refine ⟨Lx.1.1.1.1, ?_⟩
        rw [Lx.1.1.1.2.1, H.2.1.2.1]
        refine ⟨H.1, br_t (nI_le (Nat.le_refl _) (by omega)) ?_⟩
        rw [← hval]
        exact INVx_out Iu ref
      | succ d ih =>
        intro k hk1
        obtain ⟨b1, b2, b3, b4⟩ := bd k (by omega)
        refine ⟨Lx.1.1.1.1, ?_⟩
        rw [Lx.1.1.1.2.1, H.2.1.2.1, x71 Iu.1]
        refine ⟨H.1, br_f (nI_ge (by omega) (by omega)) ⟨Iu.1.1.1, Iu.1.2.2.2.1.1, q_roundOf H (by omega) ⟨Lx.1.1.1.1, ?_⟩⟩⟩
        rw [Lx.1.1.1.2.1]
        refine ⟨H.1, q_upOf H (by omega) ⟨Lx.1.1.1.1, q_phaseOf Lx.1.1 hW (by omega) ⟨Iu.1.2.2.2.1.1, q_fits Iu.1 n o b1 b2 b3 b4 ?_⟩⟩⟩
        rw [p_one (by omega), p_or _ (by omega), show (nI k + 1 : Int32) = nI (k + 1) from nI_add k 1]
        have z := ih (k + 1) (by omega)
        cases q : snF v (g (27 + k)) (g (37 + k)) (ph g k 0) m
        · rw [mk_f (show p k = false from by rw [hp]; exact q)] at z
          exact br_t rfl z
        · rw [mk_t (show p k = true from by rw [hp]; exact q)] at z
          exact br_f (by decide) z
    exact go (g 1) 0 (by omega)
  · have J := INVx_J I hN
    exact hc _ _ (INVx_M J) ⟨INVx_M J, p_seen1 (INVx_M J) c (sn_bad J (by decide) hB hk)⟩
  · have J := INVx_J I hN
    subst hx
    exact hc _ _ (INVx_M J) ⟨INVx_M J, p_seen2 J.1 hi (TRv_J s hN hi t) (sn_bad J (by decide) hB hk)⟩
  · have J := INVx_J I hN
    subst hx
    exact hc _ _ (INVx_M J) ⟨INVx_M J, p_seenFault J.1 hi (TRv_J s hN hi t) (fun z => absurd z o) (fun _ => sn_bad J (by decide) hB hk)⟩
end SL
