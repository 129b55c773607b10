/-! 62: the class's hills and lands, what only reads them -/
def arr (w : Wd) (t n : Nat) (p : Nat → Nat) : Prop := isK w t 20 ∧ wn w t = n ∧ ∀ k, k < n → wI w t k = nI (p k)
/-- a step of a law, as the class keeps it -/
def cvS (c : Nat) : Nat := if 1000 ≤ c then c - 1000 else if 100 ≤ c then c + 900 else c + 1990
def lawR (w : Wd) (t : Nat) (g : Nat → Nat) : Prop := (t = 1 ∧ wn w 1 = 0 ∧ g 3 = 0) ∨ (arr w t (g 3) (fun i => cvS (g (299 + i))))
def HR (w : Wd) (h : Nat) (g : Nat → Nat) : Prop := isK w h 1 ∧ (wI w h 0 = nI (g 0) ∧ wI w h 1 = nI (g 1) ∧ wI w h 2 = nI (g 2)) ∧ (wR w h 5 = h + 1 ∧ arr w (h + 1) 10 (fun v => g (27 + v))) ∧ (wR w h 6 = h + 2 ∧ arr w (h + 2) 10 (fun v => g (37 + v))) ∧ (wR w h 8 = h + 4 ∧ arr w (h + 4) 10 (fun v => g (47 + v))) ∧ (wR w h 10 = h + 6 ∧ arr w (h + 6) 10 (fun v => g (57 + v))) ∧ (wR w h 11 = h + 7 ∧ arr w (h + 7) 6 (fun v => g (67 + v))) ∧ (wR w h 12 = h + 8 ∧ arr w (h + 8) 6 (fun v => g (73 + v))) ∧ lawR w (wR w h 4) g
/-- a land at r, whose hills stand at h -/
def LR (w : Wd) (r h : Nat) (g : Nat → Nat) : Prop := (isK w r 2 ∧ wR w r 0 = h ∧ HR w h g) ∧ (wI w r 1 = nI (g 26) ∧ wI w r 2 = nI (g 25)) ∧ (wR w r 3 = r + 1 ∧ arr w (r + 1) 10 (fun v => g (5 + v))) ∧ (wR w r 4 = r + 2 ∧ arr w (r + 2) 10 (fun v => g (15 + v)))
theorem p_acc {w : Wd} {t n k r : Nat} {p : Nat → Nat} (h : arr w t n p) (hr : isK w r k) (hn : n < 2 ^ 31) {v : Nat} (hv : v < n) {K : Int32 → Wd → Prop} (hk : K (nI (p v)) w) : ((nI v < 0 → K 0 w) ∧ (¬ nI v < 0 → isK w r k ∧ isK w t 20 ∧ (((Int32.ofNat (wn w t)) ≤ nI v → K 0 w) ∧ (¬ (Int32.ofNat (wn w t)) ≤ nI v → vp_in (nI v) (wn w t) ∧ K (wI w t (nI v).toNatClampNeg) w)))) := by
  refine br_f (nI_pos (by omega)) ⟨hr, h.1, ?_⟩
  rw [h.2.1, nI_clamp (by omega), h.2.2 v hv]
  exact br_f (nI_ge hv hn) ⟨vp_in_nI hv hn, hk⟩
section CR
variable {w : Wd} {r h : Nat} {g : Nat → Nat} {B : Nat} {K : Int32 → Wd → Prop} {v : Nat}
theorem q_roundOf (H : HR w h g) (hv : v < 10) (hk : K (nI (g (27 + v))) w) : w_X1_roundOf h (nI v) K w := by
  unfold w_X1_roundOf; rw [H.2.2.1.1]; exact p_acc H.2.2.1.2 H.1 (by decide) hv hk
theorem q_upOf (H : HR w h g) (hv : v < 10) (hk : K (nI (g (37 + v))) w) : w_X1_upOf h (nI v) K w := by
  unfold w_X1_upOf; rw [H.2.2.2.1.1]; exact p_acc H.2.2.2.1.2 H.1 (by decide) hv hk
theorem q_deepOf (H : HR w h g) (hv : v < 10) (hk : K (nI (g (47 + v))) w) : w_X1_deepOf h (nI v) K w := by
  unfold w_X1_deepOf; rw [H.2.2.2.2.1.1]; exact p_acc H.2.2.2.2.1.2 H.1 (by decide) hv hk
theorem q_besideOf (H : HR w h g) (hv : v < 10) (hk : K (nI (g (57 + v))) w) : w_X1_besideOf h (nI v) K w := by
  unfold w_X1_besideOf; rw [H.2.2.2.2.2.1.1]; exact p_acc H.2.2.2.2.2.1.2 H.1 (by decide) hv hk
theorem q_needOf (H : HR w h g) (hv : v < 6) (hk : K (nI (g (67 + v))) w) : w_X1_needOf h (nI v) K w := by
  unfold w_X1_needOf; rw [H.2.2.2.2.2.2.1.1]; exact p_acc H.2.2.2.2.2.2.1.2 H.1 (by decide) hv hk
theorem q_fromOf (H : HR w h g) (hv : v < 6) (hk : K (nI (g (73 + v))) w) : w_X1_fromOf h (nI v) K w := by
  unfold w_X1_fromOf; rw [H.2.2.2.2.2.2.2.1.1]; exact p_acc H.2.2.2.2.2.2.2.1.2 H.1 (by decide) hv hk
theorem q_shiftOf (L : LR w r h g) (hv : v < 10) (hk : K (nI (g (5 + v))) w) : w_X2_shiftOf r (nI v) K w := by
  unfold w_X2_shiftOf; rw [L.2.2.1.1]; exact p_acc L.2.2.1.2 L.1.1 (by decide) hv hk
theorem q_waterOf (L : LR w r h g) (hv : v < 10) (hk : K (nI (g (15 + v))) w) : w_X2_waterOf r (nI v) K w := by
  unfold w_X2_waterOf; rw [L.2.2.2.1]; exact p_acc L.2.2.2.2 L.1.1 (by decide) hv hk
theorem isB_t {n : Nat} {x : Int} (h : 0 ≤ x ∧ x < n) : isB n x = true := decide_eq_true h
theorem isB_f {n : Nat} {x : Int} (h : ¬ (0 ≤ x ∧ x < n)) : isB n x = false := decide_eq_false h
theorem q_hasWell (H : HR w h g) (hh : wfH g) {x : Int32} (hk : K (b2i (isB (g 1) x.toInt)) w) : w_X1_hasWell h x K w := by
  have h10 := hh.1.2.1
  have p0 : (0 : Int32).toInt = 0 := by decide
  have p10 : (10 : Int32).toInt = 10 := by decide
  have e : (nI (g 1)).toInt = g 1 := nI_toInt (by omega)
  unfold w_X1_hasWell
  rw [H.2.1.2.1]
  by_cases c1 : x.toInt < 0
  · rw [isB_f (by omega)] at hk
    exact br_t (by rw [fa_lt, p0]; exact c1) hk
  refine br_f (by rw [fa_lt, p0]; exact c1) ⟨H.1, ?_⟩
  by_cases c2 : (g 1 : Int) ≤ x.toInt
  · rw [isB_f (by omega)] at hk
    exact br_t (by rw [fa_le, e]; exact c2) hk
  · rw [isB_t (by omega)] at hk
    exact br_f (by rw [fa_le, e]; exact c2) (br_f (by rw [fa_le, p10]; omega) hk)
theorem q_hasHouse (H : HR w h g) (hh : wfH g) {x : Int32} (hk : K (b2i (isB (g 2) x.toInt)) w) : w_X1_hasHouse h x K w := by
  have h10 := hh.1.2.2.1
  have p0 : (0 : Int32).toInt = 0 := by decide
  have p10 : (6 : Int32).toInt = 6 := by decide
  have e : (nI (g 2)).toInt = g 2 := nI_toInt (by omega)
  unfold w_X1_hasHouse
  rw [H.2.1.2.2]
  by_cases c1 : x.toInt < 0
  · rw [isB_f (by omega)] at hk
    exact br_t (by rw [fa_lt, p0]; exact c1) hk
  refine br_f (by rw [fa_lt, p0]; exact c1) ⟨H.1, ?_⟩
  by_cases c2 : (g 2 : Int) ≤ x.toInt
  · rw [isB_f (by omega)] at hk
    exact br_t (by rw [fa_le, e]; exact c2) hk
  · rw [isB_t (by omega)] at hk
    exact br_f (by rw [fa_le, e]; exact c2) (br_f (by rw [fa_le, p10]; omega) hk)
theorem q_allWells (H : HR w h g) (hh : wfH g) (hk : K (nI (allS g)) w) : w_X1_allWells h K w := by
  have h10 := hh.1.2.1
  refine ⟨H.1, ?_⟩
  rw [H.2.1.2.1, p_one (by omega), show (nI (2 ^ g 1) - 1 : Int32) = nI (2 ^ g 1 - 1) from pk_sub (b := 1) (Nat.two_pow_pos _)]
  exact hk
theorem q_has {s : Nat} (hs : s < 2 ^ 31) (hv : v < 32) (hk : K (b2i (s.testBit v)) w) : w_X11_has (nI s) (nI v) K w := by
  unfold w_X11_has
  rw [p_bit hs hv]
  refine br_f (nI_pos (by omega)) (br_f (nI_ge (b := 32) hv (by decide)) ?_)
  cases e : s.testBit v <;> rw [e] at hk
  · exact br_t rfl hk
  · exact br_f (by decide) hk
theorem q_isAwakeIn (L : LR w r h g) (hh : wfH g) (hs : wfS g 5 B) (hB : B < 2 ^ 24) {n : Nat} (hv : v < g 1) (hn : n < 2 ^ 24) (hk : K (b2i (upb g n v)) w) : w_X2_isAwakeIn r (nI v) (nI n) K w := by
  have h10 := hh.1.2.1
  obtain ⟨⟨h1, h2, h3, h4⟩, -⟩ := hh.2.1 v hv
  have h5 := (hs.1 v hv).1
  have h6 : g 26 ≤ B := hs.2.2
  have h7 : ph g v n < g (27 + v) := Nat.mod_lt _ (by omega)
  have H := L.1.2.2
  unfold w_X2_isAwakeIn
  rw [L.1.2.1]
  refine ⟨L.1.1, H.1, q_roundOf H (by omega) (br_f (nI_nlt (b := 1) (by omega) (by omega)) ⟨L.1.1, q_shiftOf L (by omega) ⟨nI_ne0 (by omega) (by omega), L.1.1, ?_⟩⟩)⟩
  rw [L.1.2.1]
  refine ⟨H.1, q_upOf H (by omega) ?_⟩
  rw [L.2.1.1, nI_add, nI_add, show x_irem (nI (g 26 + n + g (5 + v))) (nI (g (27 + v))) = nI (ph g v n) from pk_rem (by omega) (by omega) (by omega)]
  by_cases hc : g (37 + v) ≤ ph g v n
  · rw [show upb g n v = false from decide_eq_false (by omega)] at hk
    exact br_t (nI_le hc (by omega)) hk
  · rw [show upb g n v = true from decide_eq_true (by omega)] at hk
    exact br_f (nI_ge (by omega) (by omega)) hk
theorem q_isAwake (L : LR w r h g) (hW : WF g B) (hv : v < g 1) (hk : K (b2i (upb g 0 v)) w) : w_X2_isAwake r (nI v) K w := ⟨L.1.1, q_isAwakeIn L hW.1 hW.2.2.1 hW.2.2.2.2 hv (n := 0) (by decide) ⟨b2i_or _, hk⟩⟩
theorem slp_mk (g : Nat → Nat) : mk (fun v => !upb g 0 v) (g 1) = slp g := mk_ext (mk_lt _ _) (slp_lt g) (fun k hk => by rw [mk_bit, slp_bit])
theorem q_asleepBits (L : LR w r h g) (hW : WF g B) (hk : K (nI (slp g)) w) : w_X2_asleepBits r K w := by
  have h10 := hW.1.1.2.1
  have H := L.1.2.2
  rw [← slp_mk] at hk
  have go : ∀ d i, i + d = g 1 → l_X2_asleepBits_4 K (d + 1) r (nI (mk (fun v => !upb g 0 v) i)) (nI i) w := by
    intro d
    induction d with
    | zero =>
      intro i hi
      have : i = g 1 := by omega
      subst this
      unfold l_X2_asleepBits_4
      rw [L.1.2.1, H.2.1.2.1]
      exact ⟨L.1.1, H.1, br_t (nI_le (Nat.le_refl _) (by omega)) hk⟩
    | succ d ih =>
      intro i hi
      have e := ih (i + 1) (by omega)
      unfold l_X2_asleepBits_4
      rw [L.1.2.1, H.2.1.2.1]
      refine ⟨L.1.1, H.1, br_f (nI_ge (by omega) (by omega)) (q_isAwakeIn L hW.1 hW.2.2.1 hW.2.2.2.2 (by omega) (n := 0) (by decide) ?_)⟩
      rw [p_one (by omega), p_or _ (by omega), nI_1]
      cases eb : upb g 0 i
      · rw [mk_t (p := fun v => !upb g 0 v) (by simp [eb])] at e
        exact br_t rfl e
      · rw [mk_f (p := fun v => !upb g 0 v) (by simp [eb])] at e
        exact br_f (by decide) e
  exact ⟨g 1 + 1, go (g 1) 0 (by omega)⟩
theorem q_awakeBits (L : LR w r h g) (hW : WF g B) (hk : K (nI (ups g 0)) w) : w_X2_awakeBits r K w := by
  have h10 := hW.1.1.2.1
  have H := L.1.2.2
  have go : ∀ d i, i + d = g 1 → l_X2_awakeBits_4 K (d + 1) r (nI (mk (upb g 0) i)) (nI i) w := by
    intro d
    induction d with
    | zero =>
      intro i hi
      have : i = g 1 := by omega
      subst this
      unfold l_X2_awakeBits_4
      rw [L.1.2.1, H.2.1.2.1]
      exact ⟨L.1.1, H.1, br_t (nI_le (Nat.le_refl _) (by omega)) hk⟩
    | succ d ih =>
      intro i hi
      have e := ih (i + 1) (by omega)
      unfold l_X2_awakeBits_4
      rw [L.1.2.1, H.2.1.2.1]
      refine ⟨L.1.1, H.1, br_f (nI_ge (by omega) (by omega)) (q_isAwakeIn L hW.1 hW.2.2.1 hW.2.2.2.2 (by omega) (n := 0) (by decide) ?_)⟩
      rw [p_one (by omega), p_or _ (by omega), nI_1]
      cases eb : upb g 0 i
      · rw [mk_f eb] at e
        exact br_t rfl e
      · rw [mk_t eb] at e
        exact br_f (by decide) e
  exact ⟨g 1 + 1, go (g 1) 0 (by omega)⟩
theorem q_allWater (L : LR w r h g) (hh : wfH g) (hk : K (nI (wsum g (g 1))) w) : w_X2_allWater r K w := by
  have h10 := hh.1.2.1
  have H := L.1.2.2
  have go : ∀ d i, i + d = g 1 → l_X2_allWater_4 K (d + 1) r (nI (wsum g i)) (nI i) w := by
    intro d
    induction d with
    | zero =>
      intro i hi
      have : i = g 1 := by omega
      subst this
      unfold l_X2_allWater_4
      rw [L.1.2.1, H.2.1.2.1]
      exact ⟨L.1.1, H.1, br_t (nI_le (Nat.le_refl _) (by omega)) hk⟩
    | succ d ih =>
      intro i hi
      unfold l_X2_allWater_4
      rw [L.1.2.1, H.2.1.2.1]
      refine ⟨L.1.1, H.1, br_f (nI_ge (by omega) (by omega)) (q_waterOf L (by omega) ?_)⟩
      rw [nI_add, nI_1]
      exact ih (i + 1) (by omega)
  exact ⟨g 1 + 1, go (g 1) 0 (by omega)⟩
theorem q_phaseOf (L : LR w r h g) (hW : WF g B) (hv : v < g 1) (hk : K (nI (ph g v 0)) w) : w_X2_phaseOf r (nI v) K w := by
  have h10 := hW.1.1.2.1
  obtain ⟨⟨h1, h2, h3, h4⟩, -⟩ := hW.1.2.1 v hv
  have h5 := (hW.2.2.1.1 v hv).1
  have h6 : g 26 ≤ B := hW.2.2.1.2.2
  have hB := hW.2.2.2.2
  have H := L.1.2.2
  unfold w_X2_phaseOf
  rw [L.1.2.1, L.2.2.1.1, H.2.2.1.1, L.2.2.1.2.2.1, H.2.2.1.2.2.1, nI_clamp (by omega), L.2.1.1, show wI w (r + 1) v = nI (g (5 + v)) from L.2.2.1.2.2.2 v (by omega), show wI w (h + 1) v = nI (g (27 + v)) from H.2.2.1.2.2.2 v (by omega)]
  refine br_f (nI_pos (by omega)) ⟨L.1.1, L.2.2.1.2.1, br_f (nI_ge (b := 10) (by omega) (by decide)) ⟨H.1, H.2.2.1.2.1, br_f (nI_ge (b := 10) (by omega) (by decide)) ⟨vp_in_nI (by omega) (by decide), br_t (nI_le (a := 1) (by omega) (by omega)) ⟨vp_in_nI (by omega) (by decide), vp_in_nI (by omega) (by decide), nI_ne0 (by omega) (by omega), ?_⟩⟩⟩⟩
  rw [nI_add, show x_irem (nI (g 26 + g (5 + v))) (nI (g (27 + v))) = nI (ph g v 0) from pk_rem (by omega) (by omega) (by omega)]
  exact hk
end CR
