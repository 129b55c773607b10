/-! 99.n2: both sides find the rounds that fit -/
def snW (w u : Wd) (m : Nat) (v : Nat → Int64) (x : Nat × (Nat → Nat)) : Prop := cx sn7 w u ∧ wR u = wR w ∧ sn1 u m v ∧ wI u 71 3 = nI x.1 ∧ ∀ j, j < x.1 → wI u 72 j = nI (x.2 j)
section SF
variable {w : Wd}
theorem sn7_fr {u : Wd} {i sv m : Nat} {b : Bool} {v : Nat → Int64} (c : cx sn7 w u) (s : SH w) (hi : i < 4) (t : TRv w i b sv m v) : TRv u i b sv m v := TRv_fr c s hi (fun t z => by unfold sn7 at z; omega) t
theorem q_hear {i sv m : Nat} {b : Bool} {v : Nat → Int64} {K : Wd → Prop} (S : SH w) (hi : i < 4) (t : TRv w i b sv m v) (o : snO v m) (hk : ∀ u, cx sn7 w u → wR u = wR w → sn1 u m v → K u) : w_X9_hear 71 (230 + 2 * i) K w := by
  have hm := o.2.1
  obtain ⟨pH, hH⟩ : ∃ pH : Nat → Bool, pH = fun k => !decide (v k = -1) := ⟨_, rfl⟩
  obtain ⟨pA, hA⟩ : ∃ pA : Nat → Bool, pA = fun k => decide (v k = 1) := ⟨_, rfl⟩
  have go : ∀ d k u, k + d = m → cx sn7 w u → wR u = wR w → wI u 71 0 = nI m → wI u 71 1 = nI (mk pH k) → wI u 71 2 = nI (mk pA k) → l_X9_hear_20 K (d + 1) 71 (230 + 2 * i) (nI k) u := by
    intro d
    induction d with
    | zero =>
      intro k u hkm c cR e0 e1 e2
      have : k = m := by omega
      subst this
      have Su := SH_e c cR S
      have tu := sn7_fr c S hi t
      have fin : K u := hk u c cR ⟨e0, by rw [e1, hH], by rw [e2, hA]⟩
      refine ⟨fun _ => fin, fun _ => ⟨(Su.2.2.2.2.2.2.1 i hi).1, ?_⟩⟩
      rw [tu.2.2.1.2.1]
      exact br_t (nI_le (Nat.le_refl _) (by omega)) fin
    | succ d ih =>
      intro k u hkm c cR e0 e1 e2
      have Su := SH_e c cR S
      have tu := sn7_fr c S hi t
      have half : ∀ u1, cx sn7 w u1 → wR u1 = wR w → wI u1 71 0 = nI m → wI u1 71 1 = nI (mk pH (k + 1)) → wI u1 71 2 = nI (mk pA k) → j_X9_hear_58 (l_X9_hear_20 K (d + 1)) K 71 (230 + 2 * i) (nI k) u1 := by
        intro u1 c1 cR1 f0 f1 f2
        have S1 := SH_e c1 cR1 S
        have t1 := sn7_fr c1 S hi t
        refine ⟨(S1.2.2.2.2.2.2.1 i hi).1, q_numberAt S1 hi t1 (by omega) ?_⟩
        rw [f2, p_one (by omega), p_or _ (by omega), show (nI k + 1 : Int32) = nI (k + 1) from nI_add k 1]
        by_cases q : v k = 1
        · have z : pA k = true := by rw [hA]; exact decide_eq_true q
          refine br_t ((lg_cmp_eq _ _).mpr q) ⟨S1.2.2.2.1.1, ih (k + 1) _ (by omega) (cx_trans c1 (cx_uI (Or.inl rfl))) cR1 ?_ ?_ ?_⟩
          · rw [wI_uI, if_neg (by decide)]; exact f0
          · rw [wI_uI, if_neg (by decide)]; exact f1
          · rw [wI_uI, if_pos rfl, mk_t z]
        · have z : pA k = false := by rw [hA]; exact decide_eq_false q
          exact br_f (fun e => q ((lg_cmp_eq _ _).mp e)) (ih (k + 1) u1 (by omega) c1 cR1 f0 f1 (by rw [mk_f z]; exact f2))
      refine br_f (nI_ge (b := 24) (by omega) (by decide)) ⟨(Su.2.2.2.2.2.2.1 i hi).1, ?_⟩
      rw [tu.2.2.1.2.1]
      refine br_f (nI_ge (by omega) (by omega)) (q_numberAt Su hi tu (by omega) ?_)
      rw [e1, p_one (by omega), p_or _ (by omega)]
      by_cases q : v k = -1
      · have z : pH k = false := by rw [hH]; show (!decide (v k = -1)) = false; rw [decide_eq_true q]; rfl
        exact br_t ((lg_cmp_eq _ _).mpr q) (half u c cR e0 (by rw [mk_f z]; exact e1) e2)
      · have z : pH k = true := by rw [hH]; show (!decide (v k = -1)) = true; rw [decide_eq_false q]; rfl
        refine br_f (fun e => q ((lg_cmp_eq _ _).mp e)) ⟨Su.2.2.2.1.1, half _ (cx_trans c (cx_uI (Or.inl rfl))) cR ?_ ?_ ?_⟩
        · rw [wI_uI, if_neg (by decide)]; exact e0
        · rw [wI_uI, if_pos rfl, mk_t z]
        · rw [wI_uI, if_neg (by decide)]; exact e2
  refine ⟨(S.2.2.2.2.2.2.1 i hi).1, S.2.2.2.1.1, m + 1, ?_⟩
  rw [t.2.2.1.2.1]
  refine go m 0 _ (by omega) (cx_trans (cx_trans (cx_uI (Or.inl rfl)) (cx_uI (Or.inl rfl))) (cx_uI (Or.inl rfl))) rfl ?_ ?_ ?_
  · rw [wI_uI, if_neg (by decide), wI_uI, if_neg (by decide), wI_uI, if_pos rfl]
  · rw [wI_uI, if_neg (by decide), wI_uI, if_pos rfl]; rfl
  · rw [wI_uI, if_pos rfl]; rfl
theorem sn_code (r a s : Nat) : (10000 * nI r + 100 * nI a + nI s : Int32) = nI (10000 * r + 100 * a + s) := by
  show nI 10000 * nI r + nI 100 * nI a + nI s = _
  rw [pk_mul, pk_mul, nI_add, nI_add]
theorem q_findFitting {m : Nat} {v : Nat → Int64} {K : Wd → Prop} (S : SH w) (n1 : sn1 w m v) (o : snO v m) (hk : ∀ u, snW w u m v (snR (fun r a s => snF v r a s m) 11) → K u) : w_X9_findFitting 71 K w := by
  obtain ⟨P, hP⟩ : ∃ P : Nat → Nat → Nat → Bool, P = fun r a s => snF v r a s m := ⟨_, rfl⟩
  rw [← hP] at hk
  have g22 : ∀ n a, n < 11 → a < n + 2 → ∀ E : Nat → Int32 → Int32 → Wd → Prop, (∀ u, snW w u m v (snU P (n + 2) (snR P n) (a + 1)) → E 71 (nI (n + 2)) (nI (a + 1)) u) → ∀ d s u, s + d = n + 2 → snW w u m v (snS P (n + 2) (a + 1) (snU P (n + 2) (snR P n) a) s) → l_X9_findFitting_22 E K (d + 1) 71 (nI (n + 2)) (nI (a + 1)) (nI s) u := by
    intro n a hn ha E hE d
    induction d with
    | zero =>
      intro s u hs W
      have : s = n + 2 := by omega
      subst this
      exact br_t (nI_le (Nat.le_refl _) (by omega)) (hE u W)
    | succ d ih =>
      intro s u hs W
      obtain ⟨c, cR, n2, h3, hrow⟩ := W
      have Su := SH_e c cR S
      have room := sn_room P hn ha (s := s) (by omega)
      obtain ⟨x, hx⟩ : ∃ x, x = snS P (n + 2) (a + 1) (snU P (n + 2) (snR P n) a) s := ⟨_, rfl⟩
      have hx1 : snS P (n + 2) (a + 1) (snU P (n + 2) (snR P n) a) (s + 1) = snP (P (n + 2) (a + 1) s) (10000 * (n + 2) + 100 * (a + 1) + s) x := by rw [hx]; rfl
      rw [← hx] at room h3 hrow
      have ih2 := fun u => ih (s + 1) u (by omega)
      rw [hx1] at ih2
      refine br_f (nI_ge (by omega) (by omega)) ⟨Su.2.2.2.1.1, q_fits Su n2 o (by omega) (by omega) (by omega) (by omega) ?_⟩
      rw [show (nI s + 1 : Int32) = nI (s + 1) from nI_add s 1, show snF v (n + 2) (a + 1) s m = P (n + 2) (a + 1) s from by rw [hP]]
      cases q : P (n + 2) (a + 1) s
      · rw [q] at ih2
        exact br_t rfl (ih2 u ⟨c, cR, n2, h3, hrow⟩)
      · rw [q] at ih2
        refine br_f (by decide) ⟨Su.2.2.2.1.1, ?_⟩
        rw [h3, Su.2.2.2.1.2.1, Su.2.2.2.1.2.2.2, nI_clamp (by omega), sn_code]
        refine br_f (nI_pos (by omega)) ⟨Su.2.2.2.1.2.2.1, br_f (nI_ge (b := 649) (by omega) (by decide)) ⟨vp_in_nI (by omega) (by decide), ih2 _ ⟨cx_trans c (cx_trans (cx_uI (Or.inr rfl)) (cx_uI (Or.inl rfl))), cR, ⟨?_, ?_, ?_⟩, ?_, fun j hj => ?_⟩⟩⟩
        · rw [wI_uI, if_neg (by decide), wI_uI_ne (by decide)]; exact n2.1
        · rw [wI_uI, if_neg (by decide), wI_uI_ne (by decide)]; exact n2.2.1
        · rw [wI_uI, if_neg (by decide), wI_uI_ne (by decide)]; exact n2.2.2
        · rw [wI_uI, if_pos rfl, wI_uI_ne (by decide), h3]
          exact nI_add x.1 1
        · rw [wI_uI_ne (by decide), wI_uI]
          show _ = nI (if j = x.1 then _ else x.2 j)
          by_cases e : j = x.1
          · rw [if_pos e, if_pos e]
          · rw [if_neg e, if_neg e]
            exact hrow j (by have : j < x.1 + 1 := hj; omega)
  have g15 : ∀ n, n < 11 → ∀ E : Nat → Int32 → Wd → Prop, (∀ u, snW w u m v (snR P (n + 1)) → E 71 (nI (n + 2)) u) → ∀ d a u, a + d = n + 2 → snW w u m v (snU P (n + 2) (snR P n) a) → l_X9_findFitting_15 E K (d + 1) 71 (nI (n + 2)) (nI (a + 1)) u := by
    intro n hn E hE d
    induction d with
    | zero =>
      intro a u ha W
      have : a = n + 2 := by omega
      subst this
      exact br_t (nI_lt (by omega) (by omega)) (hE u W)
    | succ d ih =>
      intro a u ha W
      refine br_f (nI_nlt (by omega) (by omega)) ⟨n + 2 + 1, g22 n a hn (by omega) _ (fun u W1 => ?_) (n + 2) 0 u (by omega) W⟩
      show l_X9_findFitting_15 E K (d + 1) 71 (nI (n + 2)) (nI (a + 1) + 1) u
      rw [show (nI (a + 1) + 1 : Int32) = nI (a + 1 + 1) from nI_add (a + 1) 1]
      exact ih (a + 1) u (by omega) W1
  have g7 : ∀ d n u, n + d = 11 → snW w u m v (snR P n) → l_X9_findFitting_7 K (d + 1) 71 (nI (n + 2)) u := by
    intro d
    induction d with
    | zero =>
      intro n u hn W
      have : n = 11 := by omega
      subst this
      exact br_t (by decide) (hk u W)
    | succ d ih =>
      intro n u hn W
      refine br_f (nI_nlt (a := 12) (b := n + 2) (by omega) (by decide)) ⟨n + 2 + 1, g15 n (by omega) _ (fun u W1 => ?_) (n + 2) 0 u (by omega) W⟩
      show l_X9_findFitting_7 K (d + 1) 71 (nI (n + 2) + 1) u
      rw [show (nI (n + 2) + 1 : Int32) = nI (n + 1 + 2) from nI_add (n + 2) 1]
      exact ih (n + 1) u (by omega) W1
  refine ⟨S.2.2.2.1.1, 11 + 1, g7 11 0 _ rfl ⟨cx_uI (Or.inl rfl), rfl, ⟨?_, ?_, ?_⟩, ?_, fun j hj => absurd hj (Nat.not_lt_zero j)⟩⟩
  · rw [wI_uI, if_neg (by decide)]; exact n1.1
  · rw [wI_uI, if_neg (by decide)]; exact n1.2.1
  · rw [wI_uI, if_neg (by decide)]; exact n1.2.2
  · rw [wI_uI, if_pos rfl]; rfl
theorem q_awakeAmong {x : Nat × (Nat → Nat)} {k : Nat} {K : Int32 → Wd → Prop} (S : SH w) (h3 : wI w 71 3 = nI x.1) (hrow : ∀ j, j < x.1 → wI w 72 j = nI (x.2 j)) (hb : snB x) (hx : x.1 ≤ 649) (hk1 : k < 100) (hk : K (nI (snC x.2 k x.1)) w) : w_X9_awakeAmongFitting 71 (nI k) K w := by
  have go : ∀ d i, i + d = x.1 → l_X9_awakeAmongFitting_4 K (d + 1) 71 (nI k) (nI (snC x.2 k i)) (nI i) w := by
    intro d
    induction d with
    | zero =>
      intro i hi
      have : i = x.1 := by omega
      subst this
      refine ⟨S.2.2.2.1.1, ?_⟩
      rw [h3]
      exact br_t (nI_le (Nat.le_refl _) (by omega)) hk
    | succ d ih =>
      intro i hi
      have b := hb i (by omega)
      have z := ih (i + 1) (by omega)
      refine ⟨S.2.2.2.1.1, ?_⟩
      rw [h3, S.2.2.2.1.2.1, S.2.2.2.1.2.2.2, nI_clamp (by omega), hrow i (by omega)]
      refine br_f (nI_ge (by omega) (by omega)) ⟨S.2.2.2.1.2.2.1, br_f (nI_ge (b := 649) (by omega) (by decide)) ⟨vp_in_nI (by omega) (by decide), ?_⟩⟩
      rw [show (nI (x.2 i) / 10000 : Int32) = nI (x.2 i / 10000) from pk_div (by omega) (by decide) (by decide), show (nI (x.2 i) / 100 : Int32) = nI (x.2 i / 100) from pk_div (by omega) (by decide) (by decide), show x_irem (nI (x.2 i / 100)) 100 = nI (x.2 i / 100 % 100) from pk_rem (by omega) (by decide) (by decide), show x_irem (nI (x.2 i)) 100 = nI (x.2 i % 100) from pk_rem (by omega) (by decide) (by decide)]
      refine q_isAwakeAt (by omega) (by omega) (by omega) (by omega) hk1 ?_
      have e : snC x.2 k (i + 1) = snC x.2 k i + (if snA (x.2 i / 10000) (x.2 i / 100 % 100) (x.2 i % 100) k then 1 else 0) := rfl
      rw [e] at z
      rw [show (nI i + 1 : Int32) = nI (i + 1) from nI_add i 1, show (nI (snC x.2 k i) + 1 : Int32) = nI (snC x.2 k i + 1) from nI_add _ 1]
      cases q : snA (x.2 i / 10000) (x.2 i / 100 % 100) (x.2 i % 100) k
      · rw [q] at z
        exact br_t rfl z
      · rw [q] at z
        exact br_f (by decide) z
  exact ⟨x.1 + 1, go x.1 0 (by omega)⟩
theorem p_fitting {Z : Wd → Prop} {P : Nat → Nat → Nat → Bool} {i sv m : Nat} {b : Bool} {v : Nat → Int64} {a2 a3 : Int32} {K : Int32 → Wd → Prop} (hi : i < 4) (hZ : ∀ u z, Z u → Z (uI u 245 25 z)) (hS : ∀ u, Z u → SH u ∧ TRv u i b sv m v) (h2 : (a2 = -1 ∧ ∀ r a s, P r a s = snF v r a s m) ∨ ∃ k, k < 100 ∧ a2 = nI k ∧ ∀ r a s, P r a s = (snF v r a s m && snA r a s k)) (h : Z w) (hk : ∀ u, Z u → wI u 245 25 = snK (snR P 11) a3 → K (nI (snR P 11).1) u) : w_X12_fitting 245 (nI i) a2 a3 K w := by
  have g31 : ∀ n a, n < 11 → a < n + 2 → ∀ E : Nat → Int32 → Int32 → Int32 → Int32 → Int32 → Int32 → Wd → Prop, (∀ u, Z u → wI u 245 25 = snK (snU P (n + 2) (snR P n) (a + 1)) a3 → E 245 (nI i) a2 a3 (nI (snU P (n + 2) (snR P n) (a + 1)).1) (nI (n + 2)) (nI (a + 1)) u) → ∀ d s u, s + d = n + 2 → Z u → wI u 245 25 = snK (snS P (n + 2) (a + 1) (snU P (n + 2) (snR P n) a) s) a3 → l_X12_fitting_31 E K (d + 1) 245 (nI i) a2 a3 (nI (snS P (n + 2) (a + 1) (snU P (n + 2) (snR P n) a) s).1) (nI (n + 2)) (nI (a + 1)) (nI s) u := by
    intro n a hn ha E hE d
    induction d with
    | zero =>
      intro s u hs zu e
      have : s = n + 2 := by omega
      subst this
      exact br_t (nI_le (Nat.le_refl _) (by omega)) (hE u zu e)
    | succ d ih =>
      intro s u hs zu e
      obtain ⟨Su, tu⟩ := hS u zu
      have M := Su.2.2.2.2.2.2.2.2.2.2.1.1
      have room := sn_room P hn ha (s := s) (by omega)
      obtain ⟨x, hx⟩ : ∃ x, x = snS P (n + 2) (a + 1) (snU P (n + 2) (snR P n) a) s := ⟨_, rfl⟩
      have hx1 : snS P (n + 2) (a + 1) (snU P (n + 2) (snR P n) a) (s + 1) = snP (P (n + 2) (a + 1) s) (10000 * (n + 2) + 100 * (a + 1) + s) x := by rw [hx]; rfl
      rw [← hx] at room e
      have ih2 := fun u => ih (s + 1) u (by omega)
      rw [hx1] at ih2
      rw [← hx]
      have no : P (n + 2) (a + 1) s = false → l_X12_fitting_31 E K (d + 1) 245 (nI i) a2 a3 (nI x.1) (nI (n + 2)) (nI (a + 1)) (nI (s + 1)) u := fun q => by
        rw [q] at ih2
        exact ih2 u zu e
      have yes : P (n + 2) (a + 1) s = true → j_X12_fitting_73 (l_X12_fitting_31 E K (d + 1)) E K 245 (nI i) a2 a3 (nI x.1) (nI (n + 2)) (nI (a + 1)) (nI s) u := fun q => by
        rw [q] at ih2
        have kk := snK_P (x := x) (c := 10000 * (n + 2) + 100 * (a + 1) + s) (a := a3) (by omega)
        unfold j_X12_fitting_73
        rw [sn_code, show (nI s + 1 : Int32) = nI (s + 1) from nI_add s 1, show (nI x.1 + 1 : Int32) = nI (x.1 + 1) from nI_add x.1 1]
        by_cases c : nI x.1 = a3
        · exact br_t c ⟨M, ih2 _ (hZ u _ zu) (by rw [wI_uI, if_pos rfl, kk.1 c])⟩
        · exact br_f c (ih2 u zu (by rw [kk.2 c]; exact e))
      refine br_f (nI_ge (by omega) (by omega)) ⟨M, p_fitsSeen Su hi tu (by omega) (by omega) (by omega) (by omega) ?_⟩
      rw [show (nI s + 1 : Int32) = nI (s + 1) from nI_add s 1]
      cases q : snF v (n + 2) (a + 1) s m
      · refine br_t rfl (no ?_)
        rcases h2 with h2 | ⟨k, -, -, h2⟩
        · rw [h2.2, q]
        · rw [h2, q]; rfl
      · refine br_f (by decide) ?_
        rcases h2 with h2 | ⟨k, k1, k2, h2⟩
        · exact br_t h2.1 (yes (by rw [h2.2, q]))
        · refine br_f (fun z => ?_) ?_
          · have y := congrArg Int32.toInt z
            rw [k2, nI_toInt (by omega), show (-1 : Int32).toInt = -1 from by decide] at y
            omega
          · rw [k2]
            refine p_heardIn (by omega) (by omega) (by omega) (by omega) k1 ?_
            rw [k2] at no yes
            cases q2 : snA (n + 2) (a + 1) s k
            · exact br_t rfl (no (by rw [h2, q, q2]; rfl))
            · exact br_f (by decide) (yes (by rw [h2, q, q2]; rfl))
  have g21 : ∀ n, n < 11 → ∀ E : Nat → Int32 → Int32 → Int32 → Int32 → Int32 → Wd → Prop, (∀ u, Z u → wI u 245 25 = snK (snR P (n + 1)) a3 → E 245 (nI i) a2 a3 (nI (snR P (n + 1)).1) (nI (n + 2)) u) → ∀ d a u, a + d = n + 2 → Z u → wI u 245 25 = snK (snU P (n + 2) (snR P n) a) a3 → l_X12_fitting_21 E K (d + 1) 245 (nI i) a2 a3 (nI (snU P (n + 2) (snR P n) a).1) (nI (n + 2)) (nI (a + 1)) u := by
    intro n hn E hE d
    induction d with
    | zero =>
      intro a u ha zu e
      have : a = n + 2 := by omega
      subst this
      exact br_t (nI_lt (by omega) (by omega)) (hE u zu e)
    | succ d ih =>
      intro a u ha zu e
      refine br_f (nI_nlt (by omega) (by omega)) ⟨n + 2 + 1, g31 n a hn (by omega) _ (fun u zu1 e1 => ?_) (n + 2) 0 u (by omega) zu e⟩
      show l_X12_fitting_21 E K (d + 1) 245 (nI i) a2 a3 _ (nI (n + 2)) (nI (a + 1) + 1) u
      rw [show (nI (a + 1) + 1 : Int32) = nI (a + 1 + 1) from nI_add (a + 1) 1]
      exact ih (a + 1) u (by omega) zu1 e1
  have g11 : ∀ d n u, n + d = 11 → Z u → wI u 245 25 = snK (snR P n) a3 → l_X12_fitting_11 K (d + 1) 245 (nI i) a2 a3 (nI (snR P n).1) (nI (n + 2)) u := by
    intro d
    induction d with
    | zero =>
      intro n u hn zu e
      have : n = 11 := by omega
      subst this
      exact br_t (by decide) (hk u zu e)
    | succ d ih =>
      intro n u hn zu e
      refine br_f (nI_nlt (a := 12) (b := n + 2) (by omega) (by decide)) ⟨n + 2 + 1, g21 n (by omega) _ (fun u zu1 e1 => ?_) (n + 2) 0 u (by omega) zu e⟩
      show l_X12_fitting_11 K (d + 1) 245 (nI i) a2 a3 _ (nI (n + 2) + 1) u
      rw [show (nI (n + 2) + 1 : Int32) = nI (n + 1 + 2) from nI_add (n + 2) 1]
      exact ih (n + 1) u (by omega) zu1 e1
  refine ⟨(hS w h).1.2.2.2.2.2.2.2.2.2.2.1.1, 11 + 1, g11 11 0 _ rfl (hZ _ _ h) ?_⟩
  rw [wI_uI, if_pos rfl]
  unfold snK
  rw [if_neg (fun z => ?_)]
  have z2 : a3.toInt < ((0 : Nat) : Int) := z.2
  omega
end SF
