/-! 99.t3: both made, all is as it must be before the first call -/
def t3T (t : Nat) : Prop := t = 64 ∨ t = 65 ∨ t = 66
def g00 (_ : Nat) : Nat := 0
def st3 (z : Wd) (N : Nat) (R : Nat → Nat) : Prop := wN z = N ∧ isK z 64 11 ∧ wR z 64 = R ∧ (isK z 65 25 ∧ wn z 65 = 3) ∧ (isK z 66 26 ∧ wn z 66 = 4) ∧ wn z 1 = 0
def F00 (z : Wd) : Prop := RdS z ∧ SnS z ∧ (DR z 73 g00 ∧ LWs z 73 g00 ∧ wR z 73 4 = 1) ∧ ZL z 82 73 ∧ NS z 85 ∧ PZ z 90 73
section S3
variable {z z' : Wd} {N N' : Nat} {R : Nat → Nat} {T : Nat → Prop}
theorem st_cx (c : cx (fun _ => False) z z') (S : st3 z N R) (hN : wN z' = N') : st3 z' N' R := by
  obtain ⟨a1, a2, a3, a4, a5, a6⟩ := S
  exact ⟨hN, cx_isK c a2, by rw [(cx_at c a2 id).2.2]; exact a3, ⟨cx_isK c a4.1, (cx_wn c a4.1).trans a4.2⟩, ⟨cx_isK c a5.1, (cx_wn c a5.1).trans a5.2⟩, ((c.2 1 (by have := a2.2.1; omega)).2.1).trans a6⟩
theorem st_64 {f v : Nat} (S : st3 z N R) : st3 (uR z 64 f v) N (va_up R f v) := by
  obtain ⟨a1, a2, a3, a4, a5, a6⟩ := S
  exact ⟨a1, a2, by rw [wR_uR_same, a3], a4, a5, a6⟩
theorem st_q {q f v : Nat} (S : st3 z N R) (hq : q ≠ 64) : st3 (uR z q f v) N R := by
  obtain ⟨a1, a2, a3, a4, a5, a6⟩ := S
  exact ⟨a1, a2, by rw [wR_uR_ne (fun e => hq e.symm), a3], a4, a5, a6⟩
theorem RdS_cx (c : cx T z z') (h : ¬ T 67) (L : RdS z) : RdS z' := by
  have q := (cx_at c L.1 h).2.2
  exact ⟨cx_isK c L.1, arK_cx c q L.2.1, arK_cx c q L.2.2.1, arK_cx c q L.2.2.2⟩
theorem SnS_cx (c : cx T z z') (h : ¬ T 71) (L : SnS z) : SnS z' := by
  have q := (cx_at c L.1 h).2.2
  exact ⟨cx_isK c L.1, arK_cx c q L.2⟩
theorem F0_cx (c : cx T z z') (hT : ∀ t, T t → t3T t) (L : F00 z) : F00 z' := by
  obtain ⟨a1, a2, ⟨a3, a4, a5⟩, a6, a7, a8⟩ := L
  have nt : ∀ t, 67 ≤ t → ¬ T t := fun t h y => by have := hT t y; unfold t3T at this; omega
  have n1 : wn z' 1 = wn z 1 := (c.2 1 (by have := a1.1.2.1; omega)).2.1
  refine ⟨RdS_cx c (nt 67 (by omega)) a1, SnS_cx c (nt 71 (by omega)) a2, ⟨DR_cx c (fun i _ => nt _ (by omega)) a3, LWs_cx c a3.1 ⟨nt 73 (by omega), ?_⟩ n1 a4, by rw [(cx_at c a3.1 (nt 73 (by omega))).2.2]; exact a5⟩, ZL_cx c (fun i _ => nt _ (by omega)) a6, NS_cx c (nt 85 (by omega)) a7, PZ_cx c (fun i _ => nt _ (by omega)) a8⟩
  rw [a5]
  intro y
  have := hT 1 y
  unfold t3T at this
  omega
def Ra : Nat → Nat := va_up (va_up (va_up (va_up (va_up (fun _ => 0) 1 65) 2 66) 7 67) 9 71) 0 90
def sPg (z : Wd) (i : Nat) : Prop := st3 z (125 + 35 * i) Ra ∧ F00 z ∧ ∀ j, j < i → wR z 65 j = 125 + 35 * j ∧ PZ z (125 + 35 * j) 73
def sTy (z : Wd) (i : Nat) : Prop := st3 z (230 + 2 * i) Ra ∧ F00 z ∧ (∀ j, j < 3 → wR z 65 j = 125 + 35 * j ∧ PZ z (125 + 35 * j) 73) ∧ ∀ j, j < i → wR z 66 j = 230 + 2 * j ∧ TZ z (230 + 2 * j)
def Rz : Nat → Nat := va_up (va_up (va_up (va_up (va_up Ra 3 82) 4 238) 5 85) 6 241) 8 242
def FIN (z : Wd) : Prop := st3 z 245 Rz ∧ F00 z ∧ (∀ j, j < 3 → wR z 65 j = 125 + 35 * j ∧ PZ z (125 + 35 * j) 73) ∧ (∀ j, j < 4 → wR z 66 j = 230 + 2 * j ∧ TZ z (230 + 2 * j)) ∧ (RrS z ∧ wI z 238 0 = 0 ∧ wI z 238 1 = 0 ∧ wI z 238 2 = -1) ∧ (isK z 241 0 ∧ wR z 241 0 = 85) ∧ PlS z
theorem q_i11 {w : Wd} {K : Wd → Prop} (hN : wN w = 65) (k64 : isK w 64 11) (r64 : wR w 64 = fun _ => 0) (w1 : wn w 1 = 0) (hk : ∀ z, FIN z → K z) : w_X11_init 200 5000 64 K w := by
  refine ⟨⟨by decide, by decide⟩, fun r2 w3 e1 e2 => ?_⟩
  rw [hN] at e1
  subst e1; subst e2
  have k65 : isK (wA w 25 3) 64 11 := wA_is k64
  have k66 : isK (wA (uR (wA w 25 3) 64 1 65) 26 4) 64 11 := wA_is (w := uR (wA w 25 3) 64 1 65) k65
  have n65 : wN (wA w 25 3) = 66 := by show wN w + 1 = 66; omega
  have a65 : isK (wA w 25 3) 65 25 ∧ wn (wA w 25 3) 65 = 3 := by
    rw [← hN]
    exact ⟨wA_is0 (by omega), wA_n0 (w := w) (kd := 25)⟩
  refine ⟨k65, by decide, ⟨by decide, by decide⟩, fun r9 w10 e1 e2 => ?_⟩
  have e1' : r9 = 66 := e1.trans n65
  subst e1'; subst e2
  have S1 : st3 (uR (wA (uR (wA w 25 3) 64 1 65) 26 4) 64 2 66) 67 (va_up (va_up (fun _ => 0) 1 65) 2 66) := by
    have c1 : cx (fun _ => False) (uR (wA w 25 3) 64 1 65) (wA (uR (wA w 25 3) 64 1 65) 26 4) := cx_wA _ 26 4
    have m65 : wN (uR (wA w 25 3) 64 1 65) = 66 := n65
    refine st_64 ⟨?_, k66, ?_, ⟨wA_is (w := uR (wA w 25 3) 64 1 65) a65.1, ?_⟩, ⟨?_, ?_⟩, ?_⟩
    · show wN (wA w 25 3) + 1 = 67
      omega
    · rw [wA_R (by rw [m65]; decide), wR_uR_same, wA_R (by rw [hN]; decide), r64]
    · rw [wA_n (by rw [m65]; decide)]; exact a65.2
    · have q := wA_is0 (w := uR (wA w 25 3) 64 1 65) (kd := 26) (ln := 4) (by rw [m65]; decide)
      rw [m65] at q
      exact q
    · have q := wA_n0 (w := uR (wA w 25 3) 64 1 65) (kd := 26) (ln := 4)
      rw [m65] at q
      exact q
    · rw [wA_n (by rw [m65]; decide)]
      show wn (wA w 25 3) 1 = 0
      rw [wA_n (by rw [hN]; decide)]; exact w1
  refine ⟨k66, by decide, ⟨by decide, by decide⟩, fun r16 w17 e1 e2 => ⟨⟨by decide, by decide⟩, ?_⟩⟩
  rw [S1.1] at e1
  subst e1; subst e2
  refine q_i8 S1.1 (fun z1 c1 n1 f1 => ?_)
  have T1 := st_cx c1 S1 n1
  have U1 := st_64 (f := 7) (v := 67) T1
  have f1 := RdS_cx (T := fun q => q = 64) cx_uRh (by decide) f1 (z' := uR z1 64 7 67)
  refine ⟨T1.2.1, by decide, ⟨by decide, by decide⟩, fun r25 w26 e1 e2 => ⟨⟨by decide, by decide⟩, ?_⟩⟩
  rw [U1.1] at e1
  subst e1; subst e2
  refine q_i9 U1.1 (fun z2 c2 n2 f2 => ?_)
  have T2 := st_cx c2 U1 n2
  have U2 := st_64 (f := 9) (v := 71) T2
  have f1 := RdS_cx (T := fun q => q = 64) cx_uRh (by decide) (RdS_cx c2 id f1) (z' := uR z2 64 9 71)
  have f2 := SnS_cx (T := fun q => q = 64) cx_uRh (by decide) f2 (z' := uR z2 64 9 71)
  refine ⟨T2.2.1, by decide, ⟨by decide, by decide⟩, fun r34 w35 e1 e2 => ⟨⟨by decide, by decide⟩, ?_⟩⟩
  rw [U2.1] at e1
  subst e1; subst e2
  refine q_hinit U2.1 (by decide) (fun X H => ?_)
  have T3 := st_cx H.1 U2 H.2.1
  obtain ⟨f3, f4⟩ := hi_DR H T3.2.2.2.2.2
  have f5 := H.2.2.2.2.1
  have f1 := RdS_cx H.1 id f1
  have f2 := SnS_cx H.1 id f2
  refine ⟨⟨by decide, by decide⟩, fun r41 w42 e1 e2 => ⟨⟨by decide, by decide⟩, ?_⟩⟩
  have e1' : r41 = 82 := e1.trans T3.1
  subst e1'; subst e2
  refine q_i2 (r := 82) T3.1 (by decide) (by decide) (fun z3 c3 n3 f6 => ?_)
  have T4 := st_cx c3 T3 n3
  have tr : ∀ {z z' : Wd}, cx (fun _ => False) z z' → wn z' 1 = wn z 1 → DR z 73 g00 → LWs z 73 g00 → wR z 73 4 = 1 → DR z' 73 g00 ∧ LWs z' 73 g00 ∧ wR z' 73 4 = 1 := fun c n d l r => ⟨DR_cx c (fun _ _ => id) d, LWs_cx c d.1 ⟨id, id⟩ n l, by rw [(cx_at c d.1 id).2.2]; exact r⟩
  obtain ⟨f3, f4, f5⟩ := tr c3 (T4.2.2.2.2.2.trans T3.2.2.2.2.2.symm) f3 f4 f5
  have f1 := RdS_cx c3 id f1
  have f2 := SnS_cx c3 id f2
  refine ⟨⟨by decide, by decide⟩, fun r48 w49 e1 e2 => ⟨⟨by decide, by decide⟩, ?_⟩⟩
  have e1' : r48 = 85 := e1.trans T4.1
  subst e1'; subst e2
  refine q_i4 (l := 82) T4.1 (by decide) (fun z4 c4 n4 f7 => ?_)
  have T5 := st_cx c4 T4 n4
  obtain ⟨f3, f4, f5⟩ := tr c4 (T5.2.2.2.2.2.trans T4.2.2.2.2.2.symm) f3 f4 f5
  have f1 := RdS_cx c4 id f1
  have f2 := SnS_cx c4 id f2
  have f6 := ZL_cx c4 (fun _ _ => id) f6
  refine ⟨⟨by decide, by decide⟩, fun r55 w56 e1 e2 => ⟨34, 285, ⟨by decide, by decide⟩, ?_⟩⟩
  have e1' : r55 = 90 := e1.trans T5.1
  subst e1'; subst e2
  refine q_i5 (p := 90) T5.1 (by decide) (by decide) (fun z5 c5 n5 f8 => ?_)
  have T6 := st_cx c5 T5 n5
  obtain ⟨f3, f4, f5⟩ := tr c5 (T6.2.2.2.2.2.trans T5.2.2.2.2.2.symm) f3 f4 f5
  have F6 : F00 z5 := ⟨RdS_cx c5 id f1, SnS_cx c5 id f2, ⟨f3, f4, f5⟩, ZL_cx c5 (fun _ _ => id) f6, NS_cx c5 id f7, f8⟩
  have A0 : sPg (uR z5 64 0 90) 0 := ⟨st_64 (f := 0) (v := 90) T6, F0_cx (T := fun q => q = 64) cx_uRh (fun t y => Or.inl y) F6, fun j hj => absurd hj (Nat.not_lt_zero j)⟩
  -- the pages
  have pg : ∀ E : Nat → Nat → Nat → Nat → Nat → Nat → Wd → Prop, (∀ z, sPg z 3 → E 64 73 82 85 165 2413 z) → ∀ d i z, i + d = 3 → sPg z i → l_X11_init_83 200 5000 E K (d + 1) 64 73 82 85 (nI i) (60 + 35 * i) (1543 + 290 * i) z := by
    intro E hE d
    induction d with
    | zero =>
      intro i z hi A
      have : i = 3 := by omega
      subst this
      have r1 : wR z 64 1 = 65 := (congrFun A.1.2.2.1 1).trans rfl
      unfold l_X11_init_83
      rw [r1, A.1.2.2.2.1.2]
      exact ⟨A.1.2.1, A.1.2.2.2.1.1, br_t (by decide) (hE z A)⟩
    | succ d ih =>
      intro i z hi A
      have r1 : wR z 64 1 = 65 := (congrFun A.1.2.2.1 1).trans rfl
      unfold l_X11_init_83
      rw [r1, A.1.2.2.2.1.2]
      refine ⟨A.1.2.1, A.1.2.2.2.1.1, br_f (nI_ge (b := 3) (by omega) (by decide)) ⟨⟨by omega, by omega⟩, fun r69 w70 e1 e2 => ⟨34, 285, ⟨by omega, by omega⟩, ?_⟩⟩⟩
      rw [A.1.1] at e1
      subst e1; subst e2
      refine q_i5 A.1.1 (by omega) (by decide) (fun z' c n f => ?_)
      have T' := st_cx c A.1 n
      rw [nI_clamp (by omega), T'.2.2.2.1.2, show (nI i + 1 : Int32) = nI (i + 1) from nI_add i 1, show 60 + 35 * i + 1 + 34 = 60 + 35 * (i + 1) by omega, show 1543 + 290 * i + 5 + 285 = 1543 + 290 * (i + 1) by omega]
      refine ⟨T'.2.2.2.1.1, f.1.1, vp_in_nI (by omega) (by decide), ih (i + 1) _ (by omega) ⟨?_, F0_cx (T := fun q => q = 65) cx_uRh (fun t y => Or.inr (Or.inl y)) (F0_cx c (fun t y => y.elim) A.2.1), fun j hj => ?_⟩⟩
      · have q := st_q (q := 65) (f := i) (v := 125 + 35 * i) T' (by decide)
        rw [show 125 + 35 * (i + 1) = 125 + 35 * i + 35 by omega]
        exact q
      · rw [vaR]
        have cc : cx (fun q => q = 65) z' (uR z' 65 i (125 + 35 * i)) := cx_uRh
        by_cases e : j = i
        · subst e
          rw [if_pos rfl]
          exact ⟨rfl, PZ_cx cc (fun k _ => by omega) f⟩
        · rw [if_neg e, (cx_at c A.1.2.2.2.1.1 id).2.2]
          obtain ⟨b1, b2⟩ := A.2.2 j (by omega)
          exact ⟨b1, PZ_cx cc (fun k _ => by omega) (PZ_cx c (fun _ _ => id) b2)⟩
  refine ⟨T6.2.1, by decide, 4, pg _ (fun z A => ⟨5, ?_⟩) 3 0 _ rfl A0⟩
  -- the trays
  have ty : ∀ E : Nat → Nat → Nat → Nat → Nat → Nat → Wd → Prop, (∀ z, sTy z 4 → E 64 73 82 85 173 2549 z) → ∀ d i z, i + d = 4 → sTy z i → l_X11_init_117 200 5000 E K (d + 1) 64 73 82 85 (nI i) (165 + 2 * i) (2413 + 34 * i) z := by
    intro E hE d
    induction d with
    | zero =>
      intro i z hi A
      have : i = 4 := by omega
      subst this
      have r1 : wR z 64 2 = 66 := (congrFun A.1.2.2.1 2).trans rfl
      unfold l_X11_init_117
      rw [r1, A.1.2.2.2.2.1.2]
      exact ⟨A.1.2.1, A.1.2.2.2.2.1.1, br_t (by decide) (hE z A)⟩
    | succ d ih =>
      intro i z hi A
      have r1 : wR z 64 2 = 66 := (congrFun A.1.2.2.1 2).trans rfl
      unfold l_X11_init_117
      rw [r1, A.1.2.2.2.2.1.2]
      refine ⟨A.1.2.1, A.1.2.2.2.2.1.1, br_f (nI_ge (b := 4) (by omega) (by decide)) ⟨⟨by omega, by omega⟩, fun r92 w93 e1 e2 => ⟨⟨by omega, by omega⟩, ?_⟩⟩⟩
      rw [A.1.1] at e1
      subst e1; subst e2
      refine q_i10 A.1.1 (by omega) (fun z' c n f => ?_)
      have T' := st_cx c A.1 n
      rw [nI_clamp (by omega), T'.2.2.2.2.1.2, show (nI i + 1 : Int32) = nI (i + 1) from nI_add i 1, show 165 + 2 * i + 1 + 1 = 165 + 2 * (i + 1) by omega, show 2413 + 34 * i + 4 + 30 = 2413 + 34 * (i + 1) by omega]
      have cc : cx (fun q => q = 66) z' (uR z' 66 i (230 + 2 * i)) := cx_uRh
      refine ⟨T'.2.2.2.2.1.1, f.1, vp_in_nI (by omega) (by decide), ih (i + 1) _ (by omega) ⟨?_, F0_cx cc (fun t y => Or.inr (Or.inr y)) (F0_cx c (fun t y => y.elim) A.2.1), fun j hj => ?_, fun j hj => ?_⟩⟩
      · have q := st_q (q := 66) (f := i) (v := 230 + 2 * i) T' (by decide)
        rw [show 230 + 2 * (i + 1) = 230 + 2 * i + 2 by omega]
        exact q
      · rw [wR_uR_ne (by decide), (cx_at c A.1.2.2.2.1.1 id).2.2]
        obtain ⟨b1, b2⟩ := A.2.2.1 j hj
        exact ⟨b1, PZ_cx cc (fun k _ => by omega) (PZ_cx c (fun _ _ => id) b2)⟩
      · rw [vaR]
        by_cases e : j = i
        · subst e
          rw [if_pos rfl]
          exact ⟨rfl, TZ_cx cc (fun k _ => by omega) f⟩
        · rw [if_neg e, (cx_at c A.1.2.2.2.2.1.1 id).2.2]
          obtain ⟨b1, b2⟩ := A.2.2.2 j (by omega)
          exact ⟨b1, TZ_cx cc (fun k _ => by omega) (TZ_cx c (fun _ _ => id) b2)⟩
  refine ty _ (fun z B => ?_) 4 0 z rfl ⟨A.1, A.2.1, A.2.2, fun j hj => absurd hj (Nat.not_lt_zero j)⟩
  -- the rest
  have pgs : ∀ {z z' : Wd} {T : Nat → Prop}, cx T z z' → (∀ t, T t → t = 64 ∨ 238 ≤ t) → isK z 65 25 → (∀ j, j < 3 → wR z 65 j = 125 + 35 * j ∧ PZ z (125 + 35 * j) 73) → ∀ j, j < 3 → wR z' 65 j = 125 + 35 * j ∧ PZ z' (125 + 35 * j) 73 := fun c hT k h j hj => by
    obtain ⟨b1, b2⟩ := h j hj
    exact ⟨by rw [(cx_at c k (fun y => by have := hT 65 y; omega)).2.2]; exact b1, PZ_cx c (fun i hi y => by have := hT _ y; omega) b2⟩
  have trs : ∀ {z z' : Wd} {T : Nat → Prop}, cx T z z' → (∀ t, T t → t = 64 ∨ 238 ≤ t) → isK z 66 26 → (∀ j, j < 4 → wR z 66 j = 230 + 2 * j ∧ TZ z (230 + 2 * j)) → ∀ j, j < 4 → wR z' 66 j = 230 + 2 * j ∧ TZ z' (230 + 2 * j) := fun c hT k h j hj => by
    obtain ⟨b1, b2⟩ := h j hj
    exact ⟨by rw [(cx_at c k (fun y => by have := hT 66 y; omega)).2.2]; exact b1, TZ_cx c (fun i hi y => by have := hT _ y; omega) b2⟩
  have c64 : ∀ {z : Wd} {f v : Nat}, cx (fun q => q = 64) z (uR z 64 f v) := cx_uRh
  have h64 : ∀ t, t = 64 → t = 64 ∨ 238 ≤ t := fun t y => Or.inl y
  have h64' : ∀ t, t = 64 → t3T t := fun t y => Or.inl y
  have hF : ∀ t, False → t = 64 ∨ 238 ≤ t := fun t y => y.elim
  have hF' : ∀ t, False → t3T t := fun t y => y.elim
  have V1 := st_64 (f := 3) (v := 82) B.1
  have P1 := pgs (c64 (f := 3) (v := 82)) h64 B.1.2.2.2.1.1 B.2.2.1
  have Q1 := trs (c64 (f := 3) (v := 82)) h64 B.1.2.2.2.2.1.1 B.2.2.2
  have G1 := F0_cx (c64 (f := 3) (v := 82)) h64' B.2.1
  refine ⟨B.1.2.1, by decide, ⟨by decide, by decide⟩, fun r112 w113 e1 e2 => ⟨⟨by decide, by decide⟩, ?_⟩⟩
  have e1' : r112 = 238 := e1.trans V1.1
  subst e1'; subst e2
  refine q_i7 V1.1 (by decide) (fun z7 c7 n7 rr i7 => ?_)
  have V2 := st_cx c7 V1 n7
  have V3 := st_64 (f := 5) (v := 85) (st_64 (f := 4) (v := 238) V2)
  have c7' : cx (fun q => q = 64) z7 (uR (uR z7 64 4 238) 64 5 85) := cx_trans c64 c64
  have P2 := pgs c7' h64 V2.2.2.2.1.1 (pgs c7 hF V1.2.2.2.1.1 P1)
  have Q2 := trs c7' h64 V2.2.2.2.2.1.1 (trs c7 hF V1.2.2.2.2.1.1 Q1)
  have G2 := F0_cx c7' h64' (F0_cx c7 hF' G1)
  have rr2 : RrS (uR (uR z7 64 4 238) 64 5 85) := RrS_cx c7' (by rw [wR_uR_ne (by decide), wR_uR_ne (by decide)]) rr
  have i72 : wI (uR (uR z7 64 4 238) 64 5 85) 238 = wI z7 238 := rfl
  refine ⟨V2.2.1, by decide, by decide, ⟨by decide, by decide⟩, fun r122 w123 e1 e2 => ⟨⟨by decide, by decide⟩, ?_⟩⟩
  have e1' : r122 = 241 := e1.trans V3.1
  subst e1'; subst e2
  obtain ⟨y3, hy3⟩ : ∃ y3, y3 = uR (uR z7 64 4 238) 64 5 85 := ⟨_, rfl⟩
  rw [← hy3] at V3 P2 Q2 G2 rr2 i72 ⊢
  have k241 : isK (wA y3 0 0) 241 0 := by
    have q := wA_is0 (w := y3) (kd := 0) (ln := 0) (by rw [V3.1]; decide)
    rw [V3.1] at q
    exact q
  refine ⟨k241, by decide, ?_⟩
  have c8 : cx (fun _ => False) y3 (uR (wA y3 0 0) 241 0 85) := cx_nw (cx_wA y3 0 0) cx_uRh (fun q hq e => by rw [V3.1] at hq; omega)
  have n8 : wN (uR (wA y3 0 0) 241 0 85) = 242 := by show wN y3 + 1 = 242; rw [V3.1]
  have r8 : wR (uR (wA y3 0 0) 241 0 85) 241 0 = 85 := by rw [vaR, if_pos rfl]
  have k8 : isK (uR (wA y3 0 0) 241 0 85) 241 0 := k241
  obtain ⟨y4, hy4⟩ : ∃ y4, y4 = uR (wA y3 0 0) 241 0 85 := ⟨_, rfl⟩
  rw [← hy4] at c8 n8 r8 k8 ⊢
  have V4 := st_cx c8 V3 n8
  have V5 := st_64 (f := 6) (v := 241) V4
  have c9 : cx (fun q => q = 64) y3 (uR y4 64 6 241) := cx_trans (cx_mono (fun _ y => y.elim) c8) c64
  have P3 := pgs c9 h64 V3.2.2.2.1.1 P2
  have Q3 := trs c9 h64 V3.2.2.2.2.1.1 Q2
  have G3 := F0_cx c9 h64' G2
  have x238 := cx_at c9 rr2.1 (by decide)
  have rr3 : RrS (uR y4 64 6 241) := RrS_cx c9 x238.2.2 rr2
  have d3 : isK (uR y4 64 6 241) 241 0 ∧ wR (uR y4 64 6 241) 241 0 = 85 := ⟨k8, by rw [wR_uR_ne (by decide)]; exact r8⟩
  refine ⟨V4.2.1, by decide, ⟨by decide, by decide⟩, fun r131 w132 e1 e2 => ⟨⟨by decide, by decide⟩, ?_⟩⟩
  have e1' : r131 = 242 := e1.trans V5.1
  subst e1'; subst e2
  obtain ⟨y5, hy5⟩ : ∃ y5, y5 = uR y4 64 6 241 := ⟨_, rfl⟩
  rw [← hy5] at V5 P3 Q3 G3 rr3 d3 x238 ⊢
  refine q_i6 V5.1 (fun z9 c9 n9 pl => ?_)
  have V6 := st_cx c9 V5 n9
  have cE : cx (fun q => q = 64) y5 (uR z9 64 8 242) := cx_trans (cx_mono (fun _ y => y.elim) c9) c64
  have e238 := cx_at cE rr3.1 (by decide)
  have e241 := cx_at cE d3.1 (by decide)
  refine ⟨V6.2.1, by decide, hk _ ⟨st_64 (f := 8) (v := 242) V6, F0_cx cE h64' G3, pgs cE h64 V5.2.2.2.1.1 P3, trs cE h64 V5.2.2.2.2.1.1 Q3, ⟨RrS_cx cE e238.2.2 rr3, ?_⟩, ⟨cx_isK cE d3.1, by rw [e241.2.2]; exact d3.2⟩, ?_⟩⟩
  · rw [e238.1, x238.1, i72]; exact i7
  · obtain ⟨p1, p2, p3, p4, p5, p6⟩ := pl
    have q := wR_uR_ne (w := z9) (r := 64) (q := 242) (k := 8) (v := 242) (by decide)
    exact ⟨p1, by rw [q]; exact p2, by rw [q]; exact p3, ⟨by rw [q]; exact p4.1, p4.2⟩, by rw [q]; exact p5, p6⟩
end S3
