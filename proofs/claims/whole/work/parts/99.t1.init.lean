/-! 99.t1: what constructors make -/
def oS (w X : Wd) (r k0 i : Nat) (kd ln : Nat → Nat) (Z : Nat → Bool) (I : Nat → Int32) (Rf : Nat → Nat) : Prop := cx (fun _ => False) w X ∧ (wN w = r ∧ wN X = r + 1 + i ∧ 64 ≤ r) ∧ isK X r k0 ∧ wI X r = I ∧ wR X r = Rf ∧ ∀ j, j < i → isK X (r + 1 + j) (kd j) ∧ wn X (r + 1 + j) = ln j ∧ (Z j = true → wI X (r + 1 + j) = (fun _ => 0) ∧ wL X (r + 1 + j) = (fun _ => 0) ∧ wR X (r + 1 + j) = fun _ => 0)
section OB
variable {w X : Wd} {r k0 i : Nat} {kd ln : Nat → Nat} {Z : Nat → Bool} {I : Nat → Int32} {Rf : Nat → Nat} {K : Wd → Prop}
theorem o_0 (hN : wN w = r) (h64 : 64 ≤ r) : oS w (wA w k0 0) r k0 0 kd ln Z (fun _ => 0) (fun _ => 0) := by
  subst hN
  exact ⟨cx_wA w k0 0, ⟨rfl, rfl, h64⟩, wA_is0 h64, wA_I0, wA_R0, fun j hj => absurd hj (Nat.not_lt_zero j)⟩
theorem o_I {k : Nat} {v : Int32} (S : oS w X r k0 i kd ln Z I Rf) : oS w (uI X r k v) r k0 i kd ln Z (upd I k v) Rf := by
  obtain ⟨a1, a2, a3, a4, a5, a6⟩ := S
  refine ⟨cx_upN a1 (by omega), a2, a3, by rw [wI_uI_same, a4], a5, fun j hj => ?_⟩
  obtain ⟨b1, b2, b3⟩ := a6 j hj
  exact ⟨b1, b2, fun z => ⟨by rw [wI_uI_ne (by omega)]; exact (b3 z).1, (b3 z).2.1, (b3 z).2.2⟩⟩
theorem o_R {f v : Nat} (S : oS w X r k0 i kd ln Z I Rf) : oS w (uR X r f v) r k0 i kd ln Z I (va_up Rf f v) := by
  obtain ⟨a1, a2, a3, a4, a5, a6⟩ := S
  refine ⟨cx_nw a1 cx_uRh (fun q hq e => by omega), a2, a3, a4, by rw [wR_uR_same, a5], fun j hj => ?_⟩
  obtain ⟨b1, b2, b3⟩ := a6 j hj
  exact ⟨b1, b2, fun z => ⟨(b3 z).1, (b3 z).2.1, by rw [wR_uR_ne (by omega)]; exact (b3 z).2.2⟩⟩
theorem o_A {k n : Nat} (S : oS w X r k0 i kd ln Z I Rf) (hk : kd i = k) (hl : ln i = n) : oS w (wA X k n) r k0 (i + 1) kd ln Z I Rf := by
  obtain ⟨a1, a2, a3, a4, a5, a6⟩ := S
  have hx : r ≠ wN X := by omega
  refine ⟨cx_nw a1 (cx_wA (T := fun _ => False) X k n) (fun _ _ y => y.elim), ⟨a2.1, by show wN X + 1 = _; omega, a2.2.2⟩, wA_is a3, by rw [wA_I hx, a4], by rw [wA_R hx, a5], fun j hj => ?_⟩
  by_cases e : j = i
  · subst e
    have eN : r + 1 + j = wN X := by omega
    rw [eN, hk, hl]
    exact ⟨wA_is0 (by omega), wA_n0 (w := X) (kd := k), fun _ => ⟨wA_I0, wA_L0, wA_R0⟩⟩
  · obtain ⟨b1, b2, b3⟩ := a6 j (by omega)
    have hj2 : r + 1 + j ≠ wN X := by omega
    exact ⟨wA_is b1, by rw [wA_n hj2]; exact b2, fun z => ⟨by rw [wA_I hj2]; exact (b3 z).1, by rw [wA_L hj2]; exact (b3 z).2.1, by rw [wA_R hj2]; exact (b3 z).2.2⟩⟩
theorem o_U {j k : Nat} {v : Int32} (S : oS w X r k0 i kd ln Z I Rf) (hz : Z j = false) : oS w (uI X (r + 1 + j) k v) r k0 i kd ln Z I Rf := by
  obtain ⟨a1, a2, a3, a4, a5, a6⟩ := S
  refine ⟨cx_upN a1 (by omega), a2, a3, by rw [wI_uI_ne (by omega), a4], a5, fun j' hj => ?_⟩
  obtain ⟨b1, b2, b3⟩ := a6 j' hj
  refine ⟨b1, b2, fun z => ?_⟩
  have ne : j' ≠ j := fun e => by rw [e, hz] at z; exact Bool.noConfusion z
  exact ⟨by rw [wI_uI_ne (by omega)]; exact (b3 z).1, (b3 z).2.1, (b3 z).2.2⟩
theorem o_N (S : oS w X r k0 i kd ln Z I Rf) : wN X = r + 1 + i := S.2.1.2.1
theorem o_K (S : oS w X r k0 i kd ln Z I Rf) : isK X r k0 := S.2.2.1
theorem o_ne (S : oS w X r k0 i kd ln Z I Rf) : r + 1 + i ≠ 0 := by omega
theorem o_arr (S : oS w X r k0 i kd ln Z I Rf) {j : Nat} (hj : j < i) (hk : kd j = 20) (hz : Z j = true) : arr X (r + 1 + j) (ln j) (fun _ => 0) := by
  obtain ⟨b1, b2, b3⟩ := S.2.2.2.2.2 j hj
  rw [hk] at b1
  exact ⟨b1, b2, fun k _ => by rw [(b3 hz).1]; rfl⟩
theorem o_ar (S : oS w X r k0 i kd ln Z I Rf) {j : Nat} (hj : j < i) : isK X (r + 1 + j) (kd j) ∧ wn X (r + 1 + j) = ln j := ⟨(S.2.2.2.2.2 j hj).1, (S.2.2.2.2.2 j hj).2.1⟩
theorem o_R' (S : oS w X r k0 i kd ln Z I Rf) (f : Nat) : wR X r f = Rf f := by rw [S.2.2.2.2.1]
theorem o_I' (S : oS w X r k0 i kd ln Z I Rf) (f : Nat) : wI X r f = I f := by rw [S.2.2.2.1]
theorem vaN {f : Nat → Nat} {k v j : Nat} (h : j ≠ k) : va_up f k v j = f j := va_up_ne _ _ h
theorem vaS {f : Nat → Nat} {k v : Nat} : va_up f k v k = v := va_up_self _ _ _
end OB
def k20 (_ : Nat) : Nat := 20
def k21 (_ : Nat) : Nat := 21
def l10 (_ : Nat) : Nat := 10
def zT (_ : Nat) : Bool := true
/-- a land with nothing in it, over hills at h -/
def ZL (z : Wd) (r h : Nat) : Prop := isK z r 2 ∧ (wR z r 0 = h ∧ wR z r 3 = r + 1 ∧ wR z r 4 = r + 2) ∧ (wI z r 1 = 0 ∧ wI z r 2 = 0) ∧ arr z (r + 1) 10 (fun _ => 0) ∧ arr z (r + 2) 10 (fun _ => 0)
theorem ZL_cx {T : Nat → Prop} {z z' : Wd} {r h : Nat} (c : cx T z z') (hT : ∀ i, i ≤ 2 → ¬ T (r + i)) (L : ZL z r h) : ZL z' r h := by
  obtain ⟨a1, a2, a3, a4, a5⟩ := L
  have q := cx_at c a1 (hT 0 (by decide))
  exact ⟨cx_isK c a1, by rw [q.2.2]; exact a2, by rw [q.1]; exact a3, arr_cx c a4 (hT 1 (by decide)), arr_cx c a5 (hT 2 (by decide))⟩
section IN
variable {w : Wd} {r : Nat} {K : Wd → Prop}
theorem q_i2 {h : Nat} (hN : wN w = r) (h64 : 64 ≤ r) (hh : h ≠ 0) (hk : ∀ z, cx (fun _ => False) w z → wN z = r + 3 → ZL z r h → K z) : w_X2_init 2 20 r h K (wA w 2 0) := by
  have S0 : oS w (wA w 2 0) r 2 0 k20 l10 zT _ _ := o_0 hN h64
  have S1 := o_I (k := 2) (v := 0) (o_I (k := 1) (v := 0) S0)
  refine ⟨o_K S0, ⟨by decide, by decide⟩, fun r3 w4 e1 e2 => ?_⟩
  rw [o_N S1] at e1
  subst e1; subst e2
  have S2 := o_A (k := 20) (n := 10) S1 rfl rfl
  refine ⟨o_K S2, by omega, ⟨by decide, by decide⟩, fun r10 w11 e1 e2 => ?_⟩
  have S3 := o_R (f := 3) (v := r + 1 + 0) S2
  rw [o_N S3] at e1
  subst e1; subst e2
  have S4 := o_A (k := 20) (n := 10) S3 rfl rfl
  have S5 := o_R (f := 0) (v := h) (o_R (f := 4) (v := r + 1 + (0 + 1)) S4)
  refine ⟨o_K S4, by omega, hh, hk _ S5.1 (o_N S5) ⟨o_K S5, ⟨?_, ?_, ?_⟩, ⟨?_, ?_⟩, o_arr S5 (j := 0) (by decide) rfl rfl, o_arr S5 (j := 1) (by decide) rfl rfl⟩⟩
  · rw [o_R' S5, vaS]
  · rw [o_R' S5, vaN (by decide), vaN (by decide), vaS]
  · rw [o_R' S5, vaN (by decide), vaS]
  · rw [o_I' S5]; rfl
  · rw [o_I' S5]; rfl
theorem q_i8 (hN : wN w = 67) (hk : ∀ z, cx (fun _ => False) w z → wN z = 71 → RdS z → K z) : w_X8_init 3 378 67 K (wA w 8 0) := by
  have S0 : oS w (wA w 8 0) 67 8 0 k20 (fun j => if j = 0 then 360 else if j = 1 then 7 else 11) zT _ _ := o_0 hN (by decide)
  refine ⟨⟨by decide, by decide⟩, fun r2 w3 e1 e2 => ?_⟩
  rw [o_N S0] at e1
  subst e1; subst e2
  have S1 := o_A (k := 20) (n := 360) S0 rfl rfl
  refine ⟨o_K S1, by decide, ⟨by decide, by decide⟩, fun r9 w10 e1 e2 => ?_⟩
  have S2 := o_R (f := 0) (v := 67 + 1 + 0) S1
  rw [o_N S2] at e1
  subst e1; subst e2
  have S3 := o_A (k := 20) (n := 7) S2 rfl rfl
  refine ⟨o_K S3, by decide, ⟨by decide, by decide⟩, fun r16 w17 e1 e2 => ?_⟩
  have S4 := o_R (f := 1) (v := 67 + 1 + (0 + 1)) S3
  rw [o_N S4] at e1
  subst e1; subst e2
  have S5 := o_A (k := 20) (n := 11) S4 rfl rfl
  have S6 := o_I (k := 5) (v := 1) (o_I (k := 4) (v := 1) (o_I (k := 3) (v := 1) (o_R (f := 2) (v := 67 + 1 + (0 + 1 + 1)) S5)))
  refine ⟨o_K S5, by decide, hk _ S6.1 (o_N S6) ⟨o_K S6, ⟨?_, o_ar S6 (j := 0) (by decide)⟩, ⟨?_, o_ar S6 (j := 1) (by decide)⟩, ⟨?_, o_ar S6 (j := 2) (by decide)⟩⟩⟩
  · rw [o_R' S6, vaN (by decide), vaN (by decide), vaS]
  · rw [o_R' S6, vaN (by decide), vaS]
  · rw [o_R' S6, vaS]
theorem q_i9 (hN : wN w = 71) (hk : ∀ z, cx (fun _ => False) w z → wN z = 73 → SnS z → K z) : w_X9_init 1 649 71 K (wA w 9 0) := by
  have S0 : oS w (wA w 9 0) 71 9 0 k20 (fun _ => 649) zT _ _ := o_0 hN (by decide)
  have S1 := o_I (k := 3) (v := 0) (o_I (k := 2) (v := 0) (o_I (k := 1) (v := 0) (o_I (k := 0) (v := 0) S0)))
  refine ⟨o_K S0, ⟨by decide, by decide⟩, fun r3 w4 e1 e2 => ?_⟩
  rw [o_N S1] at e1
  subst e1; subst e2
  have S2 := o_A (k := 20) (n := 649) S1 rfl rfl
  have S3 := o_R (f := 4) (v := 71 + 1 + 0) S2
  refine ⟨o_K S2, by decide, hk _ S3.1 (o_N S3) ⟨o_K S3, ?_, o_ar S3 (j := 0) (by decide)⟩⟩
  rw [o_R' S3, vaS]
theorem q_i4 {l : Nat} (hN : wN w = 85) (hl : l ≠ 0) (hk : ∀ z, cx (fun _ => False) w z → wN z = 90 → NS z 85 → K z) : w_X4_init 4 92 85 l K (wA w 4 0) := by
  have S0 : oS w (wA w 4 0) 85 4 0 k20 (fun j => if j = 0 then 10 else if j = 1 then 10 else if j = 2 then 8 else 64) zT _ _ := o_0 hN (by decide)
  have S1 := o_I (k := 1) (v := 0) S0
  refine ⟨o_K S0, ⟨by decide, by decide⟩, fun r3 w4 e1 e2 => ?_⟩
  rw [o_N S1] at e1
  subst e1; subst e2
  have S2 := o_A (k := 20) (n := 10) S1 rfl rfl
  refine ⟨o_K S2, by decide, ⟨by decide, by decide⟩, fun r10 w11 e1 e2 => ?_⟩
  have S3 := o_R (f := 2) (v := 85 + 1 + 0) S2
  rw [o_N S3] at e1
  subst e1; subst e2
  have S4 := o_A (k := 20) (n := 10) S3 rfl rfl
  refine ⟨o_K S4, by decide, ⟨by decide, by decide⟩, fun r17 w18 e1 e2 => ?_⟩
  have S5 := o_R (f := 3) (v := 85 + 1 + (0 + 1)) S4
  rw [o_N S5] at e1
  subst e1; subst e2
  have S6 := o_A (k := 20) (n := 8) S5 rfl rfl
  refine ⟨o_K S6, by decide, ⟨by decide, by decide⟩, fun r24 w25 e1 e2 => ?_⟩
  have S7 := o_R (f := 4) (v := 85 + 1 + (0 + 1 + 1)) S6
  rw [o_N S7] at e1
  subst e1; subst e2
  have S8 := o_A (k := 20) (n := 64) S7 rfl rfl
  have S9 := o_R (f := 0) (v := l) (o_R (f := 5) (v := 85 + 1 + (0 + 1 + 1 + 1)) S8)
  refine ⟨o_K S8, by decide, hl, hk _ S9.1 (o_N S9) ⟨o_K S9, ⟨?_, o_ar S9 (j := 0) (by decide)⟩, ⟨?_, o_ar S9 (j := 1) (by decide)⟩, ⟨?_, o_ar S9 (j := 2) (by decide)⟩, ⟨?_, o_ar S9 (j := 3) (by decide)⟩⟩⟩
  · rw [o_R' S9, vaN (by decide), vaN (by decide), vaN (by decide), vaN (by decide), vaS]
  · rw [o_R' S9, vaN (by decide), vaN (by decide), vaN (by decide), vaS]
  · rw [o_R' S9, vaN (by decide), vaN (by decide), vaS]
  · rw [o_R' S9, vaN (by decide), vaS]
/-- a tray with nothing in it -/
def TZ (z : Wd) (r : Nat) : Prop := isK z r 10 ∧ (wR z r 3 = r + 1 ∧ isK z (r + 1) 21 ∧ wn z (r + 1) = 30) ∧ (wI z r 0 = 0 ∧ wI z r 1 = 0 ∧ wI z r 2 = 0) ∧ ∀ k, wL z (r + 1) k = 0
theorem TZ_cx {T : Nat → Prop} {z z' : Wd} (c : cx T z z') (hT : ∀ i, i ≤ 1 → ¬ T (r + i)) (L : TZ z r) : TZ z' r := by
  obtain ⟨a1, a2, a3, a4⟩ := L
  have q := cx_at c a1 (hT 0 (by decide))
  have q1 := cx_at c a2.2.1 (hT 1 (by decide))
  exact ⟨cx_isK c a1, ⟨by rw [q.2.2]; exact a2.1, cx_isK c a2.2.1, (cx_wn c a2.2.1).trans a2.2.2⟩, by rw [q.1]; exact a3, fun k => by rw [q1.2.1]; exact a4 k⟩
theorem q_i10 (hN : wN w = r) (h64 : 64 ≤ r) (hk : ∀ z, cx (fun _ => False) w z → wN z = r + 2 → TZ z r → K z) : w_X10_init 1 30 r K (wA w 10 0) := by
  have S0 : oS w (wA w 10 0) r 10 0 k21 (fun _ => 30) zT _ _ := o_0 hN h64
  have S1 := o_I (k := 2) (v := 0) (o_I (k := 1) (v := 0) (o_I (k := 0) (v := 0) S0))
  refine ⟨o_K S0, ⟨by decide, by decide⟩, fun r3 w4 e1 e2 => ?_⟩
  rw [o_N S1] at e1
  subst e1; subst e2
  have S2 := o_A (k := 21) (n := 30) S1 rfl rfl
  have S3 := o_R (f := 3) (v := r + 1 + 0) S2
  refine ⟨o_K S2, by omega, hk _ S3.1 (o_N S3) ⟨o_K S3, ⟨?_, o_ar S3 (j := 0) (by decide)⟩, ⟨?_, ?_, ?_⟩, fun k => ?_⟩⟩
  · rw [o_R' S3, vaS]
  · rw [o_I' S3]; rfl
  · rw [o_I' S3]; rfl
  · rw [o_I' S3]; rfl
  · have q := ((S3.2.2.2.2.2 0 (by decide)).2.2 rfl).2.1
    exact congrFun q k
theorem q_i7 {h : Nat} (hN : wN w = 238) (hh : h ≠ 0) (hk : ∀ z, cx (fun _ => False) w z → wN z = 241 → RrS z → wI z 238 0 = 0 ∧ wI z 238 1 = 0 ∧ wI z 238 2 = -1 → K z) : w_X7_init 2 1800 238 h K (wA w 7 0) := by
  have S0 : oS w (wA w 7 0) 238 7 0 (fun j => if j = 0 then 22 else 20) (fun _ => 900) zT _ _ := o_0 hN (by decide)
  have S1 := o_I (k := 2) (v := -1) (o_I (k := 1) (v := 0) (o_I (k := 0) (v := 0) S0))
  refine ⟨o_K S0, ⟨by decide, by decide⟩, fun r3 w4 e1 e2 => ?_⟩
  rw [o_N S1] at e1
  subst e1; subst e2
  have S2 := o_A (k := 22) (n := 900) S1 rfl rfl
  refine ⟨o_K S2, by decide, ⟨by decide, by decide⟩, fun r10 w11 e1 e2 => ?_⟩
  have S3 := o_I (k := 10) (v := 0) (o_I (k := 9) (v := 0) (o_I (k := 8) (v := 4) (o_I (k := 7) (v := 0) (o_I (k := 6) (v := 0) (o_I (k := 5) (v := 0) (o_R (f := 4) (v := 238 + 1 + 0) S2))))))
  rw [o_N S3] at e1
  subst e1; subst e2
  have S4 := o_A (k := 20) (n := 900) S3 rfl rfl
  have S5 := o_R (f := 3) (v := h) (o_I (k := 12) (v := 0) (o_R (f := 11) (v := 238 + 1 + (0 + 1)) S4))
  refine ⟨o_K S4, by decide, hh, hk _ S5.1 (o_N S5) ⟨o_K S5, ⟨?_, o_ar S5 (j := 0) (by decide)⟩, ?_, o_ar S5 (j := 1) (by decide)⟩ ⟨?_, ?_, ?_⟩⟩
  · rw [o_R' S5, vaN (by decide), vaN (by decide), vaS]
  · rw [o_R' S5, vaN (by decide), vaS]
  · rw [o_I' S5]; rfl
  · rw [o_I' S5]; rfl
  · rw [o_I' S5]; rfl
theorem q_i6 (hN : wN w = 242) (hk : ∀ z, cx (fun _ => False) w z → wN z = 245 → PlS z → K z) : w_X6_init 2 70 242 85 82 K (wA w 6 0) := by
  have S0 : oS w (wA w 6 0) 242 6 0 k21 (fun j => if j = 0 then 6 else 64) zT _ _ := o_0 hN (by decide)
  refine ⟨⟨by decide, by decide⟩, fun r2 w3 e1 e2 => ?_⟩
  rw [o_N S0] at e1
  subst e1; subst e2
  have S1 := o_A (k := 21) (n := 6) S0 rfl rfl
  refine ⟨o_K S1, by decide, ⟨by decide, by decide⟩, fun r9 w10 e1 e2 => ?_⟩
  have S2 := o_R (f := 2) (v := 242 + 1 + 0) S1
  rw [o_N S2] at e1
  subst e1; subst e2
  have S3 := o_A (k := 21) (n := 64) S2 rfl rfl
  have S4 := o_R (f := 1) (v := 82) (o_R (f := 0) (v := 85) (o_R (f := 3) (v := 242 + 1 + (0 + 1)) S3))
  refine ⟨o_K S3, by decide, by decide, by decide, hk _ S4.1 (o_N S4) ⟨o_K S4, ?_, ?_, ⟨?_, o_ar S4 (j := 0) (by decide)⟩, ?_, o_ar S4 (j := 1) (by decide)⟩⟩
  · rw [o_R' S4, vaN (by decide), vaS]
  · rw [o_R' S4, vaS]
  · rw [o_R' S4, vaN (by decide), vaN (by decide), vaN (by decide), vaS]
  · rw [o_R' S4, vaN (by decide), vaN (by decide), vaS]
end IN
