/-! 99.t2: a page, and the reference, as they begin -/
def PZ (z : Wd) (p h : Nat) : Prop := PS z p ∧ (wI z p 1 = 0 ∧ wI z p 2 = 0 ∧ wI z p 3 = 0) ∧ ZL z (p + 2) h ∧ ∀ s, s < 10 → ZL z (p + 5 + 3 * s) h
theorem PZ_cx {T : Nat → Prop} {z z' : Wd} {p h : Nat} (c : cx T z z') (hT : ∀ i, i ≤ 34 → ¬ T (p + i)) (L : PZ z p h) : PZ z' p h := by
  obtain ⟨⟨a1, a2, a3, a4, a5, a6⟩, b, l, ls⟩ := L
  have q := cx_at c a1 (hT 0 (by decide))
  have q1 := cx_at c a4 (hT 1 (by decide))
  refine ⟨⟨cx_isK c a1, by rw [q.2.2]; exact a2, by rw [q.2.2]; exact a3, cx_isK c a4, (cx_wn c a4).trans a5, fun i hi => by rw [q1.2.2]; exact a6 i hi⟩, by rw [q.1]; exact b, ZL_cx c (fun i hi => ?_) l, fun s hs => ZL_cx c (fun i hi => ?_) (ls s hs)⟩
  · rw [show p + 2 + i = p + (2 + i) by omega]; exact hT (2 + i) (by omega)
  · rw [show p + 5 + 3 * s + i = p + (5 + 3 * s + i) by omega]; exact hT (5 + 3 * s + i) (by omega)
section I5
variable {w : Wd} {p h : Nat} {K : Wd → Prop}
def pgI (w z : Wd) (p h i : Nat) : Prop := cx (fun _ => False) w z ∧ wN z = p + 5 + 3 * i ∧ isK z p 5 ∧ (wI z p 1 = 0 ∧ wI z p 2 = 0 ∧ wI z p 3 = 0) ∧ (wR z p 0 = p + 2 ∧ wR z p 4 = p + 1) ∧ (isK z (p + 1) 24 ∧ wn z (p + 1) = 10 ∧ ∀ j, j < i → wR z (p + 1) j = p + 5 + 3 * j) ∧ ZL z (p + 2) h ∧ ∀ j, j < i → ZL z (p + 5 + 3 * j) h
theorem q_i5 (hN : wN w = p) (h64 : 64 ≤ p) (hh : h ≠ 0) (hk : ∀ z, cx (fun _ => False) w z → wN z = p + 35 → PZ z p h → K z) : w_X5_init 34 285 p h K (wA w 5 0) := by
  have go : ∀ d i z, i + d = 10 → pgI w z p h i → l_X5_init_42 34 285 K (d + 1) p h (nI i) (4 + 3 * i) (35 + 25 * i) z := by
    intro d
    induction d with
    | zero =>
      intro i z hi P
      have : i = 10 := by omega
      subst this
      obtain ⟨a1, a2, a3, a4, a5, a6, a7, a8⟩ := P
      unfold l_X5_init_42
      rw [a5.2, a6.2.1]
      exact ⟨a3, a6.1, br_t (by decide) (hk z a1 a2 ⟨⟨a3, a5.1, a5.2, a6.1, a6.2.1, a6.2.2⟩, a4, a7, a8⟩)⟩
    | succ d ih =>
      intro i z hi P
      obtain ⟨a1, a2, a3, a4, a5, a6, a7, a8⟩ := P
      unfold l_X5_init_42
      rw [a5.2, a6.2.1]
      refine ⟨a3, a6.1, br_f (nI_ge (b := 10) (by omega) (by decide)) ⟨⟨by omega, by omega⟩, fun r22 w23 e1 e2 => ⟨⟨by omega, by omega⟩, ?_⟩⟩⟩
      rw [a2] at e1
      subst e1; subst e2
      refine q_i2 a2 (by omega) hh (fun z2 c2 n2 L2 => ?_)
      have k1 : isK z2 (p + 1) 24 := cx_isK c2 a6.1
      have c3 : cx (fun q => q = p + 1) z (uR z2 (p + 1) i (p + 5 + 3 * i)) := cx_trans (cx_mono (fun _ y => y.elim) c2) cx_uRh
      rw [nI_clamp (by omega), (cx_wn c2 a6.1).trans a6.2.1, show (nI i + 1 : Int32) = nI (i + 1) from nI_add i 1, show 4 + 3 * i + 1 + 2 = 4 + 3 * (i + 1) by omega, show 35 + 25 * i + 5 + 20 = 35 + 25 * (i + 1) by omega]
      refine ⟨k1, L2.1, vp_in_nI (by omega) (by decide), ih (i + 1) _ (by omega) ?_⟩
      have qp := cx_at c3 a3 (by omega)
      refine ⟨cx_nw a1 c3 (fun q hq e => by omega), ?_, cx_isK c3 a3, by rw [qp.1]; exact a4, by rw [qp.2.2]; exact a5, ⟨k1, (cx_wn c2 a6.1).trans a6.2.1, fun j hj => ?_⟩, ZL_cx c3 (fun j _ => by omega) a7, fun j hj => ?_⟩
      · show wN z2 = p + 5 + 3 * (i + 1)
        omega
      · rw [vaR]
        by_cases e : j = i
        · rw [if_pos e, e]
        · rw [if_neg e, (cx_at c2 a6.1 id).2.2]; exact a6.2.2 j (by omega)
      · by_cases e : j = i
        · subst e
          exact ZL_cx (T := fun q => q = p + 1) cx_uRh (fun k _ => by omega) L2
        · exact ZL_cx c3 (fun k _ => by omega) (a8 j (by omega))
  have S0 : oS w (wA w 5 0) p 5 0 (fun _ => 24) l10 zT _ _ := o_0 hN h64
  have S1 := o_I (k := 3) (v := 0) (o_I (k := 2) (v := 0) (o_I (k := 1) (v := 0) S0))
  refine ⟨o_K S0, ⟨by decide, by decide⟩, fun r3 w4 e1 e2 => ?_⟩
  rw [o_N S1] at e1
  subst e1; subst e2
  have S2 := o_A (k := 24) (n := 10) S1 rfl rfl
  refine ⟨o_K S2, by omega, ⟨by decide, by decide⟩, fun r10 w11 e1 e2 => ⟨⟨by decide, by decide⟩, ?_⟩⟩
  have S3 := o_R (f := 4) (v := p + 1 + 0) S2
  have n3 := o_N S3
  rw [n3] at e1
  subst e1; subst e2
  have eN : p + 1 + (0 + 1) = p + 2 := by omega
  rw [eN]
  refine q_i2 (r := p + 2) n3 (by omega) hh (fun z c n L => ⟨cx_isK c (o_K S3), by omega, 11, ?_⟩)
  have c3 : cx (fun q => q = p) (uR (wA (uI (uI (uI (wA w 5 0) p 1 0) p 2 0) p 3 0) 24 10) p 4 (p + 1 + 0)) (uR z p 0 (p + 2)) := cx_trans (cx_mono (fun _ y => y.elim) c) cx_uRh
  have q1 := o_ar S3 (j := 0) (by decide)
  have qp := cx_at c (o_K S3) id
  refine go 10 0 _ rfl ⟨cx_nw S3.1 c3 (fun q hq e => by omega), by show wN z = p + 5 + 3 * 0; omega, cx_isK c (o_K S3), ?_, ⟨?_, ?_⟩, ⟨cx_isK c q1.1, (cx_wn c q1.1).trans q1.2, fun j hj => absurd hj (Nat.not_lt_zero j)⟩, ZL_cx (T := fun q => q = p) cx_uRh (fun k _ => by omega) L, fun j hj => absurd hj (Nat.not_lt_zero j)⟩
  · show wI z p 1 = 0 ∧ wI z p 2 = 0 ∧ wI z p 3 = 0
    rw [qp.1, o_I' S3, o_I' S3, o_I' S3]
    exact ⟨rfl, rfl, rfl⟩
  · rw [vaR, if_pos rfl]
  · rw [vaR, if_neg (by decide), qp.2.2, o_R' S3, vaS]
end I5
/-! the reference -/
def kd12 (j : Nat) : Nat := [20, 20, 20, 23, 20, 20, 20, 20, 21, 20, 20, 20, 20, 21].getD j 0
def ln12 (j : Nat) : Nat := [1215, 1215, 3645, 3, 900, 64, 22, 10, 6, 41, 6, 4, 4, 120].getD j 0
def z12 (j : Nat) : Bool := !decide (j = 11)
def RZ0 (z : Wd) : Prop := okM z 245 ∧ (wI z 245 6 = 0 ∧ wI z 245 14 = 0 ∧ wI z 245 15 = -1) ∧ (∀ k, wI z 246 k = 0) ∧ (∀ k, wI z 248 k = 0) ∧ (∀ k, wI z 249 k = 0) ∧ (∀ k, k < 4 → wI z 257 k = -1) ∧ (∀ k, wI z 258 k = 0) ∧ ∀ k, wL z 259 k = 0
theorem q_i12 {w : Wd} {K : Wd → Prop} (hN : wN w = 245) (hk : ∀ z, cx (fun _ => False) w z → wN z = 260 → RZ0 z → K z) : w_X12_init 14 7255 245 K (wA w 12 0) := by
  have S0 : oS w (wA w 12 0) 245 12 0 kd12 ln12 z12 _ _ := o_0 hN (by decide)
  refine ⟨⟨by decide, by decide⟩, fun r2 w3 e1 e2 => ?_⟩
  rw [o_N S0] at e1
  subst e1; subst e2
  have A0 := o_A (k := 20) (n := 1215) S0 rfl rfl
  refine ⟨o_K A0, by decide, ⟨by decide, by decide⟩, fun r2 w3 e1 e2 => ?_⟩
  have R0 := o_R (f := 0) (v := 245 + 1 + 0) A0
  rw [o_N R0] at e1
  subst e1; subst e2
  have A1 := o_A (k := 20) (n := 1215) R0 rfl rfl
  refine ⟨o_K A1, by decide, ⟨by decide, by decide⟩, fun r2 w3 e1 e2 => ?_⟩
  have R1 := o_R (f := 1) (v := 245 + 1 + (0 + 1)) A1
  rw [o_N R1] at e1
  subst e1; subst e2
  have A2 := o_A (k := 20) (n := 3645) R1 rfl rfl
  refine ⟨o_K A2, by decide, ⟨by decide, by decide⟩, fun r2 w3 e1 e2 => ?_⟩
  have R2 := o_R (f := 2) (v := 245 + 1 + (0 + 1 + 1)) A2
  rw [o_N R2] at e1
  subst e1; subst e2
  have A3 := o_A (k := 23) (n := 3) R2 rfl rfl
  refine ⟨o_K A3, by decide, ⟨by decide, by decide⟩, fun r2 w3 e1 e2 => ?_⟩
  have R3 := o_R (f := 3) (v := 245 + 1 + (0 + 1 + 1 + 1)) A3
  rw [o_N R3] at e1
  subst e1; subst e2
  have A4 := o_A (k := 20) (n := 900) R3 rfl rfl
  refine ⟨o_K A4, by decide, ⟨by decide, by decide⟩, fun r2 w3 e1 e2 => ?_⟩
  have R4 := o_I (k := 15) (v := -1) (o_R (f := 5) (v := 245 + 1 + (0 + 1 + 1 + 1 + 1)) A4)
  rw [o_N R4] at e1
  subst e1; subst e2
  have A5 := o_A (k := 20) (n := 64) R4 rfl rfl
  refine ⟨o_K A5, by decide, ⟨by decide, by decide⟩, fun r2 w3 e1 e2 => ?_⟩
  have R5 := o_R (f := 17) (v := 245 + 1 + (0 + 1 + 1 + 1 + 1 + 1)) A5
  rw [o_N R5] at e1
  subst e1; subst e2
  have A6 := o_A (k := 20) (n := 22) R5 rfl rfl
  refine ⟨o_K A6, by decide, ⟨by decide, by decide⟩, fun r2 w3 e1 e2 => ?_⟩
  have R6 := o_R (f := 18) (v := 245 + 1 + (0 + 1 + 1 + 1 + 1 + 1 + 1)) A6
  rw [o_N R6] at e1
  subst e1; subst e2
  have A7 := o_A (k := 20) (n := 10) R6 rfl rfl
  refine ⟨o_K A7, by decide, ⟨by decide, by decide⟩, fun r2 w3 e1 e2 => ?_⟩
  have R7 := o_R (f := 20) (v := 245 + 1 + (0 + 1 + 1 + 1 + 1 + 1 + 1 + 1)) A7
  rw [o_N R7] at e1
  subst e1; subst e2
  have A8 := o_A (k := 21) (n := 6) R7 rfl rfl
  refine ⟨o_K A8, by decide, ⟨by decide, by decide⟩, fun r2 w3 e1 e2 => ?_⟩
  have R8 := o_R (f := 21) (v := 245 + 1 + (0 + 1 + 1 + 1 + 1 + 1 + 1 + 1 + 1)) A8
  rw [o_N R8] at e1
  subst e1; subst e2
  have A9 := o_A (k := 20) (n := 41) R8 rfl rfl
  refine ⟨o_K A9, by decide, ⟨by decide, by decide⟩, fun r2 w3 e1 e2 => ?_⟩
  have R9 := o_R (f := 22) (v := 245 + 1 + (0 + 1 + 1 + 1 + 1 + 1 + 1 + 1 + 1 + 1)) A9
  rw [o_N R9] at e1
  subst e1; subst e2
  have A10 := o_A (k := 20) (n := 6) R9 rfl rfl
  refine ⟨o_K A10, by decide, ⟨by decide, by decide⟩, fun r2 w3 e1 e2 => ?_⟩
  have R10 := o_R (f := 23) (v := 245 + 1 + (0 + 1 + 1 + 1 + 1 + 1 + 1 + 1 + 1 + 1 + 1)) A10
  rw [o_N R10] at e1
  subst e1; subst e2
  have A11 := o_A (k := 20) (n := 4) R10 rfl rfl
  have k11 := o_ar A11 (j := 11) (by decide)
  have U11 := o_U (j := 11) (k := 3) (v := -1) (o_U (j := 11) (k := 2) (v := -1) (o_U (j := 11) (k := 1) (v := -1) (o_U (j := 11) (k := 0) (v := -1) A11 rfl) rfl) rfl) rfl
  have f257 : ∀ {Y : Wd} (k : Nat), k < 4 → wI (uI (uI (uI (uI Y 257 0 (-1)) 257 1 (-1)) 257 2 (-1)) 257 3 (-1)) 257 k = -1 := fun {Y} k hk => by
    rw [wI_uI]
    by_cases e3 : k = 3
    · rw [if_pos e3]
    · rw [if_neg e3, wI_uI]
      by_cases e2 : k = 2
      · rw [if_pos e2]
      · rw [if_neg e2, wI_uI]
        by_cases e1 : k = 1
        · rw [if_pos e1]
        · rw [if_neg e1, wI_uI, if_pos (by omega)]
  refine ⟨k11.1, by rw [show wn _ _ = 4 from k11.2]; exact vp_in_nI (n := 0) (by decide) (by decide), by rw [show wn _ _ = 4 from k11.2]; exact vp_in_nI (n := 1) (by decide) (by decide), by rw [show wn _ _ = 4 from k11.2]; exact vp_in_nI (n := 2) (by decide) (by decide), by rw [show wn _ _ = 4 from k11.2]; exact vp_in_nI (n := 3) (by decide) (by decide), o_K A11, ⟨by decide, by decide⟩, fun r2 w3 e1 e2 => ?_⟩
  have R11 := o_R (f := 26) (v := 245 + 1 + (0 + 1 + 1 + 1 + 1 + 1 + 1 + 1 + 1 + 1 + 1 + 1)) U11
  rw [show r2 = 245 + 1 + (0 + 1 + 1 + 1 + 1 + 1 + 1 + 1 + 1 + 1 + 1 + 1 + 1) from e1.trans (o_N R11)]
  clear e1
  subst e2
  have A12 := o_A (k := 20) (n := 4) R11 rfl rfl
  refine ⟨o_K A12, by decide, ⟨by decide, by decide⟩, fun r3 w4 e3 e4 => ?_⟩
  have R12 := o_R (f := 27) (v := 245 + 1 + (0 + 1 + 1 + 1 + 1 + 1 + 1 + 1 + 1 + 1 + 1 + 1 + 1)) A12
  rw [show r3 = 245 + 1 + (0 + 1 + 1 + 1 + 1 + 1 + 1 + 1 + 1 + 1 + 1 + 1 + 1 + 1) from e3.trans (o_N R12)]
  clear e3
  subst e4
  have A13 := o_A (k := 21) (n := 120) R12 rfl rfl
  have R13 := o_R (f := 28) (v := 245 + 1 + (0 + 1 + 1 + 1 + 1 + 1 + 1 + 1 + 1 + 1 + 1 + 1 + 1 + 1)) A13
  refine ⟨o_K A13, by decide, ?_⟩
  have kp : ∀ {X : Wd} {f v kk n : Nat}, wN X ≠ 257 → (∀ k, k < 4 → wI X 257 k = -1) → ∀ k, k < 4 → wI (wA (uR X 245 f v) kk n) 257 k = -1 := fun {X f v kk n} hn hX k hk => by
    rw [wA_I (w := uR X 245 f v) (fun e => hn e.symm)]
    exact hX k hk
  have h257 := kp (f := 27) (v := 245 + 1 + (0 + 1 + 1 + 1 + 1 + 1 + 1 + 1 + 1 + 1 + 1 + 1 + 1)) (kk := 21) (n := 120) (by rw [o_N A12]; decide) (kp (f := 26) (v := 245 + 1 + (0 + 1 + 1 + 1 + 1 + 1 + 1 + 1 + 1 + 1 + 1 + 1)) (kk := 20) (n := 4) (by rw [o_N U11]; decide) f257)
  have ZZ := R13.2.2.2.2.2
  exact hk _ R13.1 (o_N R13) ⟨⟨o_K R13, ⟨((o_R' R13 0).trans rfl), o_ar R13 (j := 0) (by decide)⟩, ⟨((o_R' R13 17).trans rfl), o_ar R13 (j := 5) (by decide)⟩, ⟨((o_R' R13 18).trans rfl), o_ar R13 (j := 6) (by decide)⟩, ⟨((o_R' R13 20).trans rfl), o_ar R13 (j := 7) (by decide)⟩, ⟨((o_R' R13 21).trans rfl), o_ar R13 (j := 8) (by decide)⟩, ⟨((o_R' R13 22).trans rfl), o_ar R13 (j := 9) (by decide)⟩, ⟨((o_R' R13 23).trans rfl), o_ar R13 (j := 10) (by decide)⟩, ⟨((o_R' R13 26).trans rfl), o_ar R13 (j := 11) (by decide)⟩, ⟨((o_R' R13 27).trans rfl), o_ar R13 (j := 12) (by decide)⟩, ⟨((o_R' R13 28).trans rfl), o_ar R13 (j := 13) (by decide)⟩, ⟨((o_R' R13 1).trans rfl), o_ar R13 (j := 1) (by decide)⟩, ⟨((o_R' R13 2).trans rfl), o_ar R13 (j := 2) (by decide)⟩, ⟨((o_R' R13 3).trans rfl), o_ar R13 (j := 3) (by decide)⟩, ((o_R' R13 5).trans rfl), o_ar R13 (j := 4) (by decide)⟩, ⟨((o_I' R13 6).trans rfl), ((o_I' R13 14).trans rfl), ((o_I' R13 15).trans rfl)⟩, fun k => congrFun ((ZZ 0 (by decide)).2.2 rfl).1 k, fun k => congrFun ((ZZ 2 (by decide)).2.2 rfl).1 k, fun k => congrFun ((ZZ 3 (by decide)).2.2 rfl).1 k, h257, fun k => congrFun ((ZZ 12 (by decide)).2.2 rfl).1 k, fun k => congrFun ((ZZ 13 (by decide)).2.2 rfl).2.1 k⟩
