/-! methods: X7_append, X7_isSign, X7_comparisonHere, X7_emit, X7_expectNumber, X7_expectSign, X7_expectToldWell, X7_mayNest, X7_readBeside, X7_readHour, X11_awake, X11_carryOutIfCan, X11_coin, X11_count, X11_draw, X11_dry, X11_fault, X11_feed, X11_fullest, X11_joint, X11_lookAhead, X11_lull, X11_sizeOrSet, X11_thunder, X11_water, X12_isWord, X12_took, X12_mustWord, X12_readHouse, X12_lawWord, X12_readAtom, X12_readSum, X12_readTerm, X12_readBoth, X12_readTruth, X12_readUnit, X12_readWell -/
section ME
variable {x : xG} {p : Program} {l : Launch} {e : Env} {R : Room} {s : State} {m : MethodId} {args : Array Value} {below : List Frame} {meth : Method} {c : Code} {Q : State → Prop} {cc : ByteArray} {nL : Nat} {pc : Nat} {lo : List (Nat × Value)} {st : List Value} {w : Wd} {i j : Nat}
def l_X7_append_3  (K : Wd → Prop) : Nat → Nat → Int32 → Int32 → Wd → Prop
  | 0, _, _, _, _ => False
  | n + 1, a0, a1, a2, w => ((a2 < 0 → K w) ∧ (¬ a2 < 0 → isK w a0 7 ∧ (((wI w a0 0) < 0 → l_X7_append_3 K n a0 a1 (a2 + (-8)) w) ∧ (¬ (wI w a0 0) < 0 → isK w (wR w a0 4) 22 ∧ (((Int32.ofNat (wn w (wR w a0 4))) ≤ (wI w a0 0) → l_X7_append_3 K n a0 a1 (a2 + (-8)) w) ∧ (¬ (Int32.ofNat (wn w (wR w a0 4))) ≤ (wI w a0 0) → vp_in (wI w a0 0) (wn w (wR w a0 4)) ∧ l_X7_append_3 K n a0 a1 (a2 + (-8)) (uI (uI w (wR w a0 4) (wI w a0 0).toNatClampNeg (vp_nar .byte ((x_iushr a1 a2).toInt8.toInt32))) a0 0 ((wI (uI w (wR w a0 4) (wI w a0 0).toNatClampNeg (vp_nar .byte ((x_iushr a1 a2).toInt8.toInt32))) a0 0) + 1))))))))
def w_X7_append (a0 : Nat) (a1 : Int32) (K : Wd → Prop) (w : Wd) : Prop :=
  ∃ n7, l_X7_append_3  K n7 a0 a1 24 w
theorem t_X7_append_3 (C : xC x p s m c cX7_append 3 args RX7) (hlk : meth.locks = false) (hr : meth.sig.returnType = none) {K : Wd → Prop}   : ∀ (n : Nat) (a0 : Nat) (a1 : Int32) (a2 : Int32) (w : Wd), l_X7_append_3 K n a0 a1 a2 w → GW x p l e (rmd 0 0 0) s m args below meth c 3 (QV x K below args s 0 0) 3 [(0, .ref (adr x a0)), (1, .int a1), (2, .int a2)] [] w 0 0 := by
  intro n
  induction n with
  | zero => intro _ _ _ _ h; exact False.elim h
  | succ n ih =>
    intro a0 a1 a2 w h
    refine g_iload_n (pc := 3) C dX7_append_3 (q := 2) rfl ?_
    refine g_if_lt (pc := 4) C dX7_append_4 (tgt := 55) rfl (fun z1 => ?_) (fun z1 => ?_)
    · replace h := h.1 z1
      exact g_vret (pc := 55) C hlk hr (Nat.le_refl _) (Nat.le_refl _) dX7_append_55 h
    · replace h := h.2 z1
      refine g_aload_n (pc := 7) C dX7_append_7 (q := 0) rfl ?_
      obtain ⟨k2, h⟩ := h
      refine gfX7_9 (pc := 8) C k2 dX7_append_8 ?_
      refine g_if_lt (pc := 11) C dX7_append_11 (tgt := 49) rfl (fun z3 => ?_) (fun z3 => ?_)
      · replace h := h.1 z3
        refine g_iinc (pc := 49) C dX7_append_49 (q := 2) rfl (v2 := a2 + (-8)) rfl (Nat.le_of_ble_eq_true rfl) (lo' := [(2, .int (a2 + (-8))), (0, .ref (adr x a0)), (1, .int a1)]) rfl ?_
        refine g_goto (pc := 52) C dX7_append_52 (tgt := 3) rfl ?_
        refine g_sub [1, 2, 0] rfl ?_
        exact ih _ _ _ _ h
      · replace h := h.2 z3
        refine g_aload_n (pc := 14) C dX7_append_14 (q := 0) rfl ?_
        refine gfX7_9 (pc := 15) C k2 dX7_append_15 ?_
        refine g_aload_n (pc := 18) C dX7_append_18 (q := 0) rfl ?_
        obtain ⟨k4, h⟩ := h
        refine gfX7_21 (pc := 19) C k2 (isK_ne k4) dX7_append_19 ?_
        refine g_alen (pc := 22) C k4 (by decide) dX7_append_22 ?_
        refine g_icmp_ge (pc := 23) C dX7_append_23 (tgt := 49) rfl (fun z5 => ?_) (fun z5 => ?_)
        · replace h := h.1 z5
          refine g_iinc (pc := 49) C dX7_append_49 (q := 2) rfl (v2 := a2 + (-8)) rfl (Nat.le_of_ble_eq_true rfl) (lo' := [(2, .int (a2 + (-8))), (0, .ref (adr x a0)), (1, .int a1)]) rfl ?_
          refine g_goto (pc := 52) C dX7_append_52 (tgt := 3) rfl ?_
          refine g_sub [1, 2, 0] rfl ?_
          exact ih _ _ _ _ h
        · replace h := h.2 z5
          refine g_aload_n (pc := 26) C dX7_append_26 (q := 0) rfl ?_
          refine gfX7_21 (pc := 27) C k2 (isK_ne k4) dX7_append_27 ?_
          refine g_aload_n (pc := 30) C dX7_append_30 (q := 0) rfl ?_
          refine gfX7_9 (pc := 31) C k2 dX7_append_31 ?_
          refine g_iload_n (pc := 34) C dX7_append_34 (q := 1) rfl ?_
          refine g_iload_n (pc := 35) C dX7_append_35 (q := 2) rfl ?_
          refine h_iushr (pc := 36) C dX7_append_36 ?_
          refine g_i2b (pc := 37) C dX7_append_37 ?_
          obtain ⟨k6, h⟩ := h
          refine g_bast (pc := 38) C k4 k6 dX7_append_38 ?_
          refine g_aload_n (pc := 39) C dX7_append_39 (q := 0) rfl ?_
          refine g_dup (pc := 40) C dX7_append_40 rfl ?_
          refine gfX7_9 (pc := 41) (w := uI w (wR w a0 4) (wI w a0 0).toNatClampNeg (vp_nar .byte ((x_iushr a1 a2).toInt8.toInt32))) C k2 dX7_append_41 ?_
          refine g_iconst (pc := 44) C dX7_append_44 (v := 1) rfl ?_
          refine g_iadd (pc := 45) C dX7_append_45 ?_
          refine pfX7_9 (pc := 46) (w := uI w (wR w a0 4) (wI w a0 0).toNatClampNeg (vp_nar .byte ((x_iushr a1 a2).toInt8.toInt32))) C k2 dX7_append_46 ?_
          refine g_iinc (pc := 49) C dX7_append_49 (q := 2) rfl (v2 := a2 + (-8)) rfl (Nat.le_of_ble_eq_true rfl) (lo' := [(2, .int (a2 + (-8))), (0, .ref (adr x a0)), (1, .int a1)]) rfl ?_
          refine g_goto (pc := 52) C dX7_append_52 (tgt := 3) rfl ?_
          refine g_sub [1, 2, 0] rfl ?_
          exact ih _ _ _ _ h
theorem c_X7_append {x : xG} {l : Launch} {a0 : Nat} {a1 : Int32} {K : Wd → Prop} {w : Wd} (h : w_X7_append a0 a1 K w) : Met l yX7_append (xws yX7_append cX7_append 3 none) (rmd 0 0 0) (xPc x [.ref (adr x a0), .int a1] w) (QcV x K) 0 0 (xA x) := by
  refine xMet (by decide) (Nat.le_of_ble_eq_true rfl) (fun p e s m below meth c C hlk hr _ => ?_)
  show GW x p l e (rmd 0 0 0) s m [.ref (adr x a0), .int a1].toArray below meth c 3 (QV x K below [.ref (adr x a0), .int a1].toArray s 0 0) 0 [(0, .ref (adr x a0)), (1, .int a1)] [] w 0 0
  refine g_bipush (pc := 0) C dX7_append_0 (v := 24) rfl ?_
  refine g_istore_n (pc := 2) C dX7_append_2 (Nat.le_of_ble_eq_true rfl) (lo' := [(2, .int 24), (0, .ref (adr x a0)), (1, .int a1)]) rfl ?_
  obtain ⟨n7, h⟩ := h
  refine g_sub [1, 2, 0] rfl ?_
  refine t_X7_append_3 C hlk hr n7 _ _ _ _ h
def w_X7_isSign (a0 : Nat) (a1 : Int32) (K : Int32 → Wd → Prop) (w : Wd) : Prop :=
  isK w a0 7 ∧ (((wI w a0 8) = 3 → w_X7_byteAt a0 (wI w a0 6) (fun r3 w4 => ((r3 = a1 → K 1 w4) ∧ (¬ r3 = a1 → K 0 w4))) w) ∧ (¬ (wI w a0 8) = 3 → K 0 w))
theorem c_X7_isSign {x : xG} {l : Launch} {a0 : Nat} {a1 : Int32} {K : Int32 → Wd → Prop} {w : Wd} (h : w_X7_isSign a0 a1 K w) : Met l yX7_isSign (xws yX7_isSign cX7_isSign 2 (some .boolean)) (rmd 1 0 0) (xPc x [.ref (adr x a0), .int a1] w) (QcI x K) 0 0 (xA x) := by
  refine xMet (by decide) (Nat.le_of_ble_eq_true rfl) (fun p e s m below meth c C hlk hr _ => ?_)
  show GW x p l e (rmd 1 0 0) s m [.ref (adr x a0), .int a1].toArray below meth c 2 (QI x K below [.ref (adr x a0), .int a1].toArray s 0 0) 0 [(0, .ref (adr x a0)), (1, .int a1)] [] w 0 0
  refine g_aload_n (pc := 0) C dX7_isSign_0 (q := 0) rfl ?_
  obtain ⟨k1, h⟩ := h
  refine gfX7_34 (pc := 1) C k1 dX7_isSign_1 ?_
  refine g_iconst (pc := 4) C dX7_isSign_4 (v := 3) rfl ?_
  refine g_icmp_ne (pc := 5) C dX7_isSign_5 (tgt := 24) rfl (fun z2 => ?_) (fun z2 => ?_)
  · replace h := h.2 z2
    refine g_iconst (pc := 24) C dX7_isSign_24 (v := 0) rfl ?_
    exact g_zret (pc := 25) C hlk hr (Nat.le_refl _) (Nat.le_refl _) dX7_isSign_25 (Or.inl rfl) h
  · replace h := h.1 z2
    refine g_aload_n (pc := 8) C dX7_isSign_8 (q := 0) rfl ?_
    refine g_aload_n (pc := 9) C dX7_isSign_9 (q := 0) rfl ?_
    refine gfX7_28 (pc := 10) C k1 dX7_isSign_10 ?_
    refine miX7_221 (pc := 13) C k1 h (Nat.le_of_ble_eq_true rfl) (Nat.le_of_ble_eq_true rfl) ⟨Nat.le_refl _, Nat.le_refl _⟩ dX7_isSign_13 (fun r3 w4 h => ?_)
    refine g_iload_n (pc := 16) C dX7_isSign_16 (q := 1) rfl ?_
    refine g_icmp_ne (pc := 17) C dX7_isSign_17 (tgt := 24) rfl (fun z5 => ?_) (fun z5 => ?_)
    · replace h := h.2 z5
      refine g_iconst (pc := 24) C dX7_isSign_24 (v := 0) rfl ?_
      exact g_zret (pc := 25) C hlk hr (Nat.le_refl _) (Nat.le_refl _) dX7_isSign_25 (Or.inl rfl) h
    · replace h := h.1 z5
      refine g_iconst (pc := 20) C dX7_isSign_20 (v := 1) rfl ?_
      refine g_goto (pc := 21) C dX7_isSign_21 (tgt := 25) rfl ?_
      exact g_zret (pc := 25) C hlk hr (Nat.le_refl _) (Nat.le_refl _) dX7_isSign_25 (Or.inr rfl) h
theorem miX7_181 (C : xC x p s m c cc nL args RX7) {a0 : Nat} {a1 : Int32} {K : Int32 → Wd → Prop} {D MC MS : Nat} (hq : isK w a0 7) (h : w_X7_isSign a0 a1 K w) (hD : 1 + 1 ≤ D) (hW : (st.map fun v => v.category).sum ≤ 8) (hij : i ≤ MC ∧ j ≤ MS) (hd : decode cc pc = .ok (.invokevirtual 181, 3)) (k : ∀ (r : Int32) (u : Wd), K r u → GW x p l e (rmd D MC MS) s m args below meth c nL Q (pc + 3) lo (.int r :: st) u i j) : GW x p l e (rmd D MC MS) s m args below meth c nL Q pc lo (.int a1 :: .ref (adr x a0) :: st) w i j := g_callVi0 C (As := [.int a1]) (ci := 7) (c_X7_isSign h) (x_cwV C 1 LMX7_181 ⟨rfl, by decide, by decide, rfl⟩ hD (by decide)) rfl hq (by decide) rfl rfl hW hd hij k
def w_X7_comparisonHere (a0 : Nat) (K : Int32 → Wd → Prop) (w : Wd) : Prop :=
  isK w a0 7 ∧ w_X7_isSign a0 61 (fun r2 w3 => ((r2 = 0 → isK w3 a0 7 ∧ w_X7_isSign a0 60 (fun r6 w7 => ((r6 = 0 → isK w7 a0 7 ∧ w_X7_isSign a0 62 (fun r10 w11 => ((r10 = 0 → K 0 w11) ∧ (¬ r10 = 0 → K 2005 w11))) w7) ∧ (¬ r6 = 0 → K 2004 w7))) w3) ∧ (¬ r2 = 0 → K 2003 w3))) w
theorem c_X7_comparisonHere {x : xG} {l : Launch} {a0 : Nat} {K : Int32 → Wd → Prop} {w : Wd} (h : w_X7_comparisonHere a0 K w) : Met l yX7_comparisonHere (xws yX7_comparisonHere cX7_comparisonHere 1 (some .int)) (rmd 2 0 0) (xPc x [.ref (adr x a0)] w) (QcI x K) 0 0 (xA x) := by
  refine xMet (by decide) (Nat.le_of_ble_eq_true rfl) (fun p e s m below meth c C hlk hr _ => ?_)
  show GW x p l e (rmd 2 0 0) s m [.ref (adr x a0)].toArray below meth c 1 (QI x K below [.ref (adr x a0)].toArray s 0 0) 0 [(0, .ref (adr x a0))] [] w 0 0
  refine g_aload_n (pc := 0) C dX7_comparisonHere_0 (q := 0) rfl ?_
  refine g_bipush (pc := 1) C dX7_comparisonHere_1 (v := 61) rfl ?_
  obtain ⟨k1, h⟩ := h
  refine miX7_181 (pc := 3) C k1 h (Nat.le_of_ble_eq_true rfl) (Nat.le_of_ble_eq_true rfl) ⟨Nat.le_refl _, Nat.le_refl _⟩ dX7_comparisonHere_3 (fun r2 w3 h => ?_)
  refine g_if_eq (pc := 6) C dX7_comparisonHere_6 (tgt := 13) rfl (fun z4 => ?_) (fun z4 => ?_)
  · replace h := h.1 z4
    refine g_aload_n (pc := 13) C dX7_comparisonHere_13 (q := 0) rfl ?_
    refine g_bipush (pc := 14) C dX7_comparisonHere_14 (v := 60) rfl ?_
    obtain ⟨k5, h⟩ := h
    refine miX7_181 (pc := 16) C k5 h (Nat.le_of_ble_eq_true rfl) (Nat.le_of_ble_eq_true rfl) ⟨Nat.le_refl _, Nat.le_refl _⟩ dX7_comparisonHere_16 (fun r6 w7 h => ?_)
    refine g_if_eq (pc := 19) C dX7_comparisonHere_19 (tgt := 26) rfl (fun z8 => ?_) (fun z8 => ?_)
    · replace h := h.1 z8
      refine g_aload_n (pc := 26) C dX7_comparisonHere_26 (q := 0) rfl ?_
      refine g_bipush (pc := 27) C dX7_comparisonHere_27 (v := 62) rfl ?_
      obtain ⟨k9, h⟩ := h
      refine miX7_181 (pc := 29) C k9 h (Nat.le_of_ble_eq_true rfl) (Nat.le_of_ble_eq_true rfl) ⟨Nat.le_refl _, Nat.le_refl _⟩ dX7_comparisonHere_29 (fun r10 w11 h => ?_)
      refine g_if_eq (pc := 32) C dX7_comparisonHere_32 (tgt := 41) rfl (fun z12 => ?_) (fun z12 => ?_)
      · replace h := h.1 z12
        refine g_iconst (pc := 41) C dX7_comparisonHere_41 (v := 0) rfl ?_
        exact g_iret (pc := 42) C hlk hr (Nat.le_refl _) (Nat.le_refl _) dX7_comparisonHere_42 h
      · replace h := h.2 z12
        refine g_sipush (pc := 35) C dX7_comparisonHere_35 (v := 2005) rfl ?_
        refine g_goto (pc := 38) C dX7_comparisonHere_38 (tgt := 42) rfl ?_
        exact g_iret (pc := 42) C hlk hr (Nat.le_refl _) (Nat.le_refl _) dX7_comparisonHere_42 h
    · replace h := h.2 z8
      refine g_sipush (pc := 22) C dX7_comparisonHere_22 (v := 2004) rfl ?_
      exact g_iret (pc := 25) C hlk hr (Nat.le_refl _) (Nat.le_refl _) dX7_comparisonHere_25 h
  · replace h := h.2 z4
    refine g_sipush (pc := 9) C dX7_comparisonHere_9 (v := 2003) rfl ?_
    exact g_iret (pc := 12) C hlk hr (Nat.le_refl _) (Nat.le_refl _) dX7_comparisonHere_12 h
def w_X7_emit (a0 : Nat) (a1 : Int32) (K : Wd → Prop) (w : Wd) : Prop :=
  isK w a0 7 ∧ (((wI w a0 12) < 0 → K w) ∧ (¬ (wI w a0 12) < 0 → isK w (wR w a0 11) 20 ∧ (((Int32.ofNat (wn w (wR w a0 11))) ≤ (wI w a0 12) → K w) ∧ (¬ (Int32.ofNat (wn w (wR w a0 11))) ≤ (wI w a0 12) → vp_in (wI w a0 12) (wn w (wR w a0 11)) ∧ K (uI (uI w (wR w a0 11) (wI w a0 12).toNatClampNeg a1) a0 12 ((wI (uI w (wR w a0 11) (wI w a0 12).toNatClampNeg a1) a0 12) + 1))))))
theorem c_X7_emit {x : xG} {l : Launch} {a0 : Nat} {a1 : Int32} {K : Wd → Prop} {w : Wd} (h : w_X7_emit a0 a1 K w) : Met l yX7_emit (xws yX7_emit cX7_emit 2 none) (rmd 0 0 0) (xPc x [.ref (adr x a0), .int a1] w) (QcV x K) 0 0 (xA x) := by
  refine xMet (by decide) (Nat.le_of_ble_eq_true rfl) (fun p e s m below meth c C hlk hr _ => ?_)
  show GW x p l e (rmd 0 0 0) s m [.ref (adr x a0), .int a1].toArray below meth c 2 (QV x K below [.ref (adr x a0), .int a1].toArray s 0 0) 0 [(0, .ref (adr x a0)), (1, .int a1)] [] w 0 0
  refine g_aload_n (pc := 0) C dX7_emit_0 (q := 0) rfl ?_
  obtain ⟨k1, h⟩ := h
  refine gfX7_47 (pc := 1) C k1 dX7_emit_1 ?_
  refine g_if_lt (pc := 4) C dX7_emit_4 (tgt := 39) rfl (fun z2 => ?_) (fun z2 => ?_)
  · replace h := h.1 z2
    exact g_vret (pc := 39) C hlk hr (Nat.le_refl _) (Nat.le_refl _) dX7_emit_39 h
  · replace h := h.2 z2
    refine g_aload_n (pc := 7) C dX7_emit_7 (q := 0) rfl ?_
    refine gfX7_47 (pc := 8) C k1 dX7_emit_8 ?_
    refine g_aload_n (pc := 11) C dX7_emit_11 (q := 0) rfl ?_
    obtain ⟨k3, h⟩ := h
    refine gfX7_43 (pc := 12) C k1 (isK_ne k3) dX7_emit_12 ?_
    refine g_alen (pc := 15) C k3 (by decide) dX7_emit_15 ?_
    refine g_icmp_ge (pc := 16) C dX7_emit_16 (tgt := 39) rfl (fun z4 => ?_) (fun z4 => ?_)
    · replace h := h.1 z4
      exact g_vret (pc := 39) C hlk hr (Nat.le_refl _) (Nat.le_refl _) dX7_emit_39 h
    · replace h := h.2 z4
      refine g_aload_n (pc := 19) C dX7_emit_19 (q := 0) rfl ?_
      refine gfX7_43 (pc := 20) C k1 (isK_ne k3) dX7_emit_20 ?_
      refine g_aload_n (pc := 23) C dX7_emit_23 (q := 0) rfl ?_
      refine gfX7_47 (pc := 24) C k1 dX7_emit_24 ?_
      refine g_iload_n (pc := 27) C dX7_emit_27 (q := 1) rfl ?_
      obtain ⟨k5, h⟩ := h
      refine g_iast (pc := 28) C k3 k5 dX7_emit_28 ?_
      refine g_aload_n (pc := 29) C dX7_emit_29 (q := 0) rfl ?_
      refine g_dup (pc := 30) C dX7_emit_30 rfl ?_
      refine gfX7_47 (pc := 31) (w := uI w (wR w a0 11) (wI w a0 12).toNatClampNeg a1) C k1 dX7_emit_31 ?_
      refine g_iconst (pc := 34) C dX7_emit_34 (v := 1) rfl ?_
      refine g_iadd (pc := 35) C dX7_emit_35 ?_
      refine pfX7_47 (pc := 36) (w := uI w (wR w a0 11) (wI w a0 12).toNatClampNeg a1) C k1 dX7_emit_36 ?_
      exact g_vret (pc := 39) C hlk hr (Nat.le_refl _) (Nat.le_refl _) dX7_emit_39 h
theorem miX7_57 (C : xC x p s m c cc nL args RX7) {a0 : Nat} {K : Int32 → Wd → Prop} {D MC MS : Nat} (hq : isK w a0 7) (h : w_X7_advance a0 K w) (hD : 1 + 1 ≤ D) (hW : (st.map fun v => v.category).sum ≤ 8) (hij : i ≤ MC ∧ j ≤ MS) (hd : decode cc pc = .ok (.invokevirtual 57, 3)) (k : ∀ (r : Int32) (u : Wd), K r u → GW x p l e (rmd D MC MS) s m args below meth c nL Q (pc + 3) lo (.int r :: st) u i j) : GW x p l e (rmd D MC MS) s m args below meth c nL Q pc lo (.ref (adr x a0) :: st) w i j := g_callVi0 C (As := []) (ci := 7) (c_X7_advance h) (x_cwV C 0 LMX7_57 ⟨rfl, by decide, by decide, rfl⟩ hD (by decide)) rfl hq (by decide) rfl rfl hW hd hij k
def w_X7_expectNumber (a0 : Nat) (a1 : Int32) (a2 : Int32) (K : Int32 → Wd → Prop) (w : Wd) : Prop :=
  isK w a0 7 ∧ (((wI w a0 8) = 1 → (((wI w a0 9) < a1 → w_X7_refuse a0 3 (fun r4 w5 => (r4 = 0 ∨ r4 = 1) ∧ K r4 w5) w) ∧ (¬ (wI w a0 9) < a1 → (((wI w a0 9) ≤ a2 → w_X7_advance a0 (fun r7 w8 => (r7 = 0 ∨ r7 = 1) ∧ K r7 w8) (uI w a0 10 (wI w a0 9))) ∧ (¬ (wI w a0 9) ≤ a2 → w_X7_refuse a0 3 (fun r9 w10 => (r9 = 0 ∨ r9 = 1) ∧ K r9 w10) w))))) ∧ (¬ (wI w a0 8) = 1 → w_X7_refuse a0 2 (fun r11 w12 => (r11 = 0 ∨ r11 = 1) ∧ K r11 w12) w))
theorem c_X7_expectNumber {x : xG} {l : Launch} {a0 : Nat} {a1 : Int32} {a2 : Int32} {K : Int32 → Wd → Prop} {w : Wd} (h : w_X7_expectNumber a0 a1 a2 K w) : Met l yX7_expectNumber (xws yX7_expectNumber cX7_expectNumber 3 (some .boolean)) (rmd 2 0 0) (xPc x [.ref (adr x a0), .int a1, .int a2] w) (QcI x K) 0 0 (xA x) := by
  refine xMet (by decide) (Nat.le_of_ble_eq_true rfl) (fun p e s m below meth c C hlk hr _ => ?_)
  show GW x p l e (rmd 2 0 0) s m [.ref (adr x a0), .int a1, .int a2].toArray below meth c 3 (QI x K below [.ref (adr x a0), .int a1, .int a2].toArray s 0 0) 0 [(0, .ref (adr x a0)), (1, .int a1), (2, .int a2)] [] w 0 0
  refine g_aload_n (pc := 0) C dX7_expectNumber_0 (q := 0) rfl ?_
  obtain ⟨k1, h⟩ := h
  refine gfX7_34 (pc := 1) C k1 dX7_expectNumber_1 ?_
  refine g_iconst (pc := 4) C dX7_expectNumber_4 (v := 1) rfl ?_
  refine g_icmp_eq (pc := 5) C dX7_expectNumber_5 (tgt := 14) rfl (fun z2 => ?_) (fun z2 => ?_)
  · replace h := h.1 z2
    refine g_aload_n (pc := 14) C dX7_expectNumber_14 (q := 0) rfl ?_
    refine gfX7_37 (pc := 15) C k1 dX7_expectNumber_15 ?_
    refine g_iload_n (pc := 18) C dX7_expectNumber_18 (q := 1) rfl ?_
    refine g_icmp_lt (pc := 19) C dX7_expectNumber_19 (tgt := 30) rfl (fun z3 => ?_) (fun z3 => ?_)
    · replace h := h.1 z3
      refine g_aload_n (pc := 30) C dX7_expectNumber_30 (q := 0) rfl ?_
      refine g_iconst (pc := 31) C dX7_expectNumber_31 (v := 3) rfl ?_
      refine miX7_100 (pc := 32) C k1 h (Nat.le_of_ble_eq_true rfl) (Nat.le_of_ble_eq_true rfl) ⟨Nat.le_refl _, Nat.le_refl _⟩ dX7_expectNumber_32 (fun r4 w5 h => ?_)
      exact g_zret (pc := 35) C hlk hr (Nat.le_refl _) (Nat.le_refl _) dX7_expectNumber_35 h.1 h.2
    · replace h := h.2 z3
      refine g_aload_n (pc := 22) C dX7_expectNumber_22 (q := 0) rfl ?_
      refine gfX7_37 (pc := 23) C k1 dX7_expectNumber_23 ?_
      refine g_iload_n (pc := 26) C dX7_expectNumber_26 (q := 2) rfl ?_
      refine g_icmp_le (pc := 27) C dX7_expectNumber_27 (tgt := 36) rfl (fun z6 => ?_) (fun z6 => ?_)
      · replace h := h.1 z6
        refine g_aload_n (pc := 36) C dX7_expectNumber_36 (q := 0) rfl ?_
        refine g_aload_n (pc := 37) C dX7_expectNumber_37 (q := 0) rfl ?_
        refine gfX7_37 (pc := 38) C k1 dX7_expectNumber_38 ?_
        refine pfX7_40 (pc := 41) C k1 dX7_expectNumber_41 ?_
        refine g_aload_n (pc := 44) C dX7_expectNumber_44 (q := 0) rfl ?_
        refine miX7_57 (pc := 45) (w := uI w a0 10 (wI w a0 9)) C k1 h (Nat.le_of_ble_eq_true rfl) (Nat.le_of_ble_eq_true rfl) ⟨Nat.le_refl _, Nat.le_refl _⟩ dX7_expectNumber_45 (fun r7 w8 h => ?_)
        exact g_zret (pc := 48) C hlk hr (Nat.le_refl _) (Nat.le_refl _) dX7_expectNumber_48 h.1 h.2
      · replace h := h.2 z6
        refine g_aload_n (pc := 30) C dX7_expectNumber_30 (q := 0) rfl ?_
        refine g_iconst (pc := 31) C dX7_expectNumber_31 (v := 3) rfl ?_
        refine miX7_100 (pc := 32) C k1 h (Nat.le_of_ble_eq_true rfl) (Nat.le_of_ble_eq_true rfl) ⟨Nat.le_refl _, Nat.le_refl _⟩ dX7_expectNumber_32 (fun r9 w10 h => ?_)
        exact g_zret (pc := 35) C hlk hr (Nat.le_refl _) (Nat.le_refl _) dX7_expectNumber_35 h.1 h.2
  · replace h := h.2 z2
    refine g_aload_n (pc := 8) C dX7_expectNumber_8 (q := 0) rfl ?_
    refine g_iconst (pc := 9) C dX7_expectNumber_9 (v := 2) rfl ?_
    refine miX7_100 (pc := 10) C k1 h (Nat.le_of_ble_eq_true rfl) (Nat.le_of_ble_eq_true rfl) ⟨Nat.le_refl _, Nat.le_refl _⟩ dX7_expectNumber_10 (fun r11 w12 h => ?_)
    exact g_zret (pc := 13) C hlk hr (Nat.le_refl _) (Nat.le_refl _) dX7_expectNumber_13 h.1 h.2
def w_X7_expectSign (a0 : Nat) (a1 : Int32) (K : Int32 → Wd → Prop) (w : Wd) : Prop :=
  isK w a0 7 ∧ w_X7_isSign a0 a1 (fun r2 w3 => ((r2 = 0 → isK w3 a0 7 ∧ w_X7_refuse a0 2 (fun r6 w7 => (r6 = 0 ∨ r6 = 1) ∧ K r6 w7) w3) ∧ (¬ r2 = 0 → isK w3 a0 7 ∧ w_X7_advance a0 (fun r9 w10 => (r9 = 0 ∨ r9 = 1) ∧ K r9 w10) w3))) w
theorem c_X7_expectSign {x : xG} {l : Launch} {a0 : Nat} {a1 : Int32} {K : Int32 → Wd → Prop} {w : Wd} (h : w_X7_expectSign a0 a1 K w) : Met l yX7_expectSign (xws yX7_expectSign cX7_expectSign 2 (some .boolean)) (rmd 2 0 0) (xPc x [.ref (adr x a0), .int a1] w) (QcI x K) 0 0 (xA x) := by
  refine xMet (by decide) (Nat.le_of_ble_eq_true rfl) (fun p e s m below meth c C hlk hr _ => ?_)
  show GW x p l e (rmd 2 0 0) s m [.ref (adr x a0), .int a1].toArray below meth c 2 (QI x K below [.ref (adr x a0), .int a1].toArray s 0 0) 0 [(0, .ref (adr x a0)), (1, .int a1)] [] w 0 0
  refine g_aload_n (pc := 0) C dX7_expectSign_0 (q := 0) rfl ?_
  refine g_iload_n (pc := 1) C dX7_expectSign_1 (q := 1) rfl ?_
  obtain ⟨k1, h⟩ := h
  refine miX7_181 (pc := 2) C k1 h (Nat.le_of_ble_eq_true rfl) (Nat.le_of_ble_eq_true rfl) ⟨Nat.le_refl _, Nat.le_refl _⟩ dX7_expectSign_2 (fun r2 w3 h => ?_)
  refine g_if_eq (pc := 5) C dX7_expectSign_5 (tgt := 15) rfl (fun z4 => ?_) (fun z4 => ?_)
  · replace h := h.1 z4
    refine g_aload_n (pc := 15) C dX7_expectSign_15 (q := 0) rfl ?_
    refine g_iconst (pc := 16) C dX7_expectSign_16 (v := 2) rfl ?_
    obtain ⟨k5, h⟩ := h
    refine miX7_100 (pc := 17) C k5 h (Nat.le_of_ble_eq_true rfl) (Nat.le_of_ble_eq_true rfl) ⟨Nat.le_refl _, Nat.le_refl _⟩ dX7_expectSign_17 (fun r6 w7 h => ?_)
    exact g_zret (pc := 20) C hlk hr (Nat.le_refl _) (Nat.le_refl _) dX7_expectSign_20 h.1 h.2
  · replace h := h.2 z4
    refine g_aload_n (pc := 8) C dX7_expectSign_8 (q := 0) rfl ?_
    obtain ⟨k8, h⟩ := h
    refine miX7_57 (pc := 9) C k8 h (Nat.le_of_ble_eq_true rfl) (Nat.le_of_ble_eq_true rfl) ⟨Nat.le_refl _, Nat.le_refl _⟩ dX7_expectSign_9 (fun r9 w10 h => ?_)
    refine g_goto (pc := 12) C dX7_expectSign_12 (tgt := 20) rfl ?_
    exact g_zret (pc := 20) C hlk hr (Nat.le_refl _) (Nat.le_refl _) dX7_expectSign_20 h.1 h.2
theorem miX7_214 (C : xC x p s m c cc nL args RX7) {a0 : Nat} {a1 : Int32} {K : Int32 → Wd → Prop} {D MC MS : Nat} (hq : isK w a0 1) (h : w_X1_hasWell a0 a1 K w) (hD : 0 + 1 ≤ D) (hW : (st.map fun v => v.category).sum ≤ 8) (hij : i ≤ MC ∧ j ≤ MS) (hd : decode cc pc = .ok (.invokevirtual 214, 3)) (k : ∀ (r : Int32) (u : Wd), K r u → GW x p l e (rmd D MC MS) s m args below meth c nL Q (pc + 3) lo (.int r :: st) u i j) : GW x p l e (rmd D MC MS) s m args below meth c nL Q pc lo (.int a1 :: .ref (adr x a0) :: st) w i j := g_callVi0 C (As := [.int a1]) (ci := 1) (c_X1_hasWell h) (x_cwV C 1 LMX7_214 ⟨rfl, by decide, by decide, rfl⟩ hD (by decide)) rfl hq (by decide) rfl rfl hW hd hij k
def w_X7_expectToldWell (a0 : Nat) (a1 : Int32) (K : Int32 → Wd → Prop) (w : Wd) : Prop :=
  isK w a0 7 ∧ (((wI w a0 8) = 1 → isK w (wR w a0 3) 1 ∧ w_X1_hasWell (wR w a0 3) (wI w a0 9) (fun r4 w5 => ((r4 = 0 → isK w5 a0 7 ∧ w_X7_refuse a0 3 (fun r8 w9 => (r8 = 0 ∨ r8 = 1) ∧ K r8 w9) w5) ∧ (¬ r4 = 0 → isK w5 a0 7 ∧ (((wI w5 a0 9) = a1 → w_X7_refuse a0 3 (fun r14 w15 => (r14 = 0 ∨ r14 = 1) ∧ K r14 w15) w5) ∧ (¬ (wI w5 a0 9) = a1 → w_X7_advance a0 (fun r12 w13 => (r12 = 0 ∨ r12 = 1) ∧ K r12 w13) (uI w5 a0 10 (wI w5 a0 9))))))) w) ∧ (¬ (wI w a0 8) = 1 → w_X7_refuse a0 2 (fun r16 w17 => (r16 = 0 ∨ r16 = 1) ∧ K r16 w17) w))
theorem c_X7_expectToldWell {x : xG} {l : Launch} {a0 : Nat} {a1 : Int32} {K : Int32 → Wd → Prop} {w : Wd} (h : w_X7_expectToldWell a0 a1 K w) : Met l yX7_expectToldWell (xws yX7_expectToldWell cX7_expectToldWell 2 (some .boolean)) (rmd 2 0 0) (xPc x [.ref (adr x a0), .int a1] w) (QcI x K) 0 0 (xA x) := by
  refine xMet (by decide) (Nat.le_of_ble_eq_true rfl) (fun p e s m below meth c C hlk hr _ => ?_)
  show GW x p l e (rmd 2 0 0) s m [.ref (adr x a0), .int a1].toArray below meth c 2 (QI x K below [.ref (adr x a0), .int a1].toArray s 0 0) 0 [(0, .ref (adr x a0)), (1, .int a1)] [] w 0 0
  refine g_aload_n (pc := 0) C dX7_expectToldWell_0 (q := 0) rfl ?_
  obtain ⟨k1, h⟩ := h
  refine gfX7_34 (pc := 1) C k1 dX7_expectToldWell_1 ?_
  refine g_iconst (pc := 4) C dX7_expectToldWell_4 (v := 1) rfl ?_
  refine g_icmp_eq (pc := 5) C dX7_expectToldWell_5 (tgt := 14) rfl (fun z2 => ?_) (fun z2 => ?_)
  · replace h := h.1 z2
    refine g_aload_n (pc := 14) C dX7_expectToldWell_14 (q := 0) rfl ?_
    obtain ⟨k3, h⟩ := h
    refine gfX7_50 (pc := 15) C k1 (isK_ne k3) dX7_expectToldWell_15 ?_
    refine g_aload_n (pc := 18) C dX7_expectToldWell_18 (q := 0) rfl ?_
    refine gfX7_37 (pc := 19) C k1 dX7_expectToldWell_19 ?_
    refine miX7_214 (pc := 22) C k3 h (Nat.le_of_ble_eq_true rfl) (Nat.le_of_ble_eq_true rfl) ⟨Nat.le_refl _, Nat.le_refl _⟩ dX7_expectToldWell_22 (fun r4 w5 h => ?_)
    refine g_if_eq (pc := 25) C dX7_expectToldWell_25 (tgt := 36) rfl (fun z6 => ?_) (fun z6 => ?_)
    · replace h := h.1 z6
      refine g_aload_n (pc := 36) C dX7_expectToldWell_36 (q := 0) rfl ?_
      refine g_iconst (pc := 37) C dX7_expectToldWell_37 (v := 3) rfl ?_
      obtain ⟨k7, h⟩ := h
      refine miX7_100 (pc := 38) C k7 h (Nat.le_of_ble_eq_true rfl) (Nat.le_of_ble_eq_true rfl) ⟨Nat.le_refl _, Nat.le_refl _⟩ dX7_expectToldWell_38 (fun r8 w9 h => ?_)
      exact g_zret (pc := 41) C hlk hr (Nat.le_refl _) (Nat.le_refl _) dX7_expectToldWell_41 h.1 h.2
    · replace h := h.2 z6
      refine g_aload_n (pc := 28) C dX7_expectToldWell_28 (q := 0) rfl ?_
      obtain ⟨k10, h⟩ := h
      refine gfX7_37 (pc := 29) C k10 dX7_expectToldWell_29 ?_
      refine g_iload_n (pc := 32) C dX7_expectToldWell_32 (q := 1) rfl ?_
      refine g_icmp_ne (pc := 33) C dX7_expectToldWell_33 (tgt := 42) rfl (fun z11 => ?_) (fun z11 => ?_)
      · replace h := h.2 z11
        refine g_aload_n (pc := 42) C dX7_expectToldWell_42 (q := 0) rfl ?_
        refine g_aload_n (pc := 43) C dX7_expectToldWell_43 (q := 0) rfl ?_
        refine gfX7_37 (pc := 44) C k10 dX7_expectToldWell_44 ?_
        refine pfX7_40 (pc := 47) C k10 dX7_expectToldWell_47 ?_
        refine g_aload_n (pc := 50) C dX7_expectToldWell_50 (q := 0) rfl ?_
        refine miX7_57 (pc := 51) (w := uI w5 a0 10 (wI w5 a0 9)) C k10 h (Nat.le_of_ble_eq_true rfl) (Nat.le_of_ble_eq_true rfl) ⟨Nat.le_refl _, Nat.le_refl _⟩ dX7_expectToldWell_51 (fun r12 w13 h => ?_)
        exact g_zret (pc := 54) C hlk hr (Nat.le_refl _) (Nat.le_refl _) dX7_expectToldWell_54 h.1 h.2
      · replace h := h.1 z11
        refine g_aload_n (pc := 36) C dX7_expectToldWell_36 (q := 0) rfl ?_
        refine g_iconst (pc := 37) C dX7_expectToldWell_37 (v := 3) rfl ?_
        refine miX7_100 (pc := 38) C k10 h (Nat.le_of_ble_eq_true rfl) (Nat.le_of_ble_eq_true rfl) ⟨Nat.le_refl _, Nat.le_refl _⟩ dX7_expectToldWell_38 (fun r14 w15 h => ?_)
        exact g_zret (pc := 41) C hlk hr (Nat.le_refl _) (Nat.le_refl _) dX7_expectToldWell_41 h.1 h.2
  · replace h := h.2 z2
    refine g_aload_n (pc := 8) C dX7_expectToldWell_8 (q := 0) rfl ?_
    refine g_iconst (pc := 9) C dX7_expectToldWell_9 (v := 2) rfl ?_
    refine miX7_100 (pc := 10) C k1 h (Nat.le_of_ble_eq_true rfl) (Nat.le_of_ble_eq_true rfl) ⟨Nat.le_refl _, Nat.le_refl _⟩ dX7_expectToldWell_10 (fun r16 w17 h => ?_)
    exact g_zret (pc := 13) C hlk hr (Nat.le_refl _) (Nat.le_refl _) dX7_expectToldWell_13 h.1 h.2
def w_X7_mayNest (a0 : Nat) (a1 : Int32) (K : Int32 → Wd → Prop) (w : Wd) : Prop :=
  ((a1 < 6 → K 1 w) ∧ (¬ a1 < 6 → isK w a0 7 ∧ w_X7_refuse a0 4 (fun r3 w4 => ((r3 = 0 → K 0 w4) ∧ (¬ r3 = 0 → K 1 w4))) w))
theorem c_X7_mayNest {x : xG} {l : Launch} {a0 : Nat} {a1 : Int32} {K : Int32 → Wd → Prop} {w : Wd} (h : w_X7_mayNest a0 a1 K w) : Met l yX7_mayNest (xws yX7_mayNest cX7_mayNest 2 (some .boolean)) (rmd 1 0 0) (xPc x [.ref (adr x a0), .int a1] w) (QcI x K) 0 0 (xA x) := by
  refine xMet (by decide) (Nat.le_of_ble_eq_true rfl) (fun p e s m below meth c C hlk hr _ => ?_)
  show GW x p l e (rmd 1 0 0) s m [.ref (adr x a0), .int a1].toArray below meth c 2 (QI x K below [.ref (adr x a0), .int a1].toArray s 0 0) 0 [(0, .ref (adr x a0)), (1, .int a1)] [] w 0 0
  refine g_iload_n (pc := 0) C dX7_mayNest_0 (q := 1) rfl ?_
  refine g_bipush (pc := 1) C dX7_mayNest_1 (v := 6) rfl ?_
  refine g_icmp_lt (pc := 3) C dX7_mayNest_3 (tgt := 14) rfl (fun z1 => ?_) (fun z1 => ?_)
  · replace h := h.1 z1
    refine g_iconst (pc := 14) C dX7_mayNest_14 (v := 1) rfl ?_
    refine g_goto (pc := 15) C dX7_mayNest_15 (tgt := 19) rfl ?_
    exact g_zret (pc := 19) C hlk hr (Nat.le_refl _) (Nat.le_refl _) dX7_mayNest_19 (Or.inr rfl) h
  · replace h := h.2 z1
    refine g_aload_n (pc := 6) C dX7_mayNest_6 (q := 0) rfl ?_
    refine g_iconst (pc := 7) C dX7_mayNest_7 (v := 4) rfl ?_
    obtain ⟨k2, h⟩ := h
    refine miX7_100 (pc := 8) C k2 h (Nat.le_of_ble_eq_true rfl) (Nat.le_of_ble_eq_true rfl) ⟨Nat.le_refl _, Nat.le_refl _⟩ dX7_mayNest_8 (fun r3 w4 h => ?_)
    refine g_if_eq (pc := 11) C dX7_mayNest_11 (tgt := 18) rfl (fun z5 => ?_) (fun z5 => ?_)
    · replace h := h.1 z5
      refine g_iconst (pc := 18) C dX7_mayNest_18 (v := 0) rfl ?_
      exact g_zret (pc := 19) C hlk hr (Nat.le_refl _) (Nat.le_refl _) dX7_mayNest_19 (Or.inl rfl) h
    · replace h := h.2 z5
      refine g_iconst (pc := 14) C dX7_mayNest_14 (v := 1) rfl ?_
      refine g_goto (pc := 15) C dX7_mayNest_15 (tgt := 19) rfl ?_
      exact g_zret (pc := 19) C hlk hr (Nat.le_refl _) (Nat.le_refl _) dX7_mayNest_19 (Or.inr rfl) h
theorem miX7_132 (C : xC x p s m c cc nL args RX7) {a0 : Nat} {a1 : Int32} {K : Int32 → Wd → Prop} {D MC MS : Nat} (hq : isK w a0 7) (h : w_X7_expectToldWell a0 a1 K w) (hD : 2 + 1 ≤ D) (hW : (st.map fun v => v.category).sum ≤ 8) (hij : i ≤ MC ∧ j ≤ MS) (hd : decode cc pc = .ok (.invokevirtual 132, 3)) (k : ∀ (r : Int32) (u : Wd), K r u → GW x p l e (rmd D MC MS) s m args below meth c nL Q (pc + 3) lo (.int r :: st) u i j) : GW x p l e (rmd D MC MS) s m args below meth c nL Q pc lo (.int a1 :: .ref (adr x a0) :: st) w i j := g_callVi0 C (As := [.int a1]) (ci := 7) (c_X7_expectToldWell h) (x_cwV C 1 LMX7_132 ⟨rfl, by decide, by decide, rfl⟩ hD (by decide)) rfl hq (by decide) rfl rfl hW hd hij k
theorem miX7_135 (C : xC x p s m c cc nL args RX7) {a0 : Nat} {a1 : Int32} {a2 : Int32} {K : Wd → Prop} {D MC MS : Nat} (hq : isK w a0 1) (h : w_X1_joinWells a0 a1 a2 K w) (hD : 1 + 1 ≤ D) (hW : (st.map fun v => v.category).sum ≤ 8) (hij : i ≤ MC ∧ j ≤ MS) (hd : decode cc pc = .ok (.invokevirtual 135, 3)) (k : ∀ (u : Wd), K u → GW x p l e (rmd D MC MS) s m args below meth c nL Q (pc + 3) lo st u i j) : GW x p l e (rmd D MC MS) s m args below meth c nL Q pc lo (.int a2 :: .int a1 :: .ref (adr x a0) :: st) w i j := g_callVv0 C (As := [.int a1, .int a2]) (ci := 1) (c_X1_joinWells h) (x_cwV C 2 LMX7_135 ⟨rfl, by decide, by decide, rfl⟩ hD (by decide)) rfl hq (by decide) rfl rfl hW hd hij k
def w_X7_readBeside (a0 : Nat) (K : Int32 → Wd → Prop) (w : Wd) : Prop :=
  isK w a0 7 ∧ w_X7_advance a0 (fun r2 w3 => ((r2 = 0 → K 0 w3) ∧ (¬ r2 = 0 → isK w3 a0 7 ∧ w_X7_expectToldWell a0 (-1) (fun r6 w7 => ((r6 = 0 → K 0 w7) ∧ (¬ r6 = 0 → isK w7 a0 7 ∧ w_X7_expectToldWell a0 (wI w7 a0 10) (fun r10 w11 => ((r10 = 0 → K 0 w11) ∧ (¬ r10 = 0 → isK w11 a0 7 ∧ isK w11 (wR w11 a0 3) 1 ∧ w_X1_joinWells (wR w11 a0 3) (wI w7 a0 10) (wI w11 a0 10) (fun w15 => K 1 w15) w11))) w7))) w3))) w
theorem c_X7_readBeside {x : xG} {l : Launch} {a0 : Nat} {K : Int32 → Wd → Prop} {w : Wd} (h : w_X7_readBeside a0 K w) : Met l yX7_readBeside (xws yX7_readBeside cX7_readBeside 2 (some .boolean)) (rmd 3 0 0) (xPc x [.ref (adr x a0)] w) (QcI x K) 0 0 (xA x) := by
  refine xMet (by decide) (Nat.le_of_ble_eq_true rfl) (fun p e s m below meth c C hlk hr _ => ?_)
  show GW x p l e (rmd 3 0 0) s m [.ref (adr x a0)].toArray below meth c 2 (QI x K below [.ref (adr x a0)].toArray s 0 0) 0 [(0, .ref (adr x a0))] [] w 0 0
  refine g_aload_n (pc := 0) C dX7_readBeside_0 (q := 0) rfl ?_
  obtain ⟨k1, h⟩ := h
  refine miX7_57 (pc := 1) C k1 h (Nat.le_of_ble_eq_true rfl) (Nat.le_of_ble_eq_true rfl) ⟨Nat.le_refl _, Nat.le_refl _⟩ dX7_readBeside_1 (fun r2 w3 h => ?_)
  refine g_if_eq (pc := 4) C dX7_readBeside_4 (tgt := 15) rfl (fun z4 => ?_) (fun z4 => ?_)
  · replace h := h.1 z4
    refine g_iconst (pc := 15) C dX7_readBeside_15 (v := 0) rfl ?_
    exact g_zret (pc := 16) C hlk hr (Nat.le_refl _) (Nat.le_refl _) dX7_readBeside_16 (Or.inl rfl) h
  · replace h := h.2 z4
    refine g_aload_n (pc := 7) C dX7_readBeside_7 (q := 0) rfl ?_
    refine g_iconst (pc := 8) C dX7_readBeside_8 (v := (-1)) rfl ?_
    obtain ⟨k5, h⟩ := h
    refine miX7_132 (pc := 9) C k5 h (Nat.le_of_ble_eq_true rfl) (Nat.le_of_ble_eq_true rfl) ⟨Nat.le_refl _, Nat.le_refl _⟩ dX7_readBeside_9 (fun r6 w7 h => ?_)
    refine g_if_ne (pc := 12) C dX7_readBeside_12 (tgt := 17) rfl (fun z8 => ?_) (fun z8 => ?_)
    · replace h := h.2 z8
      refine g_aload_n (pc := 17) C dX7_readBeside_17 (q := 0) rfl ?_
      obtain ⟨k9, h⟩ := h
      refine gfX7_40 (pc := 18) C k9 dX7_readBeside_18 ?_
      refine g_istore_n (pc := 21) C dX7_readBeside_21 (Nat.le_of_ble_eq_true rfl) (lo' := [(1, .int (wI w7 a0 10)), (0, .ref (adr x a0))]) rfl ?_
      refine g_aload_n (pc := 22) C dX7_readBeside_22 (q := 1) rfl ?_
      refine g_iload_n (pc := 23) C dX7_readBeside_23 (q := 0) rfl ?_
      refine miX7_132 (pc := 24) C k9 h (Nat.le_of_ble_eq_true rfl) (Nat.le_of_ble_eq_true rfl) ⟨Nat.le_refl _, Nat.le_refl _⟩ dX7_readBeside_24 (fun r10 w11 h => ?_)
      refine g_if_ne (pc := 27) C dX7_readBeside_27 (tgt := 32) rfl (fun z12 => ?_) (fun z12 => ?_)
      · replace h := h.2 z12
        refine g_aload_n (pc := 32) C dX7_readBeside_32 (q := 1) rfl ?_
        obtain ⟨k13, h⟩ := h
        obtain ⟨k14, h⟩ := h
        refine gfX7_50 (pc := 33) C k13 (isK_ne k14) dX7_readBeside_33 ?_
        refine g_iload_n (pc := 36) C dX7_readBeside_36 (q := 0) rfl ?_
        refine g_aload_n (pc := 37) C dX7_readBeside_37 (q := 1) rfl ?_
        refine gfX7_40 (pc := 38) C k13 dX7_readBeside_38 ?_
        refine miX7_135 (pc := 41) C k14 h (Nat.le_of_ble_eq_true rfl) (Nat.le_of_ble_eq_true rfl) ⟨Nat.le_refl _, Nat.le_refl _⟩ dX7_readBeside_41 (fun w15 h => ?_)
        refine g_iconst (pc := 44) C dX7_readBeside_44 (v := 1) rfl ?_
        exact g_zret (pc := 45) C hlk hr (Nat.le_refl _) (Nat.le_refl _) dX7_readBeside_45 (Or.inr rfl) h
      · replace h := h.1 z12
        refine g_iconst (pc := 30) C dX7_readBeside_30 (v := 0) rfl ?_
        exact g_zret (pc := 31) C hlk hr (Nat.le_refl _) (Nat.le_refl _) dX7_readBeside_31 (Or.inl rfl) h
    · replace h := h.1 z8
      refine g_iconst (pc := 15) C dX7_readBeside_15 (v := 0) rfl ?_
      exact g_zret (pc := 16) C hlk hr (Nat.le_refl _) (Nat.le_refl _) dX7_readBeside_16 (Or.inl rfl) h
theorem miX7_112 (C : xC x p s m c cc nL args RX7) {a0 : Nat} {a1 : Int32} {a2 : Int32} {K : Int32 → Wd → Prop} {D MC MS : Nat} (hq : isK w a0 7) (h : w_X7_expectNumber a0 a1 a2 K w) (hD : 2 + 1 ≤ D) (hW : (st.map fun v => v.category).sum ≤ 8) (hij : i ≤ MC ∧ j ≤ MS) (hd : decode cc pc = .ok (.invokevirtual 112, 3)) (k : ∀ (r : Int32) (u : Wd), K r u → GW x p l e (rmd D MC MS) s m args below meth c nL Q (pc + 3) lo (.int r :: st) u i j) : GW x p l e (rmd D MC MS) s m args below meth c nL Q pc lo (.int a2 :: .int a1 :: .ref (adr x a0) :: st) w i j := g_callVi0 C (As := [.int a1, .int a2]) (ci := 7) (c_X7_expectNumber h) (x_cwV C 2 LMX7_112 ⟨rfl, by decide, by decide, rfl⟩ hD (by decide)) rfl hq (by decide) rfl rfl hW hd hij k
def w_X7_readHour (a0 : Nat) (K : Int32 → Wd → Prop) (w : Wd) : Prop :=
  isK w a0 7 ∧ w_X7_advance a0 (fun r2 w3 => ((r2 = 0 → K 0 w3) ∧ (¬ r2 = 0 → isK w3 a0 7 ∧ w_X7_expectNumber a0 0 999 (fun r6 w7 => ((r6 = 0 → K 0 w7) ∧ (¬ r6 = 0 → isK w7 a0 7 ∧ isK w7 (wR w7 a0 3) 1 ∧ K 1 (uI w7 (wR w7 a0 3) 3 (wI w7 a0 10))))) w3))) w
theorem c_X7_readHour {x : xG} {l : Launch} {a0 : Nat} {K : Int32 → Wd → Prop} {w : Wd} (h : w_X7_readHour a0 K w) : Met l yX7_readHour (xws yX7_readHour cX7_readHour 1 (some .boolean)) (rmd 3 0 0) (xPc x [.ref (adr x a0)] w) (QcI x K) 0 0 (xA x) := by
  refine xMet (by decide) (Nat.le_of_ble_eq_true rfl) (fun p e s m below meth c C hlk hr _ => ?_)
  show GW x p l e (rmd 3 0 0) s m [.ref (adr x a0)].toArray below meth c 1 (QI x K below [.ref (adr x a0)].toArray s 0 0) 0 [(0, .ref (adr x a0))] [] w 0 0
  refine g_aload_n (pc := 0) C dX7_readHour_0 (q := 0) rfl ?_
  obtain ⟨k1, h⟩ := h
  refine miX7_57 (pc := 1) C k1 h (Nat.le_of_ble_eq_true rfl) (Nat.le_of_ble_eq_true rfl) ⟨Nat.le_refl _, Nat.le_refl _⟩ dX7_readHour_1 (fun r2 w3 h => ?_)
  refine g_if_eq (pc := 4) C dX7_readHour_4 (tgt := 18) rfl (fun z4 => ?_) (fun z4 => ?_)
  · replace h := h.1 z4
    refine g_iconst (pc := 18) C dX7_readHour_18 (v := 0) rfl ?_
    exact g_zret (pc := 19) C hlk hr (Nat.le_refl _) (Nat.le_refl _) dX7_readHour_19 (Or.inl rfl) h
  · replace h := h.2 z4
    refine g_aload_n (pc := 7) C dX7_readHour_7 (q := 0) rfl ?_
    refine g_iconst (pc := 8) C dX7_readHour_8 (v := 0) rfl ?_
    refine g_sipush (pc := 9) C dX7_readHour_9 (v := 999) rfl ?_
    obtain ⟨k5, h⟩ := h
    refine miX7_112 (pc := 12) C k5 h (Nat.le_of_ble_eq_true rfl) (Nat.le_of_ble_eq_true rfl) ⟨Nat.le_refl _, Nat.le_refl _⟩ dX7_readHour_12 (fun r6 w7 h => ?_)
    refine g_if_ne (pc := 15) C dX7_readHour_15 (tgt := 20) rfl (fun z8 => ?_) (fun z8 => ?_)
    · replace h := h.2 z8
      refine g_aload_n (pc := 20) C dX7_readHour_20 (q := 0) rfl ?_
      obtain ⟨k9, h⟩ := h
      obtain ⟨k10, h⟩ := h
      refine gfX7_50 (pc := 21) C k9 (isK_ne k10) dX7_readHour_21 ?_
      refine g_aload_n (pc := 24) C dX7_readHour_24 (q := 0) rfl ?_
      refine gfX7_40 (pc := 25) C k9 dX7_readHour_25 ?_
      refine pfX7_147 (pc := 28) C k10 dX7_readHour_28 ?_
      refine g_iconst (pc := 31) C dX7_readHour_31 (v := 1) rfl ?_
      exact g_zret (pc := 32) C hlk hr (Nat.le_refl _) (Nat.le_refl _) dX7_readHour_32 (Or.inr rfl) h
    · replace h := h.1 z8
      refine g_iconst (pc := 18) C dX7_readHour_18 (v := 0) rfl ?_
      exact g_zret (pc := 19) C hlk hr (Nat.le_refl _) (Nat.le_refl _) dX7_readHour_19 (Or.inl rfl) h
theorem miX11_165 (C : xC x p s m c cc nL args RX11) {a0 : Nat} {K : Int32 → Wd → Prop} {D MC MS : Nat} (hq : isK w a0 2) (h : w_X2_awakeBits a0 K w) (hD : 2 + 1 ≤ D) (hW : (st.map fun v => v.category).sum ≤ 8) (hij : i ≤ MC ∧ j ≤ MS) (hd : decode cc pc = .ok (.invokevirtual 165, 3)) (k : ∀ (r : Int32) (u : Wd), K r u → GW x p l e (rmd D MC MS) s m args below meth c nL Q (pc + 3) lo (.int r :: st) u i j) : GW x p l e (rmd D MC MS) s m args below meth c nL Q pc lo (.ref (adr x a0) :: st) w i j := g_callVi0 C (As := []) (ci := 2) (c_X2_awakeBits h) (x_cwV C 0 LMX11_165 ⟨rfl, by decide, by decide, rfl⟩ hD (by decide)) rfl hq (by decide) rfl rfl hW hd hij k
def w_X11_awake (a0 : Nat) (K : Int32 → Wd → Prop) (w : Wd) : Prop :=
  isK w a0 11 ∧ isK w (wR w a0 0) 5 ∧ isK w (wR w (wR w a0 0) 0) 2 ∧ w_X2_awakeBits (wR w (wR w a0 0) 0) (fun r4 w5 => K r4 w5) w
theorem c_X11_awake {x : xG} {l : Launch} {a0 : Nat} {K : Int32 → Wd → Prop} {w : Wd} (h : w_X11_awake a0 K w) : Met l yX11_awake (xws yX11_awake cX11_awake 1 (some .int)) (rmd 3 0 0) (xPc x [.ref (adr x a0)] w) (QcI x K) 0 0 (xA x) := by
  refine xMet (by decide) (Nat.le_of_ble_eq_true rfl) (fun p e s m below meth c C hlk hr _ => ?_)
  show GW x p l e (rmd 3 0 0) s m [.ref (adr x a0)].toArray below meth c 1 (QI x K below [.ref (adr x a0)].toArray s 0 0) 0 [(0, .ref (adr x a0))] [] w 0 0
  refine g_aload_n (pc := 0) C dX11_awake_0 (q := 0) rfl ?_
  obtain ⟨k1, h⟩ := h
  obtain ⟨k2, h⟩ := h
  refine gfX11_49 (pc := 1) C k1 (isK_ne k2) dX11_awake_1 ?_
  obtain ⟨k3, h⟩ := h
  refine gfX11_122 (pc := 4) C k2 (isK_ne k3) dX11_awake_4 ?_
  refine miX11_165 (pc := 7) C k3 h (Nat.le_of_ble_eq_true rfl) (Nat.le_of_ble_eq_true rfl) ⟨Nat.le_refl _, Nat.le_refl _⟩ dX11_awake_7 (fun r4 w5 h => ?_)
  exact g_iret (pc := 10) C hlk hr (Nat.le_refl _) (Nat.le_refl _) dX11_awake_10 h
theorem miX11_176 (C : xC x p s m c cc nL args RX11) {a0 : Nat} {K : Wd → Prop} {D MC MS : Nat} (hq : isK w a0 5) (h : w_X5_remember a0 K w) (hD : 2 + 1 ≤ D) (hW : (st.map fun v => v.category).sum ≤ 8) (hij : i ≤ MC ∧ j ≤ MS) (hd : decode cc pc = .ok (.invokevirtual 176, 3)) (k : ∀ (u : Wd), K u → GW x p l e (rmd D MC MS) s m args below meth c nL Q (pc + 3) lo st u i j) : GW x p l e (rmd D MC MS) s m args below meth c nL Q pc lo (.ref (adr x a0) :: st) w i j := g_callVv0 C (As := []) (ci := 5) (c_X5_remember h) (x_cwV C 0 LMX11_176 ⟨rfl, by decide, by decide, rfl⟩ hD (by decide)) rfl hq (by decide) rfl rfl hW hd hij k
theorem miX11_222 (C : xC x p s m c cc nL args RX11) {a0 : Nat} {a1 : Int64} {K : Int32 → Wd → Prop} {D MC MS : Nat} (h : w_X0_whyNotTold a0 a1 K w) (hD : 4 + 1 ≤ D) (hW : (st.map fun v => v.category).sum ≤ 8) (hij : i ≤ MC ∧ j ≤ MS) (hd : decode cc pc = .ok (.invokestatic 222, 3)) (k : ∀ (r : Int32) (u : Wd), K r u → GW x p l e (rmd D MC MS) s m args below meth c nL Q (pc + 3) lo (.int r :: st) u i j) : GW x p l e (rmd D MC MS) s m args below meth c nL Q pc lo (.long a1 :: .ref (adr x a0) :: st) w i j := g_callSi0 C (As := [.ref (adr x a0), .long a1]) (c_X0_whyNotTold h) (x_cwS C 2 LMX11_222 ⟨by decide, by decide, rfl⟩ hD (by decide)) rfl rfl hW hd hij k
theorem miX11_226 (C : xC x p s m c cc nL args RX11) {a0 : Nat} {a1 : Nat} {a2 : Int64} {K : Wd → Prop} {D MC MS : Nat} (hq : isK w a0 0) (h : w_X0_carryOut a0 a1 a2 K w) (hD : 5 + 1 ≤ D) (hW : (st.map fun v => v.category).sum ≤ 8) (hij : i ≤ MC ∧ j ≤ MS) (hd : decode cc pc = .ok (.invokevirtual 226, 3)) (k : ∀ (u : Wd), K u → GW x p l e (rmd D MC MS) s m args below meth c nL Q (pc + 3) lo st u i j) : GW x p l e (rmd D MC MS) s m args below meth c nL Q pc lo (.long a2 :: .ref (adr x a1) :: .ref (adr x a0) :: st) w i j := g_callVv0 C (As := [.ref (adr x a1), .long a2]) (ci := 0) (c_X0_carryOut h) (x_cwV C 2 LMX11_226 ⟨rfl, by decide, by decide, rfl⟩ hD (by decide)) rfl hq (by decide) rfl rfl hW hd hij k
def w_X11_carryOutIfCan (a0 : Nat) (a1 : Int64) (K : Int32 → Wd → Prop) (w : Wd) : Prop :=
  isK w a0 11 ∧ isK w (wR w a0 0) 5 ∧ isK w (wR w (wR w a0 0) 0) 2 ∧ w_X0_whyNotTold (wR w (wR w a0 0) 0) a1 (fun r4 w5 => ((r4 = 0 → isK w5 a0 11 ∧ isK w5 (wR w5 a0 0) 5 ∧ w_X5_remember (wR w5 a0 0) (fun w9 => isK w9 a0 11 ∧ isK w9 (wR w9 a0 6) 0 ∧ isK w9 (wR w9 a0 0) 5 ∧ isK w9 (wR w9 (wR w9 a0 0) 0) 2 ∧ w_X0_carryOut (wR w9 a0 6) (wR w9 (wR w9 a0 0) 0) a1 (fun w14 => K 1 w14) w9) w5) ∧ (¬ r4 = 0 → K 0 w5))) w
theorem c_X11_carryOutIfCan {x : xG} {l : Launch} {a0 : Nat} {a1 : Int64} {K : Int32 → Wd → Prop} {w : Wd} (h : w_X11_carryOutIfCan a0 a1 K w) : Met l yX11_carryOutIfCan (xws yX11_carryOutIfCan cX11_carryOutIfCan 3 (some .boolean)) (rmd 6 0 0) (xPc x [.ref (adr x a0), .long a1] w) (QcI x K) 0 0 (xA x) := by
  refine xMet (by decide) (Nat.le_of_ble_eq_true rfl) (fun p e s m below meth c C hlk hr _ => ?_)
  show GW x p l e (rmd 6 0 0) s m [.ref (adr x a0), .long a1].toArray below meth c 3 (QI x K below [.ref (adr x a0), .long a1].toArray s 0 0) 0 [(0, .ref (adr x a0)), (1, .long a1)] [] w 0 0
  refine g_aload_n (pc := 0) C dX11_carryOutIfCan_0 (q := 0) rfl ?_
  obtain ⟨k1, h⟩ := h
  obtain ⟨k2, h⟩ := h
  refine gfX11_49 (pc := 1) C k1 (isK_ne k2) dX11_carryOutIfCan_1 ?_
  obtain ⟨k3, h⟩ := h
  refine gfX11_122 (pc := 4) C k2 (isK_ne k3) dX11_carryOutIfCan_4 ?_
  refine g_lload_n (pc := 7) C dX11_carryOutIfCan_7 (q := 1) rfl ?_
  refine miX11_222 (pc := 8) C h (Nat.le_of_ble_eq_true rfl) (Nat.le_of_ble_eq_true rfl) ⟨Nat.le_refl _, Nat.le_refl _⟩ dX11_carryOutIfCan_8 (fun r4 w5 h => ?_)
  refine g_if_eq (pc := 11) C dX11_carryOutIfCan_11 (tgt := 16) rfl (fun z6 => ?_) (fun z6 => ?_)
  · replace h := h.1 z6
    refine g_aload_n (pc := 16) C dX11_carryOutIfCan_16 (q := 0) rfl ?_
    obtain ⟨k7, h⟩ := h
    obtain ⟨k8, h⟩ := h
    refine gfX11_49 (pc := 17) C k7 (isK_ne k8) dX11_carryOutIfCan_17 ?_
    refine miX11_176 (pc := 20) C k8 h (Nat.le_of_ble_eq_true rfl) (Nat.le_of_ble_eq_true rfl) ⟨Nat.le_refl _, Nat.le_refl _⟩ dX11_carryOutIfCan_20 (fun w9 h => ?_)
    refine g_aload_n (pc := 23) C dX11_carryOutIfCan_23 (q := 0) rfl ?_
    obtain ⟨k10, h⟩ := h
    obtain ⟨k11, h⟩ := h
    refine gfX11_74 (pc := 24) C k10 (isK_ne k11) dX11_carryOutIfCan_24 ?_
    refine g_aload_n (pc := 27) C dX11_carryOutIfCan_27 (q := 0) rfl ?_
    obtain ⟨k12, h⟩ := h
    refine gfX11_49 (pc := 28) C k10 (isK_ne k12) dX11_carryOutIfCan_28 ?_
    obtain ⟨k13, h⟩ := h
    refine gfX11_122 (pc := 31) C k12 (isK_ne k13) dX11_carryOutIfCan_31 ?_
    refine g_lload_n (pc := 34) C dX11_carryOutIfCan_34 (q := 1) rfl ?_
    refine miX11_226 (pc := 35) C k11 h (Nat.le_of_ble_eq_true rfl) (Nat.le_of_ble_eq_true rfl) ⟨Nat.le_refl _, Nat.le_refl _⟩ dX11_carryOutIfCan_35 (fun w14 h => ?_)
    refine g_iconst (pc := 38) C dX11_carryOutIfCan_38 (v := 1) rfl ?_
    exact g_zret (pc := 39) C hlk hr (Nat.le_refl _) (Nat.le_refl _) dX11_carryOutIfCan_39 (Or.inr rfl) h
  · replace h := h.2 z6
    refine g_iconst (pc := 14) C dX11_carryOutIfCan_14 (v := 0) rfl ?_
    exact g_zret (pc := 15) C hlk hr (Nat.le_refl _) (Nat.le_refl _) dX11_carryOutIfCan_15 (Or.inl rfl) h
theorem miX11_189 (C : xC x p s m c cc nL args RX11) {a0 : Nat} {a1 : Int32} {K : Int32 → Wd → Prop} {D MC MS : Nat} (h : w_X0_whyNotCoin a0 a1 K w) (hD : 3 + 1 ≤ D) (hW : (st.map fun v => v.category).sum ≤ 8) (hij : i ≤ MC ∧ j ≤ MS) (hd : decode cc pc = .ok (.invokestatic 189, 3)) (k : ∀ (r : Int32) (u : Wd), K r u → GW x p l e (rmd D MC MS) s m args below meth c nL Q (pc + 3) lo (.int r :: st) u i j) : GW x p l e (rmd D MC MS) s m args below meth c nL Q pc lo (.int a1 :: .ref (adr x a0) :: st) w i j := g_callSi0 C (As := [.ref (adr x a0), .int a1]) (c_X0_whyNotCoin h) (x_cwS C 2 LMX11_189 ⟨by decide, by decide, rfl⟩ hD (by decide)) rfl rfl hW hd hij k
theorem miX11_192 (C : xC x p s m c cc nL args RX11) {a0 : Nat} {a1 : Nat} {a2 : Int32} {K : Int32 → Wd → Prop} {D MC MS : Nat} (hq : isK w a0 0) (h : w_X0_coinInto a0 a1 a2 K w) (hD : 4 + 1 ≤ D) (hW : (st.map fun v => v.category).sum ≤ 8) (hij : i ≤ MC ∧ j ≤ MS) (hd : decode cc pc = .ok (.invokevirtual 192, 3)) (k : ∀ (r : Int32) (u : Wd), K r u → GW x p l e (rmd D MC MS) s m args below meth c nL Q (pc + 3) lo (.int r :: st) u i j) : GW x p l e (rmd D MC MS) s m args below meth c nL Q pc lo (.int a2 :: .ref (adr x a1) :: .ref (adr x a0) :: st) w i j := g_callVi0 C (As := [.ref (adr x a1), .int a2]) (ci := 0) (c_X0_coinInto h) (x_cwV C 2 LMX11_192 ⟨rfl, by decide, by decide, rfl⟩ hD (by decide)) rfl hq (by decide) rfl rfl hW hd hij k
def w_X11_coin (a0 : Nat) (a1 : Int32) (K : Int32 → Wd → Prop) (w : Wd) : Prop :=
  isK w a0 11 ∧ isK w (wR w a0 0) 5 ∧ isK w (wR w (wR w a0 0) 0) 2 ∧ w_X0_whyNotCoin (wR w (wR w a0 0) 0) a1 (fun r4 w5 => ((r4 = 0 → isK w5 a0 11 ∧ isK w5 (wR w5 a0 0) 5 ∧ w_X5_remember (wR w5 a0 0) (fun w9 => isK w9 a0 11 ∧ isK w9 (wR w9 a0 6) 0 ∧ isK w9 (wR w9 a0 0) 5 ∧ isK w9 (wR w9 (wR w9 a0 0) 0) 2 ∧ w_X0_coinInto (wR w9 a0 6) (wR w9 (wR w9 a0 0) 0) a1 (fun r14 w15 => K r14 w15) w9) w5) ∧ (¬ r4 = 0 → K (-r4) w5))) w
theorem c_X11_coin {x : xG} {l : Launch} {a0 : Nat} {a1 : Int32} {K : Int32 → Wd → Prop} {w : Wd} (h : w_X11_coin a0 a1 K w) : Met l yX11_coin (xws yX11_coin cX11_coin 3 (some .int)) (rmd 5 0 0) (xPc x [.ref (adr x a0), .int a1] w) (QcI x K) 0 0 (xA x) := by
  refine xMet (by decide) (Nat.le_of_ble_eq_true rfl) (fun p e s m below meth c C hlk hr _ => ?_)
  show GW x p l e (rmd 5 0 0) s m [.ref (adr x a0), .int a1].toArray below meth c 3 (QI x K below [.ref (adr x a0), .int a1].toArray s 0 0) 0 [(0, .ref (adr x a0)), (1, .int a1)] [] w 0 0
  refine g_aload_n (pc := 0) C dX11_coin_0 (q := 0) rfl ?_
  obtain ⟨k1, h⟩ := h
  obtain ⟨k2, h⟩ := h
  refine gfX11_49 (pc := 1) C k1 (isK_ne k2) dX11_coin_1 ?_
  obtain ⟨k3, h⟩ := h
  refine gfX11_122 (pc := 4) C k2 (isK_ne k3) dX11_coin_4 ?_
  refine g_iload_n (pc := 7) C dX11_coin_7 (q := 1) rfl ?_
  refine miX11_189 (pc := 8) C h (Nat.le_of_ble_eq_true rfl) (Nat.le_of_ble_eq_true rfl) ⟨Nat.le_refl _, Nat.le_refl _⟩ dX11_coin_8 (fun r4 w5 h => ?_)
  refine g_istore_n (pc := 11) C dX11_coin_11 (Nat.le_of_ble_eq_true rfl) (lo' := [(2, .int r4), (0, .ref (adr x a0)), (1, .int a1)]) rfl ?_
  refine g_iload_n (pc := 12) C dX11_coin_12 (q := 0) rfl ?_
  refine g_if_eq (pc := 13) C dX11_coin_13 (tgt := 19) rfl (fun z6 => ?_) (fun z6 => ?_)
  · replace h := h.1 z6
    refine g_aload_n (pc := 19) C dX11_coin_19 (q := 1) rfl ?_
    obtain ⟨k7, h⟩ := h
    obtain ⟨k8, h⟩ := h
    refine gfX11_49 (pc := 20) C k7 (isK_ne k8) dX11_coin_20 ?_
    refine miX11_176 (pc := 23) C k8 h (Nat.le_of_ble_eq_true rfl) (Nat.le_of_ble_eq_true rfl) ⟨Nat.le_refl _, Nat.le_refl _⟩ dX11_coin_23 (fun w9 h => ?_)
    refine g_aload_n (pc := 26) C dX11_coin_26 (q := 1) rfl ?_
    obtain ⟨k10, h⟩ := h
    obtain ⟨k11, h⟩ := h
    refine gfX11_74 (pc := 27) C k10 (isK_ne k11) dX11_coin_27 ?_
    refine g_aload_n (pc := 30) C dX11_coin_30 (q := 1) rfl ?_
    obtain ⟨k12, h⟩ := h
    refine gfX11_49 (pc := 31) C k10 (isK_ne k12) dX11_coin_31 ?_
    obtain ⟨k13, h⟩ := h
    refine gfX11_122 (pc := 34) C k12 (isK_ne k13) dX11_coin_34 ?_
    refine g_iload_n (pc := 37) C dX11_coin_37 (q := 2) rfl ?_
    refine miX11_192 (pc := 38) C k11 h (Nat.le_of_ble_eq_true rfl) (Nat.le_of_ble_eq_true rfl) ⟨Nat.le_refl _, Nat.le_refl _⟩ dX11_coin_38 (fun r14 w15 h => ?_)
    exact g_iret (pc := 41) C hlk hr (Nat.le_refl _) (Nat.le_refl _) dX11_coin_41 h
  · replace h := h.2 z6
    refine g_iload_n (pc := 16) C dX11_coin_16 (q := 0) rfl ?_
    refine g_ineg (pc := 17) C dX11_coin_17 ?_
    exact g_iret (pc := 18) C hlk hr (Nat.le_refl _) (Nat.le_refl _) dX11_coin_18 h
theorem miX11_257 (C : xC x p s m c cc nL args RX11) {a0 : Int32} {K : Int32 → Wd → Prop} {D MC MS : Nat} (h : w_J6_bitCount_0f7a4 a0 K w) (hD : 0 + 1 ≤ D) (hW : (st.map fun v => v.category).sum ≤ 8) (hij : i ≤ MC ∧ j ≤ MS) (hd : decode cc pc = .ok (.invokestatic 257, 3)) (k : ∀ (r : Int32) (u : Wd), K r u → GW x p l e (rmd D MC MS) s m args below meth c nL Q (pc + 3) lo (.int r :: st) u i j) : GW x p l e (rmd D MC MS) s m args below meth c nL Q pc lo (.int a0 :: st) w i j := g_callSi0 C (As := [.int a0]) (c_J6_bitCount_0f7a4 h) (x_cwS C 1 LMX11_257 ⟨by decide, by decide, rfl⟩ hD (by decide)) rfl rfl hW hd hij k
theorem miX11_408 (C : xC x p s m c cc nL args RX11) {a0 : Nat} {K : Int32 → Wd → Prop} {D MC MS : Nat} (hq : isK w a0 1) (h : w_X1_pairs a0 K w) (hD : 1 + 1 ≤ D) (hW : (st.map fun v => v.category).sum ≤ 8) (hij : i ≤ MC ∧ j ≤ MS) (hd : decode cc pc = .ok (.invokevirtual 408, 3)) (k : ∀ (r : Int32) (u : Wd), K r u → GW x p l e (rmd D MC MS) s m args below meth c nL Q (pc + 3) lo (.int r :: st) u i j) : GW x p l e (rmd D MC MS) s m args below meth c nL Q pc lo (.ref (adr x a0) :: st) w i j := g_callVi0 C (As := []) (ci := 1) (c_X1_pairs h) (x_cwV C 0 LMX11_408 ⟨rfl, by decide, by decide, rfl⟩ hD (by decide)) rfl hq (by decide) rfl rfl hW hd hij k
def w_X11_count (a0 : Nat) (a1 : Int32) (K : Int32 → Wd → Prop) (w : Wd) : Prop :=
  isK w a0 11 ∧ isK w (wR w a0 0) 5 ∧ isK w (wR w (wR w a0 0) 0) 2 ∧ ((a1 = 0 → isK w (wR w (wR w (wR w a0 0) 0) 0) 1 ∧ K (wI w (wR w (wR w (wR w a0 0) 0) 0) 0) w) ∧ (¬ a1 = 0 → ((a1 = 1 → isK w (wR w (wR w (wR w a0 0) 0) 0) 1 ∧ K (wI w (wR w (wR w (wR w a0 0) 0) 0) 1) w) ∧ (¬ a1 = 1 → ((a1 = 2 → isK w (wR w (wR w (wR w a0 0) 0) 0) 1 ∧ K (wI w (wR w (wR w (wR w a0 0) 0) 0) 2) w) ∧ (¬ a1 = 2 → ((a1 = 3 → K (wI w (wR w (wR w a0 0) 0) 1) w) ∧ (¬ a1 = 3 → ((a1 = 4 → w_X2_awakeBits (wR w (wR w a0 0) 0) (fun r17 w18 => w_J6_bitCount_0f7a4 r17 (fun r19 w20 => K r19 w20) w18) w) ∧ (¬ a1 = 4 → ((a1 = 5 → w_J6_bitCount_0f7a4 (wI w (wR w (wR w a0 0) 0) 2) (fun r21 w22 => K r21 w22) w) ∧ (¬ a1 = 5 → ((a1 = 6 → isK w (wR w (wR w (wR w a0 0) 0) 0) 1 ∧ w_X1_pairs (wR w (wR w (wR w a0 0) 0) 0) (fun r24 w25 => K r24 w25) w) ∧ (¬ a1 = 6 → ((a1 = 7 → K (wI w (wR w a0 0) 2) w) ∧ (¬ a1 = 7 → ((a1 = 8 → isK w (wR w a0 4) 7 ∧ K (wI w (wR w a0 4) 0) w) ∧ (¬ a1 = 8 → ((a1 = 9 → isK w (wR w (wR w (wR w a0 0) 0) 0) 1 ∧ (wR w (wR w (wR w (wR w a0 0) 0) 0) 4 = 1 ∨ isK w (wR w (wR w (wR w (wR w a0 0) 0) 0) 4) 20) ∧ (((Int32.ofNat (wn w (wR w (wR w (wR w (wR w a0 0) 0) 0) 4))) ≤ 0 → K 0 w) ∧ (¬ (Int32.ofNat (wn w (wR w (wR w (wR w (wR w a0 0) 0) 0) 4))) ≤ 0 → K 1 w))) ∧ (¬ a1 = 9 → K (-1) w))))))))))))))))))))
theorem c_X11_count {x : xG} {l : Launch} {a0 : Nat} {a1 : Int32} {K : Int32 → Wd → Prop} {w : Wd} (h : w_X11_count a0 a1 K w) : Met l yX11_count (xws yX11_count cX11_count 3 (some .int)) (rmd 3 0 0) (xPc x [.ref (adr x a0), .int a1] w) (QcI x K) 0 0 (xA x) := by
  refine xMet (by decide) (Nat.le_of_ble_eq_true rfl) (fun p e s m below meth c C hlk hr _ => ?_)
  show GW x p l e (rmd 3 0 0) s m [.ref (adr x a0), .int a1].toArray below meth c 3 (QI x K below [.ref (adr x a0), .int a1].toArray s 0 0) 0 [(0, .ref (adr x a0)), (1, .int a1)] [] w 0 0
  refine g_aload_n (pc := 0) C dX11_count_0 (q := 0) rfl ?_
  obtain ⟨k1, h⟩ := h
  obtain ⟨k2, h⟩ := h
  refine gfX11_49 (pc := 1) C k1 (isK_ne k2) dX11_count_1 ?_
  obtain ⟨k3, h⟩ := h
  refine gfX11_122 (pc := 4) C k2 (isK_ne k3) dX11_count_4 ?_
  refine g_astore_n (pc := 7) C dX11_count_7 (Nat.le_of_ble_eq_true rfl) (lo' := [(2, .ref (adr x (wR w (wR w a0 0) 0))), (0, .ref (adr x a0)), (1, .int a1)]) rfl ?_
  refine g_iload_n (pc := 8) C dX11_count_8 (q := 2) rfl ?_
  by_cases z4 : a1 = 0
  · replace h := h.1 z4
    refine g_tabIn (pc := 9) C dX11_count_9 (by rw [z4]; decide) (by rw [z4]; decide) (off := 55) (by rw [z4]; rfl) (tgt := 64) rfl ?_
    refine g_aload_n (pc := 64) C dX11_count_64 (q := 0) rfl ?_
    obtain ⟨k14, h⟩ := h
    refine gfX11_125 (pc := 65) C k3 (isK_ne k14) dX11_count_65 ?_
    refine gfX11_113 (pc := 68) C k14 dX11_count_68 ?_
    exact g_iret (pc := 71) C hlk hr (Nat.le_refl _) (Nat.le_refl _) dX11_count_71 h
  replace h := h.2 z4
  by_cases z5 : a1 = 1
  · replace h := h.1 z5
    refine g_tabIn (pc := 9) C dX11_count_9 (by rw [z5]; decide) (by rw [z5]; decide) (off := 63) (by rw [z5]; rfl) (tgt := 72) rfl ?_
    refine g_aload_n (pc := 72) C dX11_count_72 (q := 0) rfl ?_
    obtain ⟨k15, h⟩ := h
    refine gfX11_125 (pc := 73) C k3 (isK_ne k15) dX11_count_73 ?_
    refine gfX11_238 (pc := 76) C k15 dX11_count_76 ?_
    exact g_iret (pc := 79) C hlk hr (Nat.le_refl _) (Nat.le_refl _) dX11_count_79 h
  replace h := h.2 z5
  by_cases z6 : a1 = 2
  · replace h := h.1 z6
    refine g_tabIn (pc := 9) C dX11_count_9 (by rw [z6]; decide) (by rw [z6]; decide) (off := 71) (by rw [z6]; rfl) (tgt := 80) rfl ?_
    refine g_aload_n (pc := 80) C dX11_count_80 (q := 0) rfl ?_
    obtain ⟨k16, h⟩ := h
    refine gfX11_125 (pc := 81) C k3 (isK_ne k16) dX11_count_81 ?_
    refine gfX11_339 (pc := 84) C k16 dX11_count_84 ?_
    exact g_iret (pc := 87) C hlk hr (Nat.le_refl _) (Nat.le_refl _) dX11_count_87 h
  replace h := h.2 z6
  by_cases z7 : a1 = 3
  · replace h := h.1 z7
    refine g_tabIn (pc := 9) C dX11_count_9 (by rw [z7]; decide) (by rw [z7]; decide) (off := 79) (by rw [z7]; rfl) (tgt := 88) rfl ?_
    refine g_aload_n (pc := 88) C dX11_count_88 (q := 0) rfl ?_
    refine gfX11_402 (pc := 89) C k3 dX11_count_89 ?_
    exact g_iret (pc := 92) C hlk hr (Nat.le_refl _) (Nat.le_refl _) dX11_count_92 h
  replace h := h.2 z7
  by_cases z8 : a1 = 4
  · replace h := h.1 z8
    refine g_tabIn (pc := 9) C dX11_count_9 (by rw [z8]; decide) (by rw [z8]; decide) (off := 84) (by rw [z8]; rfl) (tgt := 93) rfl ?_
    refine g_aload_n (pc := 93) C dX11_count_93 (q := 0) rfl ?_
    refine miX11_165 (pc := 94) C k3 h (Nat.le_of_ble_eq_true rfl) (Nat.le_of_ble_eq_true rfl) ⟨Nat.le_refl _, Nat.le_refl _⟩ dX11_count_94 (fun r17 w18 h => ?_)
    refine miX11_257 (pc := 97) C h (Nat.le_of_ble_eq_true rfl) (Nat.le_of_ble_eq_true rfl) ⟨Nat.le_refl _, Nat.le_refl _⟩ dX11_count_97 (fun r19 w20 h => ?_)
    exact g_iret (pc := 100) C hlk hr (Nat.le_refl _) (Nat.le_refl _) dX11_count_100 h
  replace h := h.2 z8
  by_cases z9 : a1 = 5
  · replace h := h.1 z9
    refine g_tabIn (pc := 9) C dX11_count_9 (by rw [z9]; decide) (by rw [z9]; decide) (off := 92) (by rw [z9]; rfl) (tgt := 101) rfl ?_
    refine g_aload_n (pc := 101) C dX11_count_101 (q := 0) rfl ?_
    refine gfX11_405 (pc := 102) C k3 dX11_count_102 ?_
    refine miX11_257 (pc := 105) C h (Nat.le_of_ble_eq_true rfl) (Nat.le_of_ble_eq_true rfl) ⟨Nat.le_refl _, Nat.le_refl _⟩ dX11_count_105 (fun r21 w22 h => ?_)
    exact g_iret (pc := 108) C hlk hr (Nat.le_refl _) (Nat.le_refl _) dX11_count_108 h
  replace h := h.2 z9
  by_cases z10 : a1 = 6
  · replace h := h.1 z10
    refine g_tabIn (pc := 9) C dX11_count_9 (by rw [z10]; decide) (by rw [z10]; decide) (off := 100) (by rw [z10]; rfl) (tgt := 109) rfl ?_
    refine g_aload_n (pc := 109) C dX11_count_109 (q := 0) rfl ?_
    obtain ⟨k23, h⟩ := h
    refine gfX11_125 (pc := 110) C k3 (isK_ne k23) dX11_count_110 ?_
    refine miX11_408 (pc := 113) C k23 h (Nat.le_of_ble_eq_true rfl) (Nat.le_of_ble_eq_true rfl) ⟨Nat.le_refl _, Nat.le_refl _⟩ dX11_count_113 (fun r24 w25 h => ?_)
    exact g_iret (pc := 116) C hlk hr (Nat.le_refl _) (Nat.le_refl _) dX11_count_116 h
  replace h := h.2 z10
  by_cases z11 : a1 = 7
  · replace h := h.1 z11
    refine g_tabIn (pc := 9) C dX11_count_9 (by rw [z11]; decide) (by rw [z11]; decide) (off := 108) (by rw [z11]; rfl) (tgt := 117) rfl ?_
    refine g_aload_n (pc := 117) C dX11_count_117 (q := 1) rfl ?_
    refine gfX11_49 (pc := 118) C k1 (isK_ne k2) dX11_count_118 ?_
    refine gfX11_202 (pc := 121) C k2 dX11_count_121 ?_
    exact g_iret (pc := 124) C hlk hr (Nat.le_refl _) (Nat.le_refl _) dX11_count_124 h
  replace h := h.2 z11
  by_cases z12 : a1 = 8
  · replace h := h.1 z12
    refine g_tabIn (pc := 9) C dX11_count_9 (by rw [z12]; decide) (by rw [z12]; decide) (off := 116) (by rw [z12]; rfl) (tgt := 125) rfl ?_
    refine g_aload_n (pc := 125) C dX11_count_125 (q := 1) rfl ?_
    obtain ⟨k26, h⟩ := h
    refine gfX11_61 (pc := 126) C k1 (isK_ne k26) dX11_count_126 ?_
    refine gfX11_87 (pc := 129) C k26 dX11_count_129 ?_
    exact g_iret (pc := 132) C hlk hr (Nat.le_refl _) (Nat.le_refl _) dX11_count_132 h
  replace h := h.2 z12
  by_cases z13 : a1 = 9
  · replace h := h.1 z13
    refine g_tabIn (pc := 9) C dX11_count_9 (by rw [z13]; decide) (by rw [z13]; decide) (off := 124) (by rw [z13]; rfl) (tgt := 133) rfl ?_
    refine g_aload_n (pc := 133) C dX11_count_133 (q := 0) rfl ?_
    obtain ⟨k27, h⟩ := h
    refine gfX11_125 (pc := 134) C k3 (isK_ne k27) dX11_count_134 ?_
    obtain ⟨k28, h⟩ := h
    refine gfX11_411 (pc := 137) C k27 (isL_ne k28) dX11_count_137 ?_
    refine g_alenI (pc := 140) C k28 dX11_count_140 ?_
    refine g_if_le (pc := 141) C dX11_count_141 (tgt := 148) rfl (fun z29 => ?_) (fun z29 => ?_)
    · replace h := h.1 z29
      refine g_iconst (pc := 148) C dX11_count_148 (v := 0) rfl ?_
      exact g_iret (pc := 149) C hlk hr (Nat.le_refl _) (Nat.le_refl _) dX11_count_149 h
    · replace h := h.2 z29
      refine g_iconst (pc := 144) C dX11_count_144 (v := 1) rfl ?_
      refine g_goto (pc := 145) C dX11_count_145 (tgt := 149) rfl ?_
      exact g_iret (pc := 149) C hlk hr (Nat.le_refl _) (Nat.le_refl _) dX11_count_149 h
  replace h := h.2 z13
  have y30 := ne_toInt (n := 0) z4 (by decide)
  have y31 := ne_toInt (n := 1) z5 (by decide)
  have y32 := ne_toInt (n := 2) z6 (by decide)
  have y33 := ne_toInt (n := 3) z7 (by decide)
  have y34 := ne_toInt (n := 4) z8 (by decide)
  have y35 := ne_toInt (n := 5) z9 (by decide)
  have y36 := ne_toInt (n := 6) z10 (by decide)
  have y37 := ne_toInt (n := 7) z11 (by decide)
  have y38 := ne_toInt (n := 8) z12 (by decide)
  have y39 := ne_toInt (n := 9) z13 (by decide)
  refine g_tabOut (pc := 9) C dX11_count_9 (by omega) (tgt := 150) rfl ?_
  refine g_iconst (pc := 150) C dX11_count_150 (v := (-1)) rfl ?_
  exact g_iret (pc := 151) C hlk hr (Nat.le_refl _) (Nat.le_refl _) dX11_count_151 h
theorem miX11_172 (C : xC x p s m c cc nL args RX11) {a0 : Nat} {a1 : Int32} {a2 : Int32} {K : Int32 → Wd → Prop} {D MC MS : Nat} (h : w_X0_whyNotDraw a0 a1 a2 K w) (hD : 3 + 1 ≤ D) (hW : (st.map fun v => v.category).sum ≤ 8) (hij : i ≤ MC ∧ j ≤ MS) (hd : decode cc pc = .ok (.invokestatic 172, 3)) (k : ∀ (r : Int32) (u : Wd), K r u → GW x p l e (rmd D MC MS) s m args below meth c nL Q (pc + 3) lo (.int r :: st) u i j) : GW x p l e (rmd D MC MS) s m args below meth c nL Q pc lo (.int a2 :: .int a1 :: .ref (adr x a0) :: st) w i j := g_callSi0 C (As := [.ref (adr x a0), .int a1, .int a2]) (c_X0_whyNotDraw h) (x_cwS C 3 LMX11_172 ⟨by decide, by decide, rfl⟩ hD (by decide)) rfl rfl hW hd hij k
theorem miX11_179 (C : xC x p s m c cc nL args RX11) {a0 : Nat} {a1 : Nat} {a2 : Int32} {a3 : Int32} {K : Int32 → Wd → Prop} {D MC MS : Nat} (hq : isK w a0 0) (h : w_X0_drawFrom a0 a1 a2 a3 K w) (hD : 4 + 1 ≤ D) (hW : (st.map fun v => v.category).sum ≤ 8) (hij : i ≤ MC ∧ j ≤ MS) (hd : decode cc pc = .ok (.invokevirtual 179, 3)) (k : ∀ (r : Int32) (u : Wd), K r u → GW x p l e (rmd D MC MS) s m args below meth c nL Q (pc + 3) lo (.int r :: st) u i j) : GW x p l e (rmd D MC MS) s m args below meth c nL Q pc lo (.int a3 :: .int a2 :: .ref (adr x a1) :: .ref (adr x a0) :: st) w i j := g_callVi0 C (As := [.ref (adr x a1), .int a2, .int a3]) (ci := 0) (c_X0_drawFrom h) (x_cwV C 3 LMX11_179 ⟨rfl, by decide, by decide, rfl⟩ hD (by decide)) rfl hq (by decide) rfl rfl hW hd hij k
def w_X11_draw (a0 : Nat) (a1 : Int32) (a2 : Int32) (K : Int32 → Wd → Prop) (w : Wd) : Prop :=
  isK w a0 11 ∧ isK w (wR w a0 0) 5 ∧ isK w (wR w (wR w a0 0) 0) 2 ∧ w_X0_whyNotDraw (wR w (wR w a0 0) 0) a1 a2 (fun r4 w5 => ((r4 = 0 → isK w5 a0 11 ∧ isK w5 (wR w5 a0 0) 5 ∧ w_X5_remember (wR w5 a0 0) (fun w9 => isK w9 a0 11 ∧ isK w9 (wR w9 a0 6) 0 ∧ isK w9 (wR w9 a0 0) 5 ∧ isK w9 (wR w9 (wR w9 a0 0) 0) 2 ∧ w_X0_drawFrom (wR w9 a0 6) (wR w9 (wR w9 a0 0) 0) a1 a2 (fun r14 w15 => K r14 w15) w9) w5) ∧ (¬ r4 = 0 → K (-r4) w5))) w
theorem c_X11_draw {x : xG} {l : Launch} {a0 : Nat} {a1 : Int32} {a2 : Int32} {K : Int32 → Wd → Prop} {w : Wd} (h : w_X11_draw a0 a1 a2 K w) : Met l yX11_draw (xws yX11_draw cX11_draw 4 (some .int)) (rmd 5 0 0) (xPc x [.ref (adr x a0), .int a1, .int a2] w) (QcI x K) 0 0 (xA x) := by
  refine xMet (by decide) (Nat.le_of_ble_eq_true rfl) (fun p e s m below meth c C hlk hr _ => ?_)
  show GW x p l e (rmd 5 0 0) s m [.ref (adr x a0), .int a1, .int a2].toArray below meth c 4 (QI x K below [.ref (adr x a0), .int a1, .int a2].toArray s 0 0) 0 [(0, .ref (adr x a0)), (1, .int a1), (2, .int a2)] [] w 0 0
  refine g_aload_n (pc := 0) C dX11_draw_0 (q := 0) rfl ?_
  obtain ⟨k1, h⟩ := h
  obtain ⟨k2, h⟩ := h
  refine gfX11_49 (pc := 1) C k1 (isK_ne k2) dX11_draw_1 ?_
  obtain ⟨k3, h⟩ := h
  refine gfX11_122 (pc := 4) C k2 (isK_ne k3) dX11_draw_4 ?_
  refine g_iload_n (pc := 7) C dX11_draw_7 (q := 1) rfl ?_
  refine g_iload_n (pc := 8) C dX11_draw_8 (q := 2) rfl ?_
  refine miX11_172 (pc := 9) C h (Nat.le_of_ble_eq_true rfl) (Nat.le_of_ble_eq_true rfl) ⟨Nat.le_refl _, Nat.le_refl _⟩ dX11_draw_9 (fun r4 w5 h => ?_)
  refine g_istore_n (pc := 12) C dX11_draw_12 (Nat.le_of_ble_eq_true rfl) (lo' := [(3, .int r4), (0, .ref (adr x a0)), (1, .int a1), (2, .int a2)]) rfl ?_
  refine g_iload_n (pc := 13) C dX11_draw_13 (q := 0) rfl ?_
  refine g_if_eq (pc := 14) C dX11_draw_14 (tgt := 20) rfl (fun z6 => ?_) (fun z6 => ?_)
  · replace h := h.1 z6
    refine g_aload_n (pc := 20) C dX11_draw_20 (q := 1) rfl ?_
    obtain ⟨k7, h⟩ := h
    obtain ⟨k8, h⟩ := h
    refine gfX11_49 (pc := 21) C k7 (isK_ne k8) dX11_draw_21 ?_
    refine miX11_176 (pc := 24) C k8 h (Nat.le_of_ble_eq_true rfl) (Nat.le_of_ble_eq_true rfl) ⟨Nat.le_refl _, Nat.le_refl _⟩ dX11_draw_24 (fun w9 h => ?_)
    refine g_aload_n (pc := 27) C dX11_draw_27 (q := 1) rfl ?_
    obtain ⟨k10, h⟩ := h
    obtain ⟨k11, h⟩ := h
    refine gfX11_74 (pc := 28) C k10 (isK_ne k11) dX11_draw_28 ?_
    refine g_aload_n (pc := 31) C dX11_draw_31 (q := 1) rfl ?_
    obtain ⟨k12, h⟩ := h
    refine gfX11_49 (pc := 32) C k10 (isK_ne k12) dX11_draw_32 ?_
    obtain ⟨k13, h⟩ := h
    refine gfX11_122 (pc := 35) C k12 (isK_ne k13) dX11_draw_35 ?_
    refine g_iload_n (pc := 38) C dX11_draw_38 (q := 2) rfl ?_
    refine g_iload_n (pc := 39) C dX11_draw_39 (q := 3) rfl ?_
    refine miX11_179 (pc := 40) C k11 h (Nat.le_of_ble_eq_true rfl) (Nat.le_of_ble_eq_true rfl) ⟨Nat.le_refl _, Nat.le_refl _⟩ dX11_draw_40 (fun r14 w15 h => ?_)
    exact g_iret (pc := 43) C hlk hr (Nat.le_refl _) (Nat.le_refl _) dX11_draw_43 h
  · replace h := h.2 z6
    refine g_iload_n (pc := 17) C dX11_draw_17 (q := 0) rfl ?_
    refine g_ineg (pc := 18) C dX11_draw_18 ?_
    exact g_iret (pc := 19) C hlk hr (Nat.le_refl _) (Nat.le_refl _) dX11_draw_19 h
theorem miX11_316 (C : xC x p s m c cc nL args RX11) {a0 : Nat} {a1 : Nat} {K : Wd → Prop} {D MC MS : Nat} (hq : isK w a0 6) (h : w_X6_lookAhead a0 a1 K w) (hD : 5 + 1 ≤ D) (hW : (st.map fun v => v.category).sum ≤ 8) (hij : i ≤ MC ∧ j ≤ MS) (hd : decode cc pc = .ok (.invokevirtual 316, 3)) (k : ∀ (u : Wd), K u → GW x p l e (rmd D MC MS) s m args below meth c nL Q (pc + 3) lo st u i j) : GW x p l e (rmd D MC MS) s m args below meth c nL Q pc lo (.ref (adr x a1) :: .ref (adr x a0) :: st) w i j := g_callVv0 C (As := [.ref (adr x a1)]) (ci := 6) (c_X6_lookAhead h) (x_cwV C 1 LMX11_316 ⟨rfl, by decide, by decide, rfl⟩ hD (by decide)) rfl hq (by decide) rfl rfl hW hd hij k
theorem miX11_319 (C : xC x p s m c cc nL args RX11) {a0 : Nat} {a1 : Int32} {K : Int64 → Wd → Prop} {D MC MS : Nat} (hq : isK w a0 6) (h : w_X6_hoursOf a0 a1 K w) (hD : 0 + 1 ≤ D) (hW : (st.map fun v => v.category).sum ≤ 8) (hij : i ≤ MC ∧ j ≤ MS) (hd : decode cc pc = .ok (.invokevirtual 319, 3)) (k : ∀ (r : Int64) (u : Wd), K r u → GW x p l e (rmd D MC MS) s m args below meth c nL Q (pc + 3) lo (.long r :: st) u i j) : GW x p l e (rmd D MC MS) s m args below meth c nL Q pc lo (.int a1 :: .ref (adr x a0) :: st) w i j := g_callVl0 C (As := [.int a1]) (ci := 6) (c_X6_hoursOf h) (x_cwV C 1 LMX11_319 ⟨rfl, by decide, by decide, rfl⟩ hD (by decide)) rfl hq (by decide) rfl rfl hW hd hij k
def l_X11_dry_18  (K : Int32 → Wd → Prop) : Nat → Nat → Int32 → Int32 → Wd → Prop
  | 0, _, _, _, _ => False
  | n + 1, a0, a1, a2, w => isK w a0 11 ∧ isK w (wR w a0 0) 5 ∧ isK w (wR w (wR w a0 0) 0) 2 ∧ isK w (wR w (wR w (wR w a0 0) 0) 0) 1 ∧ (((wI w (wR w (wR w (wR w a0 0) 0) 0) 2) ≤ a2 → K a1 w) ∧ (¬ (wI w (wR w (wR w (wR w a0 0) 0) 0) 2) ≤ a2 → isK w (wR w a0 8) 6 ∧ w_X6_hoursOf (wR w a0 8) a2 (fun r12 w13 => (((lg_cmp r12 0) = 0 → l_X11_dry_18 K n a0 (a1 ||| (x_ishl 1 a2)) (a2 + 1) w13) ∧ (¬ (lg_cmp r12 0) = 0 → l_X11_dry_18 K n a0 a1 (a2 + 1) w13))) w))
def w_X11_dry (a0 : Nat) (K : Int32 → Wd → Prop) (w : Wd) : Prop :=
  isK w a0 11 ∧ isK w (wR w a0 8) 6 ∧ isK w (wR w a0 0) 5 ∧ isK w (wR w (wR w a0 0) 0) 2 ∧ w_X6_lookAhead (wR w a0 8) (wR w (wR w a0 0) 0) (fun w5 => ∃ n15, l_X11_dry_18  K n15 a0 0 0 w5) w
theorem t_X11_dry_18 (C : xC x p s m c cX11_dry 3 args RX11) (hlk : meth.locks = false) (hr : meth.sig.returnType = some .int) {K : Int32 → Wd → Prop}   : ∀ (n : Nat) (a0 : Nat) (a1 : Int32) (a2 : Int32) (w : Wd), l_X11_dry_18 K n a0 a1 a2 w → GW x p l e (rmd 6 0 0) s m args below meth c 3 (QI x K below args s 0 0) 18 [(0, .ref (adr x a0)), (1, .int a1), (2, .int a2)] [] w 0 0 := by
  intro n
  induction n with
  | zero => intro _ _ _ _ h; exact False.elim h
  | succ n ih =>
    intro a0 a1 a2 w h
    refine g_iload_n (pc := 18) C dX11_dry_18 (q := 2) rfl ?_
    refine g_aload_n (pc := 19) C dX11_dry_19 (q := 0) rfl ?_
    obtain ⟨k6, h⟩ := h
    obtain ⟨k7, h⟩ := h
    refine gfX11_49 (pc := 20) C k6 (isK_ne k7) dX11_dry_20 ?_
    obtain ⟨k8, h⟩ := h
    refine gfX11_122 (pc := 23) C k7 (isK_ne k8) dX11_dry_23 ?_
    obtain ⟨k9, h⟩ := h
    refine gfX11_125 (pc := 26) C k8 (isK_ne k9) dX11_dry_26 ?_
    refine gfX11_339 (pc := 29) C k9 dX11_dry_29 ?_
    refine g_icmp_ge (pc := 32) C dX11_dry_32 (tgt := 60) rfl (fun z10 => ?_) (fun z10 => ?_)
    · replace h := h.1 z10
      refine g_iload_n (pc := 60) C dX11_dry_60 (q := 1) rfl ?_
      exact g_iret (pc := 61) C hlk hr (Nat.le_refl _) (Nat.le_refl _) dX11_dry_61 h
    · replace h := h.2 z10
      refine g_aload_n (pc := 35) C dX11_dry_35 (q := 0) rfl ?_
      obtain ⟨k11, h⟩ := h
      refine gfX11_83 (pc := 36) C k6 (isK_ne k11) dX11_dry_36 ?_
      refine g_iload_n (pc := 39) C dX11_dry_39 (q := 2) rfl ?_
      refine miX11_319 (pc := 40) C k11 h (Nat.le_of_ble_eq_true rfl) (Nat.le_of_ble_eq_true rfl) ⟨Nat.le_refl _, Nat.le_refl _⟩ dX11_dry_40 (fun r12 w13 h => ?_)
      refine g_lconst (pc := 43) C dX11_dry_43 (v := 0) rfl ?_
      refine g_lcmp (pc := 44) C dX11_dry_44 ?_
      refine g_if_ne (pc := 45) C dX11_dry_45 (tgt := 54) rfl (fun z14 => ?_) (fun z14 => ?_)
      · replace h := h.2 z14
        refine g_iinc (pc := 54) C dX11_dry_54 (q := 2) rfl (v2 := a2 + 1) rfl (Nat.le_of_ble_eq_true rfl) (lo' := [(2, .int (a2 + 1)), (0, .ref (adr x a0)), (1, .int a1)]) rfl ?_
        refine g_goto (pc := 57) C dX11_dry_57 (tgt := 18) rfl ?_
        refine g_sub [1, 2, 0] rfl ?_
        exact ih _ _ _ _ h
      · replace h := h.1 z14
        refine g_iload_n (pc := 48) C dX11_dry_48 (q := 1) rfl ?_
        refine g_iconst (pc := 49) C dX11_dry_49 (v := 1) rfl ?_
        refine g_iload_n (pc := 50) C dX11_dry_50 (q := 2) rfl ?_
        refine h_ishl (pc := 51) C dX11_dry_51 ?_
        refine g_ior (pc := 52) C dX11_dry_52 ?_
        refine g_istore_n (pc := 53) C dX11_dry_53 (Nat.le_of_ble_eq_true rfl) (lo' := [(1, .int (a1 ||| (x_ishl 1 a2))), (0, .ref (adr x a0)), (2, .int a2)]) rfl ?_
        refine g_iinc (pc := 54) C dX11_dry_54 (q := 2) rfl (v2 := a2 + 1) rfl (Nat.le_of_ble_eq_true rfl) (lo' := [(2, .int (a2 + 1)), (1, .int (a1 ||| (x_ishl 1 a2))), (0, .ref (adr x a0))]) rfl ?_
        refine g_goto (pc := 57) C dX11_dry_57 (tgt := 18) rfl ?_
        refine g_sub [2, 1, 0] rfl ?_
        exact ih _ _ _ _ h
theorem c_X11_dry {x : xG} {l : Launch} {a0 : Nat} {K : Int32 → Wd → Prop} {w : Wd} (h : w_X11_dry a0 K w) : Met l yX11_dry (xws yX11_dry cX11_dry 3 (some .int)) (rmd 6 0 0) (xPc x [.ref (adr x a0)] w) (QcI x K) 0 0 (xA x) := by
  refine xMet (by decide) (Nat.le_of_ble_eq_true rfl) (fun p e s m below meth c C hlk hr _ => ?_)
  show GW x p l e (rmd 6 0 0) s m [.ref (adr x a0)].toArray below meth c 3 (QI x K below [.ref (adr x a0)].toArray s 0 0) 0 [(0, .ref (adr x a0))] [] w 0 0
  refine g_aload_n (pc := 0) C dX11_dry_0 (q := 0) rfl ?_
  obtain ⟨k1, h⟩ := h
  obtain ⟨k2, h⟩ := h
  refine gfX11_83 (pc := 1) C k1 (isK_ne k2) dX11_dry_1 ?_
  refine g_aload_n (pc := 4) C dX11_dry_4 (q := 0) rfl ?_
  obtain ⟨k3, h⟩ := h
  refine gfX11_49 (pc := 5) C k1 (isK_ne k3) dX11_dry_5 ?_
  obtain ⟨k4, h⟩ := h
  refine gfX11_122 (pc := 8) C k3 (isK_ne k4) dX11_dry_8 ?_
  refine miX11_316 (pc := 11) C k2 h (Nat.le_of_ble_eq_true rfl) (Nat.le_of_ble_eq_true rfl) ⟨Nat.le_refl _, Nat.le_refl _⟩ dX11_dry_11 (fun w5 h => ?_)
  refine g_iconst (pc := 14) C dX11_dry_14 (v := 0) rfl ?_
  refine g_istore_n (pc := 15) C dX11_dry_15 (Nat.le_of_ble_eq_true rfl) (lo' := [(1, .int 0), (0, .ref (adr x a0))]) rfl ?_
  refine g_iconst (pc := 16) C dX11_dry_16 (v := 0) rfl ?_
  refine g_istore_n (pc := 17) C dX11_dry_17 (Nat.le_of_ble_eq_true rfl) (lo' := [(2, .int 0), (1, .int 0), (0, .ref (adr x a0))]) rfl ?_
  obtain ⟨n15, h⟩ := h
  refine g_sub [2, 1, 0] rfl ?_
  refine t_X11_dry_18 C hlk hr n15 _ _ _ _ h
def w_X11_fault (a0 : Nat) (a1 : Int32) (K : Int32 → Wd → Prop) (w : Wd) : Prop :=
  ((a1 = 0 → isK w a0 11 ∧ isK w (wR w a0 4) 7 ∧ K (wI w (wR w a0 4) 1) w) ∧ (¬ a1 = 0 → ((a1 = 1 → isK w a0 11 ∧ isK w (wR w a0 4) 7 ∧ K (wI w (wR w a0 4) 2) w) ∧ (¬ a1 = 1 → K (-1) w))))
theorem c_X11_fault {x : xG} {l : Launch} {a0 : Nat} {a1 : Int32} {K : Int32 → Wd → Prop} {w : Wd} (h : w_X11_fault a0 a1 K w) : Met l yX11_fault (xws yX11_fault cX11_fault 2 (some .int)) (rmd 0 0 0) (xPc x [.ref (adr x a0), .int a1] w) (QcI x K) 0 0 (xA x) := by
  refine xMet (by decide) (Nat.le_of_ble_eq_true rfl) (fun p e s m below meth c C hlk hr _ => ?_)
  show GW x p l e (rmd 0 0 0) s m [.ref (adr x a0), .int a1].toArray below meth c 2 (QI x K below [.ref (adr x a0), .int a1].toArray s 0 0) 0 [(0, .ref (adr x a0)), (1, .int a1)] [] w 0 0
  refine g_iload_n (pc := 0) C dX11_fault_0 (q := 1) rfl ?_
  refine g_if_ne (pc := 1) C dX11_fault_1 (tgt := 12) rfl (fun z1 => ?_) (fun z1 => ?_)
  · replace h := h.2 z1
    refine g_iload_n (pc := 12) C dX11_fault_12 (q := 1) rfl ?_
    refine g_iconst (pc := 13) C dX11_fault_13 (v := 1) rfl ?_
    refine g_icmp_ne (pc := 14) C dX11_fault_14 (tgt := 27) rfl (fun z2 => ?_) (fun z2 => ?_)
    · replace h := h.2 z2
      refine g_iconst (pc := 27) C dX11_fault_27 (v := (-1)) rfl ?_
      exact g_iret (pc := 28) C hlk hr (Nat.le_refl _) (Nat.le_refl _) dX11_fault_28 h
    · replace h := h.1 z2
      refine g_aload_n (pc := 17) C dX11_fault_17 (q := 0) rfl ?_
      obtain ⟨k3, h⟩ := h
      obtain ⟨k4, h⟩ := h
      refine gfX11_61 (pc := 18) C k3 (isK_ne k4) dX11_fault_18 ?_
      refine gfX11_116 (pc := 21) C k4 dX11_fault_21 ?_
      refine g_goto (pc := 24) C dX11_fault_24 (tgt := 28) rfl ?_
      exact g_iret (pc := 28) C hlk hr (Nat.le_refl _) (Nat.le_refl _) dX11_fault_28 h
  · replace h := h.1 z1
    refine g_aload_n (pc := 4) C dX11_fault_4 (q := 0) rfl ?_
    obtain ⟨k5, h⟩ := h
    obtain ⟨k6, h⟩ := h
    refine gfX11_61 (pc := 5) C k5 (isK_ne k6) dX11_fault_5 ?_
    refine gfX11_103 (pc := 8) C k6 dX11_fault_8 ?_
    exact g_iret (pc := 11) C hlk hr (Nat.le_refl _) (Nat.le_refl _) dX11_fault_11 h
theorem miX11_91 (C : xC x p s m c cc nL args RX11) {a0 : Nat} {a1 : Int32} {K : Wd → Prop} {D MC MS : Nat} (hq : isK w a0 7) (h : w_X7_append a0 a1 K w) (hD : 0 + 1 ≤ D) (hW : (st.map fun v => v.category).sum ≤ 8) (hij : i ≤ MC ∧ j ≤ MS) (hd : decode cc pc = .ok (.invokevirtual 91, 3)) (k : ∀ (u : Wd), K u → GW x p l e (rmd D MC MS) s m args below meth c nL Q (pc + 3) lo st u i j) : GW x p l e (rmd D MC MS) s m args below meth c nL Q pc lo (.int a1 :: .ref (adr x a0) :: st) w i j := g_callVv0 C (As := [.int a1]) (ci := 7) (c_X7_append h) (x_cwV C 1 LMX11_91 ⟨rfl, by decide, by decide, rfl⟩ hD (by decide)) rfl hq (by decide) rfl rfl hW hd hij k
def w_X11_feed (a0 : Nat) (a1 : Int32) (a2 : Int32) (a3 : Int32) (a4 : Int32) (a5 : Int32) (K : Int32 → Wd → Prop) (w : Wd) : Prop :=
  isK w a0 11 ∧ isK w (wR w a0 4) 7 ∧ ((((wI w (wR w a0 4) 0) + 20) ≤ 900 → w_X7_append (wR w a0 4) a1 (fun w4 => isK w4 a0 11 ∧ isK w4 (wR w4 a0 4) 7 ∧ w_X7_append (wR w4 a0 4) a2 (fun w7 => isK w7 a0 11 ∧ isK w7 (wR w7 a0 4) 7 ∧ w_X7_append (wR w7 a0 4) a3 (fun w10 => isK w10 a0 11 ∧ isK w10 (wR w10 a0 4) 7 ∧ w_X7_append (wR w10 a0 4) a4 (fun w13 => isK w13 a0 11 ∧ isK w13 (wR w13 a0 4) 7 ∧ w_X7_append (wR w13 a0 4) a5 (fun w16 => isK w16 a0 11 ∧ isK w16 (wR w16 a0 4) 7 ∧ K (wI w16 (wR w16 a0 4) 0) w16) w13) w10) w7) w4) w) ∧ (¬ ((wI w (wR w a0 4) 0) + 20) ≤ 900 → K (-1) w))
theorem c_X11_feed {x : xG} {l : Launch} {a0 : Nat} {a1 : Int32} {a2 : Int32} {a3 : Int32} {a4 : Int32} {a5 : Int32} {K : Int32 → Wd → Prop} {w : Wd} (h : w_X11_feed a0 a1 a2 a3 a4 a5 K w) : Met l yX11_feed (xws yX11_feed cX11_feed 6 (some .int)) (rmd 1 0 0) (xPc x [.ref (adr x a0), .int a1, .int a2, .int a3, .int a4, .int a5] w) (QcI x K) 0 0 (xA x) := by
  refine xMet (by decide) (Nat.le_of_ble_eq_true rfl) (fun p e s m below meth c C hlk hr _ => ?_)
  show GW x p l e (rmd 1 0 0) s m [.ref (adr x a0), .int a1, .int a2, .int a3, .int a4, .int a5].toArray below meth c 6 (QI x K below [.ref (adr x a0), .int a1, .int a2, .int a3, .int a4, .int a5].toArray s 0 0) 0 [(0, .ref (adr x a0)), (1, .int a1), (2, .int a2), (3, .int a3), (4, .int a4), (5, .int a5)] [] w 0 0
  refine g_aload_n (pc := 0) C dX11_feed_0 (q := 0) rfl ?_
  obtain ⟨k1, h⟩ := h
  obtain ⟨k2, h⟩ := h
  refine gfX11_61 (pc := 1) C k1 (isK_ne k2) dX11_feed_1 ?_
  refine gfX11_87 (pc := 4) C k2 dX11_feed_4 ?_
  refine g_bipush (pc := 7) C dX11_feed_7 (v := 20) rfl ?_
  refine g_iadd (pc := 9) C dX11_feed_9 ?_
  refine g_sipush (pc := 10) C dX11_feed_10 (v := 900) rfl ?_
  refine g_icmp_le (pc := 13) C dX11_feed_13 (tgt := 18) rfl (fun z3 => ?_) (fun z3 => ?_)
  · replace h := h.1 z3
    refine g_aload_n (pc := 18) C dX11_feed_18 (q := 0) rfl ?_
    refine gfX11_61 (pc := 19) C k1 (isK_ne k2) dX11_feed_19 ?_
    refine g_iload_n (pc := 22) C dX11_feed_22 (q := 1) rfl ?_
    refine miX11_91 (pc := 23) C k2 h (Nat.le_of_ble_eq_true rfl) (Nat.le_of_ble_eq_true rfl) ⟨Nat.le_refl _, Nat.le_refl _⟩ dX11_feed_23 (fun w4 h => ?_)
    refine g_aload_n (pc := 26) C dX11_feed_26 (q := 0) rfl ?_
    obtain ⟨k5, h⟩ := h
    obtain ⟨k6, h⟩ := h
    refine gfX11_61 (pc := 27) C k5 (isK_ne k6) dX11_feed_27 ?_
    refine g_iload_n (pc := 30) C dX11_feed_30 (q := 2) rfl ?_
    refine miX11_91 (pc := 31) C k6 h (Nat.le_of_ble_eq_true rfl) (Nat.le_of_ble_eq_true rfl) ⟨Nat.le_refl _, Nat.le_refl _⟩ dX11_feed_31 (fun w7 h => ?_)
    refine g_aload_n (pc := 34) C dX11_feed_34 (q := 0) rfl ?_
    obtain ⟨k8, h⟩ := h
    obtain ⟨k9, h⟩ := h
    refine gfX11_61 (pc := 35) C k8 (isK_ne k9) dX11_feed_35 ?_
    refine g_iload_n (pc := 38) C dX11_feed_38 (q := 3) rfl ?_
    refine miX11_91 (pc := 39) C k9 h (Nat.le_of_ble_eq_true rfl) (Nat.le_of_ble_eq_true rfl) ⟨Nat.le_refl _, Nat.le_refl _⟩ dX11_feed_39 (fun w10 h => ?_)
    refine g_aload_n (pc := 42) C dX11_feed_42 (q := 0) rfl ?_
    obtain ⟨k11, h⟩ := h
    obtain ⟨k12, h⟩ := h
    refine gfX11_61 (pc := 43) C k11 (isK_ne k12) dX11_feed_43 ?_
    refine g_iload (pc := 46) C dX11_feed_46 (q := 4) rfl ?_
    refine miX11_91 (pc := 48) C k12 h (Nat.le_of_ble_eq_true rfl) (Nat.le_of_ble_eq_true rfl) ⟨Nat.le_refl _, Nat.le_refl _⟩ dX11_feed_48 (fun w13 h => ?_)
    refine g_aload_n (pc := 51) C dX11_feed_51 (q := 0) rfl ?_
    obtain ⟨k14, h⟩ := h
    obtain ⟨k15, h⟩ := h
    refine gfX11_61 (pc := 52) C k14 (isK_ne k15) dX11_feed_52 ?_
    refine g_iload (pc := 55) C dX11_feed_55 (q := 5) rfl ?_
    refine miX11_91 (pc := 57) C k15 h (Nat.le_of_ble_eq_true rfl) (Nat.le_of_ble_eq_true rfl) ⟨Nat.le_refl _, Nat.le_refl _⟩ dX11_feed_57 (fun w16 h => ?_)
    refine g_aload_n (pc := 60) C dX11_feed_60 (q := 0) rfl ?_
    obtain ⟨k17, h⟩ := h
    obtain ⟨k18, h⟩ := h
    refine gfX11_61 (pc := 61) C k17 (isK_ne k18) dX11_feed_61 ?_
    refine gfX11_87 (pc := 64) C k18 dX11_feed_64 ?_
    exact g_iret (pc := 67) C hlk hr (Nat.le_refl _) (Nat.le_refl _) dX11_feed_67 h
  · replace h := h.2 z3
    refine g_iconst (pc := 16) C dX11_feed_16 (v := (-1)) rfl ?_
    exact g_iret (pc := 17) C hlk hr (Nat.le_refl _) (Nat.le_refl _) dX11_feed_17 h
theorem miX11_169 (C : xC x p s m c cc nL args RX11) {a0 : Nat} {K : Int32 → Wd → Prop} {D MC MS : Nat} (hq : isK w a0 2) (h : w_X2_allWater a0 K w) (hD : 1 + 1 ≤ D) (hW : (st.map fun v => v.category).sum ≤ 8) (hij : i ≤ MC ∧ j ≤ MS) (hd : decode cc pc = .ok (.invokevirtual 169, 3)) (k : ∀ (r : Int32) (u : Wd), K r u → GW x p l e (rmd D MC MS) s m args below meth c nL Q (pc + 3) lo (.int r :: st) u i j) : GW x p l e (rmd D MC MS) s m args below meth c nL Q pc lo (.ref (adr x a0) :: st) w i j := g_callVi0 C (As := []) (ci := 2) (c_X2_allWater h) (x_cwV C 0 LMX11_169 ⟨rfl, by decide, by decide, rfl⟩ hD (by decide)) rfl hq (by decide) rfl rfl hW hd hij k
theorem miX11_199 (C : xC x p s m c cc nL args RX11) {a0 : Nat} {K : Wd → Prop} {D MC MS : Nat} (hq : isK w a0 2) (h : w_X2_passHour a0 K w) (hD : 3 + 1 ≤ D) (hW : (st.map fun v => v.category).sum ≤ 8) (hij : i ≤ MC ∧ j ≤ MS) (hd : decode cc pc = .ok (.invokevirtual 199, 3)) (k : ∀ (u : Wd), K u → GW x p l e (rmd D MC MS) s m args below meth c nL Q (pc + 3) lo st u i j) : GW x p l e (rmd D MC MS) s m args below meth c nL Q pc lo (.ref (adr x a0) :: st) w i j := g_callVv0 C (As := []) (ci := 2) (c_X2_passHour h) (x_cwV C 0 LMX11_199 ⟨rfl, by decide, by decide, rfl⟩ hD (by decide)) rfl hq (by decide) rfl rfl hW hd hij k
theorem miX11_212 (C : xC x p s m c cc nL args RX11) {a0 : Nat} {a1 : Nat} {K : Wd → Prop} {D MC MS : Nat} (hq : isK w a0 2) (h : w_X2_become a0 a1 K w) (hD : 0 + 1 ≤ D) (hW : (st.map fun v => v.category).sum ≤ 8) (hij : i ≤ MC ∧ j ≤ MS) (hd : decode cc pc = .ok (.invokevirtual 212, 3)) (k : ∀ (u : Wd), K u → GW x p l e (rmd D MC MS) s m args below meth c nL Q (pc + 3) lo st u i j) : GW x p l e (rmd D MC MS) s m args below meth c nL Q pc lo (.ref (adr x a1) :: .ref (adr x a0) :: st) w i j := g_callVv0 C (As := [.ref (adr x a1)]) (ci := 2) (c_X2_become h) (x_cwV C 1 LMX11_212 ⟨rfl, by decide, by decide, rfl⟩ hD (by decide)) rfl hq (by decide) rfl rfl hW hd hij k
def l_X11_fullest_20  (K : Int32 → Wd → Prop) : Nat → Nat → Int32 → Int32 → Int32 → Wd → Prop
  | 0, _, _, _, _, _ => False
  | n + 1, a0, a1, a2, a3, w => ((200 < a3 → K a1 w) ∧ (¬ 200 < a3 → isK w a0 11 ∧ isK w (wR w a0 3) 2 ∧ w_X2_allWater (wR w a0 3) (fun r9 w10 => ((r9 ≤ a2 → isK w10 a0 11 ∧ isK w10 (wR w10 a0 3) 2 ∧ w_X2_passHour (wR w10 a0 3) (fun w14 => l_X11_fullest_20 K n a0 a1 a2 (a3 + 1) w14) w10) ∧ (¬ r9 ≤ a2 → isK w10 a0 11 ∧ isK w10 (wR w10 a0 3) 2 ∧ w_X2_passHour (wR w10 a0 3) (fun w17 => l_X11_fullest_20 K n a0 a3 r9 (a3 + 1) w17) w10))) w))
def w_X11_fullest (a0 : Nat) (K : Int32 → Wd → Prop) (w : Wd) : Prop :=
  isK w a0 11 ∧ isK w (wR w a0 3) 2 ∧ isK w (wR w a0 0) 5 ∧ isK w (wR w (wR w a0 0) 0) 2 ∧ w_X2_become (wR w a0 3) (wR w (wR w a0 0) 0) (fun w5 => ∃ n18, l_X11_fullest_20  K n18 a0 0 (-1) 0 w5) w
theorem t_X11_fullest_20 (C : xC x p s m c cX11_fullest 5 args RX11) (hlk : meth.locks = false) (hr : meth.sig.returnType = some .int) {K : Int32 → Wd → Prop}   : ∀ (n : Nat) (a0 : Nat) (a1 : Int32) (a2 : Int32) (a3 : Int32) (w : Wd), l_X11_fullest_20 K n a0 a1 a2 a3 w → GW x p l e (rmd 4 0 0) s m args below meth c 5 (QI x K below args s 0 0) 20 [(0, .ref (adr x a0)), (1, .int a1), (2, .int a2), (3, .int a3)] [] w 0 0 := by
  intro n
  induction n with
  | zero => intro _ _ _ _ _ h; exact False.elim h
  | succ n ih =>
    intro a0 a1 a2 a3 w h
    refine g_iload_n (pc := 20) C dX11_fullest_20 (q := 3) rfl ?_
    refine g_sipush (pc := 21) C dX11_fullest_21 (v := 200) rfl ?_
    refine g_icmp_gt (pc := 24) C dX11_fullest_24 (tgt := 60) rfl (fun z6 => ?_) (fun z6 => ?_)
    · replace h := h.1 z6
      refine g_iload_n (pc := 60) C dX11_fullest_60 (q := 1) rfl ?_
      exact g_iret (pc := 61) C hlk hr (Nat.le_refl _) (Nat.le_refl _) dX11_fullest_61 h
    · replace h := h.2 z6
      refine g_aload_n (pc := 27) C dX11_fullest_27 (q := 0) rfl ?_
      obtain ⟨k7, h⟩ := h
      obtain ⟨k8, h⟩ := h
      refine gfX11_54 (pc := 28) C k7 (isK_ne k8) dX11_fullest_28 ?_
      refine miX11_169 (pc := 31) C k8 h (Nat.le_of_ble_eq_true rfl) (Nat.le_of_ble_eq_true rfl) ⟨Nat.le_refl _, Nat.le_refl _⟩ dX11_fullest_31 (fun r9 w10 h => ?_)
      refine g_istore (pc := 34) C dX11_fullest_34 (Nat.le_of_ble_eq_true rfl) (lo' := [(4, .int r9), (0, .ref (adr x a0)), (1, .int a1), (2, .int a2), (3, .int a3)]) rfl ?_
      refine g_iload (pc := 36) C dX11_fullest_36 (q := 0) rfl ?_
      refine g_iload_n (pc := 38) C dX11_fullest_38 (q := 3) rfl ?_
      refine g_icmp_le (pc := 39) C dX11_fullest_39 (tgt := 47) rfl (fun z11 => ?_) (fun z11 => ?_)
      · replace h := h.1 z11
        refine g_aload_n (pc := 47) C dX11_fullest_47 (q := 1) rfl ?_
        obtain ⟨k12, h⟩ := h
        obtain ⟨k13, h⟩ := h
        refine gfX11_54 (pc := 48) C k12 (isK_ne k13) dX11_fullest_48 ?_
        refine miX11_199 (pc := 51) C k13 h (Nat.le_of_ble_eq_true rfl) (Nat.le_of_ble_eq_true rfl) ⟨Nat.le_refl _, Nat.le_refl _⟩ dX11_fullest_51 (fun w14 h => ?_)
        refine g_iinc (pc := 54) C dX11_fullest_54 (q := 4) rfl (v2 := a3 + 1) rfl (Nat.le_of_ble_eq_true rfl) (lo' := [(3, .int (a3 + 1)), (4, .int r9), (0, .ref (adr x a0)), (1, .int a1), (2, .int a2)]) rfl ?_
        refine g_goto (pc := 57) C dX11_fullest_57 (tgt := 20) rfl ?_
        refine g_sub [2, 3, 4, 0] rfl ?_
        exact ih _ _ _ _ _ h
      · replace h := h.2 z11
        refine g_iload (pc := 42) C dX11_fullest_42 (q := 0) rfl ?_
        refine g_istore_n (pc := 44) C dX11_fullest_44 (Nat.le_of_ble_eq_true rfl) (lo' := [(2, .int r9), (4, .int r9), (0, .ref (adr x a0)), (1, .int a1), (3, .int a3)]) rfl ?_
        refine g_iload_n (pc := 45) C dX11_fullest_45 (q := 4) rfl ?_
        refine g_istore_n (pc := 46) C dX11_fullest_46 (Nat.le_of_ble_eq_true rfl) (lo' := [(1, .int a3), (2, .int r9), (4, .int r9), (0, .ref (adr x a0)), (3, .int a3)]) rfl ?_
        refine g_aload_n (pc := 47) C dX11_fullest_47 (q := 3) rfl ?_
        obtain ⟨k15, h⟩ := h
        obtain ⟨k16, h⟩ := h
        refine gfX11_54 (pc := 48) C k15 (isK_ne k16) dX11_fullest_48 ?_
        refine miX11_199 (pc := 51) C k16 h (Nat.le_of_ble_eq_true rfl) (Nat.le_of_ble_eq_true rfl) ⟨Nat.le_refl _, Nat.le_refl _⟩ dX11_fullest_51 (fun w17 h => ?_)
        refine g_iinc (pc := 54) C dX11_fullest_54 (q := 4) rfl (v2 := a3 + 1) rfl (Nat.le_of_ble_eq_true rfl) (lo' := [(3, .int (a3 + 1)), (1, .int a3), (2, .int r9), (4, .int r9), (0, .ref (adr x a0))]) rfl ?_
        refine g_goto (pc := 57) C dX11_fullest_57 (tgt := 20) rfl ?_
        refine g_sub [4, 1, 2, 0] rfl ?_
        exact ih _ _ _ _ _ h
theorem c_X11_fullest {x : xG} {l : Launch} {a0 : Nat} {K : Int32 → Wd → Prop} {w : Wd} (h : w_X11_fullest a0 K w) : Met l yX11_fullest (xws yX11_fullest cX11_fullest 5 (some .int)) (rmd 4 0 0) (xPc x [.ref (adr x a0)] w) (QcI x K) 0 0 (xA x) := by
  refine xMet (by decide) (Nat.le_of_ble_eq_true rfl) (fun p e s m below meth c C hlk hr _ => ?_)
  show GW x p l e (rmd 4 0 0) s m [.ref (adr x a0)].toArray below meth c 5 (QI x K below [.ref (adr x a0)].toArray s 0 0) 0 [(0, .ref (adr x a0))] [] w 0 0
  refine g_aload_n (pc := 0) C dX11_fullest_0 (q := 0) rfl ?_
  obtain ⟨k1, h⟩ := h
  obtain ⟨k2, h⟩ := h
  refine gfX11_54 (pc := 1) C k1 (isK_ne k2) dX11_fullest_1 ?_
  refine g_aload_n (pc := 4) C dX11_fullest_4 (q := 0) rfl ?_
  obtain ⟨k3, h⟩ := h
  refine gfX11_49 (pc := 5) C k1 (isK_ne k3) dX11_fullest_5 ?_
  obtain ⟨k4, h⟩ := h
  refine gfX11_122 (pc := 8) C k3 (isK_ne k4) dX11_fullest_8 ?_
  refine miX11_212 (pc := 11) C k2 h (Nat.le_of_ble_eq_true rfl) (Nat.le_of_ble_eq_true rfl) ⟨Nat.le_refl _, Nat.le_refl _⟩ dX11_fullest_11 (fun w5 h => ?_)
  refine g_iconst (pc := 14) C dX11_fullest_14 (v := 0) rfl ?_
  refine g_istore_n (pc := 15) C dX11_fullest_15 (Nat.le_of_ble_eq_true rfl) (lo' := [(1, .int 0), (0, .ref (adr x a0))]) rfl ?_
  refine g_iconst (pc := 16) C dX11_fullest_16 (v := (-1)) rfl ?_
  refine g_istore_n (pc := 17) C dX11_fullest_17 (Nat.le_of_ble_eq_true rfl) (lo' := [(2, .int (-1)), (1, .int 0), (0, .ref (adr x a0))]) rfl ?_
  refine g_iconst (pc := 18) C dX11_fullest_18 (v := 0) rfl ?_
  refine g_istore_n (pc := 19) C dX11_fullest_19 (Nat.le_of_ble_eq_true rfl) (lo' := [(3, .int 0), (2, .int (-1)), (1, .int 0), (0, .ref (adr x a0))]) rfl ?_
  obtain ⟨n18, h⟩ := h
  refine g_sub [3, 2, 1, 0] rfl ?_
  refine t_X11_fullest_20 C hlk hr n18 _ _ _ _ _ h
theorem miX11_244 (C : xC x p s m c cc nL args RX11) {a0 : Nat} {K : Int32 → Wd → Prop} {D MC MS : Nat} (hq : isK w a0 1) (h : w_X1_allWells a0 K w) (hD : 0 + 1 ≤ D) (hW : (st.map fun v => v.category).sum ≤ 8) (hij : i ≤ MC ∧ j ≤ MS) (hd : decode cc pc = .ok (.invokevirtual 244, 3)) (k : ∀ (r : Int32) (u : Wd), K r u → GW x p l e (rmd D MC MS) s m args below meth c nL Q (pc + 3) lo (.int r :: st) u i j) : GW x p l e (rmd D MC MS) s m args below meth c nL Q pc lo (.ref (adr x a0) :: st) w i j := g_callVi0 C (As := []) (ci := 1) (c_X1_allWells h) (x_cwV C 0 LMX11_244 ⟨rfl, by decide, by decide, rfl⟩ hD (by decide)) rfl hq (by decide) rfl rfl hW hd hij k
theorem miX11_247 (C : xC x p s m c cc nL args RX11) {a0 : Nat} {a1 : Nat} {a2 : Int32} {K : Wd → Prop} {D MC MS : Nat} (hq : isK w a0 8) (h : w_X8_over a0 a1 a2 K w) (hD : 4 + 1 ≤ D) (hW : (st.map fun v => v.category).sum ≤ 8) (hij : i ≤ MC ∧ j ≤ MS) (hd : decode cc pc = .ok (.invokevirtual 247, 3)) (k : ∀ (u : Wd), K u → GW x p l e (rmd D MC MS) s m args below meth c nL Q (pc + 3) lo st u i j) : GW x p l e (rmd D MC MS) s m args below meth c nL Q pc lo (.int a2 :: .ref (adr x a1) :: .ref (adr x a0) :: st) w i j := g_callVv0 C (As := [.ref (adr x a1), .int a2]) (ci := 8) (c_X8_over h) (x_cwV C 2 LMX11_247 ⟨rfl, by decide, by decide, rfl⟩ hD (by decide)) rfl hq (by decide) rfl rfl hW hd hij k
theorem miX11_251 (C : xC x p s m c cc nL args RX11) {a0 : Nat} {K : Int32 → Wd → Prop} {D MC MS : Nat} (hq : isK w a0 8) (h : w_X8_joined a0 K w) (hD : 0 + 1 ≤ D) (hW : (st.map fun v => v.category).sum ≤ 8) (hij : i ≤ MC ∧ j ≤ MS) (hd : decode cc pc = .ok (.invokevirtual 251, 3)) (k : ∀ (r : Int32) (u : Wd), K r u → GW x p l e (rmd D MC MS) s m args below meth c nL Q (pc + 3) lo (.int r :: st) u i j) : GW x p l e (rmd D MC MS) s m args below meth c nL Q pc lo (.ref (adr x a0) :: st) w i j := g_callVi0 C (As := []) (ci := 8) (c_X8_joined h) (x_cwV C 0 LMX11_251 ⟨rfl, by decide, by decide, rfl⟩ hD (by decide)) rfl hq (by decide) rfl rfl hW hd hij k
def w_X11_joint (a0 : Nat) (K : Int32 → Wd → Prop) (w : Wd) : Prop :=
  isK w a0 11 ∧ isK w (wR w a0 7) 8 ∧ isK w (wR w a0 0) 5 ∧ isK w (wR w (wR w a0 0) 0) 2 ∧ isK w (wR w (wR w (wR w a0 0) 0) 0) 1 ∧ w_X1_allWells (wR w (wR w (wR w a0 0) 0) 0) (fun r6 w7 => isK w7 (wR w a0 7) 8 ∧ w_X8_over (wR w a0 7) (wR w (wR w a0 0) 0) r6 (fun w9 => isK w9 a0 11 ∧ isK w9 (wR w9 a0 7) 8 ∧ w_X8_joined (wR w9 a0 7) (fun r12 w13 => K r12 w13) w9) w7) w
theorem c_X11_joint {x : xG} {l : Launch} {a0 : Nat} {K : Int32 → Wd → Prop} {w : Wd} (h : w_X11_joint a0 K w) : Met l yX11_joint (xws yX11_joint cX11_joint 1 (some .int)) (rmd 5 0 0) (xPc x [.ref (adr x a0)] w) (QcI x K) 0 0 (xA x) := by
  refine xMet (by decide) (Nat.le_of_ble_eq_true rfl) (fun p e s m below meth c C hlk hr _ => ?_)
  show GW x p l e (rmd 5 0 0) s m [.ref (adr x a0)].toArray below meth c 1 (QI x K below [.ref (adr x a0)].toArray s 0 0) 0 [(0, .ref (adr x a0))] [] w 0 0
  refine g_aload_n (pc := 0) C dX11_joint_0 (q := 0) rfl ?_
  obtain ⟨k1, h⟩ := h
  obtain ⟨k2, h⟩ := h
  refine gfX11_24 (pc := 1) C k1 (isK_ne k2) dX11_joint_1 ?_
  refine g_aload_n (pc := 4) C dX11_joint_4 (q := 0) rfl ?_
  obtain ⟨k3, h⟩ := h
  refine gfX11_49 (pc := 5) C k1 (isK_ne k3) dX11_joint_5 ?_
  obtain ⟨k4, h⟩ := h
  refine gfX11_122 (pc := 8) C k3 (isK_ne k4) dX11_joint_8 ?_
  refine g_aload_n (pc := 11) C dX11_joint_11 (q := 0) rfl ?_
  refine gfX11_49 (pc := 12) C k1 (isK_ne k3) dX11_joint_12 ?_
  refine gfX11_122 (pc := 15) C k3 (isK_ne k4) dX11_joint_15 ?_
  obtain ⟨k5, h⟩ := h
  refine gfX11_125 (pc := 18) C k4 (isK_ne k5) dX11_joint_18 ?_
  refine miX11_244 (pc := 21) C k5 h (Nat.le_of_ble_eq_true rfl) (Nat.le_of_ble_eq_true rfl) ⟨Nat.le_refl _, Nat.le_refl _⟩ dX11_joint_21 (fun r6 w7 h => ?_)
  obtain ⟨k8, h⟩ := h
  refine miX11_247 (pc := 24) C k8 h (Nat.le_of_ble_eq_true rfl) (Nat.le_of_ble_eq_true rfl) ⟨Nat.le_refl _, Nat.le_refl _⟩ dX11_joint_24 (fun w9 h => ?_)
  refine g_aload_n (pc := 27) C dX11_joint_27 (q := 0) rfl ?_
  obtain ⟨k10, h⟩ := h
  obtain ⟨k11, h⟩ := h
  refine gfX11_24 (pc := 28) C k10 (isK_ne k11) dX11_joint_28 ?_
  refine miX11_251 (pc := 31) C k11 h (Nat.le_of_ble_eq_true rfl) (Nat.le_of_ble_eq_true rfl) ⟨Nat.le_refl _, Nat.le_refl _⟩ dX11_joint_31 (fun r12 w13 h => ?_)
  exact g_iret (pc := 34) C hlk hr (Nat.le_refl _) (Nat.le_refl _) dX11_joint_34 h
def l_X11_lookAhead_16  (K : Wd → Prop) : Nat → Nat → Int32 → Int32 → Wd → Prop
  | 0, _, _, _, _ => False
  | n + 1, a0, a1, a2, w => ((a1 ≤ a2 → K w) ∧ (¬ a1 ≤ a2 → isK w a0 11 ∧ isK w (wR w a0 3) 2 ∧ w_X2_passHour (wR w a0 3) (fun w9 => l_X11_lookAhead_16 K n a0 a1 (a2 + 1) w9) w))
def w_X11_lookAhead (a0 : Nat) (a1 : Int32) (K : Wd → Prop) (w : Wd) : Prop :=
  isK w a0 11 ∧ isK w (wR w a0 3) 2 ∧ isK w (wR w a0 0) 5 ∧ isK w (wR w (wR w a0 0) 0) 2 ∧ w_X2_become (wR w a0 3) (wR w (wR w a0 0) 0) (fun w5 => ∃ n10, l_X11_lookAhead_16  K n10 a0 a1 0 w5) w
theorem t_X11_lookAhead_16 (C : xC x p s m c cX11_lookAhead 3 args RX11) (hlk : meth.locks = false) (hr : meth.sig.returnType = none) {K : Wd → Prop}   : ∀ (n : Nat) (a0 : Nat) (a1 : Int32) (a2 : Int32) (w : Wd), l_X11_lookAhead_16 K n a0 a1 a2 w → GW x p l e (rmd 4 0 0) s m args below meth c 3 (QV x K below args s 0 0) 16 [(0, .ref (adr x a0)), (1, .int a1), (2, .int a2)] [] w 0 0 := by
  intro n
  induction n with
  | zero => intro _ _ _ _ h; exact False.elim h
  | succ n ih =>
    intro a0 a1 a2 w h
    refine g_iload_n (pc := 16) C dX11_lookAhead_16 (q := 2) rfl ?_
    refine g_iload_n (pc := 17) C dX11_lookAhead_17 (q := 1) rfl ?_
    refine g_icmp_ge (pc := 18) C dX11_lookAhead_18 (tgt := 34) rfl (fun z6 => ?_) (fun z6 => ?_)
    · replace h := h.1 z6
      exact g_vret (pc := 34) C hlk hr (Nat.le_refl _) (Nat.le_refl _) dX11_lookAhead_34 h
    · replace h := h.2 z6
      refine g_aload_n (pc := 21) C dX11_lookAhead_21 (q := 0) rfl ?_
      obtain ⟨k7, h⟩ := h
      obtain ⟨k8, h⟩ := h
      refine gfX11_54 (pc := 22) C k7 (isK_ne k8) dX11_lookAhead_22 ?_
      refine miX11_199 (pc := 25) C k8 h (Nat.le_of_ble_eq_true rfl) (Nat.le_of_ble_eq_true rfl) ⟨Nat.le_refl _, Nat.le_refl _⟩ dX11_lookAhead_25 (fun w9 h => ?_)
      refine g_iinc (pc := 28) C dX11_lookAhead_28 (q := 2) rfl (v2 := a2 + 1) rfl (Nat.le_of_ble_eq_true rfl) (lo' := [(2, .int (a2 + 1)), (0, .ref (adr x a0)), (1, .int a1)]) rfl ?_
      refine g_goto (pc := 31) C dX11_lookAhead_31 (tgt := 16) rfl ?_
      refine g_sub [1, 2, 0] rfl ?_
      exact ih _ _ _ _ h
theorem c_X11_lookAhead {x : xG} {l : Launch} {a0 : Nat} {a1 : Int32} {K : Wd → Prop} {w : Wd} (h : w_X11_lookAhead a0 a1 K w) : Met l yX11_lookAhead (xws yX11_lookAhead cX11_lookAhead 3 none) (rmd 4 0 0) (xPc x [.ref (adr x a0), .int a1] w) (QcV x K) 0 0 (xA x) := by
  refine xMet (by decide) (Nat.le_of_ble_eq_true rfl) (fun p e s m below meth c C hlk hr _ => ?_)
  show GW x p l e (rmd 4 0 0) s m [.ref (adr x a0), .int a1].toArray below meth c 3 (QV x K below [.ref (adr x a0), .int a1].toArray s 0 0) 0 [(0, .ref (adr x a0)), (1, .int a1)] [] w 0 0
  refine g_aload_n (pc := 0) C dX11_lookAhead_0 (q := 0) rfl ?_
  obtain ⟨k1, h⟩ := h
  obtain ⟨k2, h⟩ := h
  refine gfX11_54 (pc := 1) C k1 (isK_ne k2) dX11_lookAhead_1 ?_
  refine g_aload_n (pc := 4) C dX11_lookAhead_4 (q := 0) rfl ?_
  obtain ⟨k3, h⟩ := h
  refine gfX11_49 (pc := 5) C k1 (isK_ne k3) dX11_lookAhead_5 ?_
  obtain ⟨k4, h⟩ := h
  refine gfX11_122 (pc := 8) C k3 (isK_ne k4) dX11_lookAhead_8 ?_
  refine miX11_212 (pc := 11) C k2 h (Nat.le_of_ble_eq_true rfl) (Nat.le_of_ble_eq_true rfl) ⟨Nat.le_refl _, Nat.le_refl _⟩ dX11_lookAhead_11 (fun w5 h => ?_)
  refine g_iconst (pc := 14) C dX11_lookAhead_14 (v := 0) rfl ?_
  refine g_istore_n (pc := 15) C dX11_lookAhead_15 (Nat.le_of_ble_eq_true rfl) (lo' := [(2, .int 0), (0, .ref (adr x a0)), (1, .int a1)]) rfl ?_
  obtain ⟨n10, h⟩ := h
  refine g_sub [1, 2, 0] rfl ?_
  refine t_X11_lookAhead_16 C hlk hr n10 _ _ _ _ h
theorem miX11_135 (C : xC x p s m c cc nL args RX11) {a0 : Nat} {a1 : Int32} {K : Int32 → Wd → Prop} {D MC MS : Nat} (hq : isK w a0 2) (h : w_X2_shiftOf a0 a1 K w) (hD : 0 + 1 ≤ D) (hW : (st.map fun v => v.category).sum ≤ 8) (hij : i ≤ MC ∧ j ≤ MS) (hd : decode cc pc = .ok (.invokevirtual 135, 3)) (k : ∀ (r : Int32) (u : Wd), K r u → GW x p l e (rmd D MC MS) s m args below meth c nL Q (pc + 3) lo (.int r :: st) u i j) : GW x p l e (rmd D MC MS) s m args below meth c nL Q pc lo (.int a1 :: .ref (adr x a0) :: st) w i j := g_callVi0 C (As := [.int a1]) (ci := 2) (c_X2_shiftOf h) (x_cwV C 1 LMX11_135 ⟨rfl, by decide, by decide, rfl⟩ hD (by decide)) rfl hq (by decide) rfl rfl hW hd hij k
theorem miX11_182 (C : xC x p s m c cc nL args RX11) {a0 : Nat} {a1 : Int32} {K : Int32 → Wd → Prop} {D MC MS : Nat} (h : w_X0_whyNotLull a0 a1 K w) (hD : 3 + 1 ≤ D) (hW : (st.map fun v => v.category).sum ≤ 8) (hij : i ≤ MC ∧ j ≤ MS) (hd : decode cc pc = .ok (.invokestatic 182, 3)) (k : ∀ (r : Int32) (u : Wd), K r u → GW x p l e (rmd D MC MS) s m args below meth c nL Q (pc + 3) lo (.int r :: st) u i j) : GW x p l e (rmd D MC MS) s m args below meth c nL Q pc lo (.int a1 :: .ref (adr x a0) :: st) w i j := g_callSi0 C (As := [.ref (adr x a0), .int a1]) (c_X0_whyNotLull h) (x_cwS C 2 LMX11_182 ⟨by decide, by decide, rfl⟩ hD (by decide)) rfl rfl hW hd hij k
theorem miX11_186 (C : xC x p s m c cc nL args RX11) {a0 : Nat} {a1 : Int32} {K : Wd → Prop} {D MC MS : Nat} (hq : isK w a0 2) (h : w_X2_putToSleep a0 a1 K w) (hD : 2 + 1 ≤ D) (hW : (st.map fun v => v.category).sum ≤ 8) (hij : i ≤ MC ∧ j ≤ MS) (hd : decode cc pc = .ok (.invokevirtual 186, 3)) (k : ∀ (u : Wd), K u → GW x p l e (rmd D MC MS) s m args below meth c nL Q (pc + 3) lo st u i j) : GW x p l e (rmd D MC MS) s m args below meth c nL Q pc lo (.int a1 :: .ref (adr x a0) :: st) w i j := g_callVv0 C (As := [.int a1]) (ci := 2) (c_X2_putToSleep h) (x_cwV C 1 LMX11_186 ⟨rfl, by decide, by decide, rfl⟩ hD (by decide)) rfl hq (by decide) rfl rfl hW hd hij k
def w_X11_lull (a0 : Nat) (a1 : Int32) (K : Int32 → Wd → Prop) (w : Wd) : Prop :=
  isK w a0 11 ∧ isK w (wR w a0 0) 5 ∧ isK w (wR w (wR w a0 0) 0) 2 ∧ w_X0_whyNotLull (wR w (wR w a0 0) 0) a1 (fun r4 w5 => ((r4 = 0 → isK w5 a0 11 ∧ isK w5 (wR w5 a0 0) 5 ∧ w_X5_remember (wR w5 a0 0) (fun w9 => isK w9 a0 11 ∧ isK w9 (wR w9 a0 0) 5 ∧ isK w9 (wR w9 (wR w9 a0 0) 0) 2 ∧ w_X2_putToSleep (wR w9 (wR w9 a0 0) 0) a1 (fun w13 => isK w13 a0 11 ∧ isK w13 (wR w13 a0 0) 5 ∧ isK w13 (wR w13 (wR w13 a0 0) 0) 2 ∧ w_X2_shiftOf (wR w13 (wR w13 a0 0) 0) a1 (fun r17 w18 => K r17 w18) w13) w9) w5) ∧ (¬ r4 = 0 → K ((-10) - r4) w5))) w
theorem c_X11_lull {x : xG} {l : Launch} {a0 : Nat} {a1 : Int32} {K : Int32 → Wd → Prop} {w : Wd} (h : w_X11_lull a0 a1 K w) : Met l yX11_lull (xws yX11_lull cX11_lull 3 (some .int)) (rmd 4 0 0) (xPc x [.ref (adr x a0), .int a1] w) (QcI x K) 0 0 (xA x) := by
  refine xMet (by decide) (Nat.le_of_ble_eq_true rfl) (fun p e s m below meth c C hlk hr _ => ?_)
  show GW x p l e (rmd 4 0 0) s m [.ref (adr x a0), .int a1].toArray below meth c 3 (QI x K below [.ref (adr x a0), .int a1].toArray s 0 0) 0 [(0, .ref (adr x a0)), (1, .int a1)] [] w 0 0
  refine g_aload_n (pc := 0) C dX11_lull_0 (q := 0) rfl ?_
  obtain ⟨k1, h⟩ := h
  obtain ⟨k2, h⟩ := h
  refine gfX11_49 (pc := 1) C k1 (isK_ne k2) dX11_lull_1 ?_
  obtain ⟨k3, h⟩ := h
  refine gfX11_122 (pc := 4) C k2 (isK_ne k3) dX11_lull_4 ?_
  refine g_iload_n (pc := 7) C dX11_lull_7 (q := 1) rfl ?_
  refine miX11_182 (pc := 8) C h (Nat.le_of_ble_eq_true rfl) (Nat.le_of_ble_eq_true rfl) ⟨Nat.le_refl _, Nat.le_refl _⟩ dX11_lull_8 (fun r4 w5 h => ?_)
  refine g_istore_n (pc := 11) C dX11_lull_11 (Nat.le_of_ble_eq_true rfl) (lo' := [(2, .int r4), (0, .ref (adr x a0)), (1, .int a1)]) rfl ?_
  refine g_iload_n (pc := 12) C dX11_lull_12 (q := 0) rfl ?_
  refine g_if_eq (pc := 13) C dX11_lull_13 (tgt := 21) rfl (fun z6 => ?_) (fun z6 => ?_)
  · replace h := h.1 z6
    refine g_aload_n (pc := 21) C dX11_lull_21 (q := 1) rfl ?_
    obtain ⟨k7, h⟩ := h
    obtain ⟨k8, h⟩ := h
    refine gfX11_49 (pc := 22) C k7 (isK_ne k8) dX11_lull_22 ?_
    refine miX11_176 (pc := 25) C k8 h (Nat.le_of_ble_eq_true rfl) (Nat.le_of_ble_eq_true rfl) ⟨Nat.le_refl _, Nat.le_refl _⟩ dX11_lull_25 (fun w9 h => ?_)
    refine g_aload_n (pc := 28) C dX11_lull_28 (q := 1) rfl ?_
    obtain ⟨k10, h⟩ := h
    obtain ⟨k11, h⟩ := h
    refine gfX11_49 (pc := 29) C k10 (isK_ne k11) dX11_lull_29 ?_
    obtain ⟨k12, h⟩ := h
    refine gfX11_122 (pc := 32) C k11 (isK_ne k12) dX11_lull_32 ?_
    refine g_iload_n (pc := 35) C dX11_lull_35 (q := 2) rfl ?_
    refine miX11_186 (pc := 36) C k12 h (Nat.le_of_ble_eq_true rfl) (Nat.le_of_ble_eq_true rfl) ⟨Nat.le_refl _, Nat.le_refl _⟩ dX11_lull_36 (fun w13 h => ?_)
    refine g_aload_n (pc := 39) C dX11_lull_39 (q := 1) rfl ?_
    obtain ⟨k14, h⟩ := h
    obtain ⟨k15, h⟩ := h
    refine gfX11_49 (pc := 40) C k14 (isK_ne k15) dX11_lull_40 ?_
    obtain ⟨k16, h⟩ := h
    refine gfX11_122 (pc := 43) C k15 (isK_ne k16) dX11_lull_43 ?_
    refine g_iload_n (pc := 46) C dX11_lull_46 (q := 2) rfl ?_
    refine miX11_135 (pc := 47) C k16 h (Nat.le_of_ble_eq_true rfl) (Nat.le_of_ble_eq_true rfl) ⟨Nat.le_refl _, Nat.le_refl _⟩ dX11_lull_47 (fun r17 w18 h => ?_)
    exact g_iret (pc := 50) C hlk hr (Nat.le_refl _) (Nat.le_refl _) dX11_lull_50 h
  · replace h := h.2 z6
    refine g_bipush (pc := 16) C dX11_lull_16 (v := (-10)) rfl ?_
    refine g_iload_n (pc := 18) C dX11_lull_18 (q := 0) rfl ?_
    refine g_isub (pc := 19) C dX11_lull_19 ?_
    exact g_iret (pc := 20) C hlk hr (Nat.le_refl _) (Nat.le_refl _) dX11_lull_20 h
def w_X11_sizeOrSet (a0 : Int32) (a1 : Int32) (K : Int32 → Wd → Prop) (w : Wd) : Prop :=
  ((0 ≤ a0 → ((a1 = 0 → w_J6_bitCount_0f7a4 a0 (fun r3 w4 => K r3 w4) w) ∧ (¬ a1 = 0 → K a0 w))) ∧ (¬ 0 ≤ a0 → K (-1) w))
theorem c_X11_sizeOrSet {x : xG} {l : Launch} {a0 : Int32} {a1 : Int32} {K : Int32 → Wd → Prop} {w : Wd} (h : w_X11_sizeOrSet a0 a1 K w) : Met l yX11_sizeOrSet (xws yX11_sizeOrSet cX11_sizeOrSet 2 (some .int)) (rmd 1 0 0) (xPc x [.int a0, .int a1] w) (QcI x K) 0 0 (xA x) := by
  refine xMet (by decide) (Nat.le_of_ble_eq_true rfl) (fun p e s m below meth c C hlk hr _ => ?_)
  show GW x p l e (rmd 1 0 0) s m [.int a0, .int a1].toArray below meth c 2 (QI x K below [.int a0, .int a1].toArray s 0 0) 0 [(0, .int a0), (1, .int a1)] [] w 0 0
  refine g_iload_n (pc := 0) C dX11_sizeOrSet_0 (q := 0) rfl ?_
  refine g_if_ge (pc := 1) C dX11_sizeOrSet_1 (tgt := 6) rfl (fun z1 => ?_) (fun z1 => ?_)
  · replace h := h.1 z1
    refine g_iload_n (pc := 6) C dX11_sizeOrSet_6 (q := 1) rfl ?_
    refine g_if_ne (pc := 7) C dX11_sizeOrSet_7 (tgt := 17) rfl (fun z2 => ?_) (fun z2 => ?_)
    · replace h := h.2 z2
      refine g_iload_n (pc := 17) C dX11_sizeOrSet_17 (q := 0) rfl ?_
      exact g_iret (pc := 18) C hlk hr (Nat.le_refl _) (Nat.le_refl _) dX11_sizeOrSet_18 h
    · replace h := h.1 z2
      refine g_iload_n (pc := 10) C dX11_sizeOrSet_10 (q := 0) rfl ?_
      refine miX11_257 (pc := 11) C h (Nat.le_of_ble_eq_true rfl) (Nat.le_of_ble_eq_true rfl) ⟨Nat.le_refl _, Nat.le_refl _⟩ dX11_sizeOrSet_11 (fun r3 w4 h => ?_)
      refine g_goto (pc := 14) C dX11_sizeOrSet_14 (tgt := 18) rfl ?_
      exact g_iret (pc := 18) C hlk hr (Nat.le_refl _) (Nat.le_refl _) dX11_sizeOrSet_18 h
  · replace h := h.2 z1
    refine g_iconst (pc := 4) C dX11_sizeOrSet_4 (v := (-1)) rfl ?_
    exact g_iret (pc := 5) C hlk hr (Nat.le_refl _) (Nat.le_refl _) dX11_sizeOrSet_5 h
theorem miX11_195 (C : xC x p s m c cc nL args RX11) {a0 : Nat} {a1 : Nat} {K : Int32 → Wd → Prop} {D MC MS : Nat} (hq : isK w a0 0) (h : w_X0_thunderOver a0 a1 K w) (hD : 4 + 1 ≤ D) (hW : (st.map fun v => v.category).sum ≤ 8) (hij : i ≤ MC ∧ j ≤ MS) (hd : decode cc pc = .ok (.invokevirtual 195, 3)) (k : ∀ (r : Int32) (u : Wd), K r u → GW x p l e (rmd D MC MS) s m args below meth c nL Q (pc + 3) lo (.int r :: st) u i j) : GW x p l e (rmd D MC MS) s m args below meth c nL Q pc lo (.ref (adr x a1) :: .ref (adr x a0) :: st) w i j := g_callVi0 C (As := [.ref (adr x a1)]) (ci := 0) (c_X0_thunderOver h) (x_cwV C 1 LMX11_195 ⟨rfl, by decide, by decide, rfl⟩ hD (by decide)) rfl hq (by decide) rfl rfl hW hd hij k
def w_X11_thunder (a0 : Nat) (K : Int32 → Wd → Prop) (w : Wd) : Prop :=
  isK w a0 11 ∧ isK w (wR w a0 0) 5 ∧ w_X5_remember (wR w a0 0) (fun w3 => isK w3 a0 11 ∧ isK w3 (wR w3 a0 6) 0 ∧ isK w3 (wR w3 a0 0) 5 ∧ isK w3 (wR w3 (wR w3 a0 0) 0) 2 ∧ w_X0_thunderOver (wR w3 a0 6) (wR w3 (wR w3 a0 0) 0) (fun r8 w9 => K r8 w9) w3) w
theorem c_X11_thunder {x : xG} {l : Launch} {a0 : Nat} {K : Int32 → Wd → Prop} {w : Wd} (h : w_X11_thunder a0 K w) : Met l yX11_thunder (xws yX11_thunder cX11_thunder 1 (some .int)) (rmd 5 0 0) (xPc x [.ref (adr x a0)] w) (QcI x K) 0 0 (xA x) := by
  refine xMet (by decide) (Nat.le_of_ble_eq_true rfl) (fun p e s m below meth c C hlk hr _ => ?_)
  show GW x p l e (rmd 5 0 0) s m [.ref (adr x a0)].toArray below meth c 1 (QI x K below [.ref (adr x a0)].toArray s 0 0) 0 [(0, .ref (adr x a0))] [] w 0 0
  refine g_aload_n (pc := 0) C dX11_thunder_0 (q := 0) rfl ?_
  obtain ⟨k1, h⟩ := h
  obtain ⟨k2, h⟩ := h
  refine gfX11_49 (pc := 1) C k1 (isK_ne k2) dX11_thunder_1 ?_
  refine miX11_176 (pc := 4) C k2 h (Nat.le_of_ble_eq_true rfl) (Nat.le_of_ble_eq_true rfl) ⟨Nat.le_refl _, Nat.le_refl _⟩ dX11_thunder_4 (fun w3 h => ?_)
  refine g_aload_n (pc := 7) C dX11_thunder_7 (q := 0) rfl ?_
  obtain ⟨k4, h⟩ := h
  obtain ⟨k5, h⟩ := h
  refine gfX11_74 (pc := 8) C k4 (isK_ne k5) dX11_thunder_8 ?_
  refine g_aload_n (pc := 11) C dX11_thunder_11 (q := 0) rfl ?_
  obtain ⟨k6, h⟩ := h
  refine gfX11_49 (pc := 12) C k4 (isK_ne k6) dX11_thunder_12 ?_
  obtain ⟨k7, h⟩ := h
  refine gfX11_122 (pc := 15) C k6 (isK_ne k7) dX11_thunder_15 ?_
  refine miX11_195 (pc := 18) C k5 h (Nat.le_of_ble_eq_true rfl) (Nat.le_of_ble_eq_true rfl) ⟨Nat.le_refl _, Nat.le_refl _⟩ dX11_thunder_18 (fun r8 w9 h => ?_)
  exact g_iret (pc := 21) C hlk hr (Nat.le_refl _) (Nat.le_refl _) dX11_thunder_21 h
def w_X11_water (a0 : Nat) (K : Int32 → Wd → Prop) (w : Wd) : Prop :=
  isK w a0 11 ∧ isK w (wR w a0 0) 5 ∧ isK w (wR w (wR w a0 0) 0) 2 ∧ w_X2_allWater (wR w (wR w a0 0) 0) (fun r4 w5 => K r4 w5) w
theorem c_X11_water {x : xG} {l : Launch} {a0 : Nat} {K : Int32 → Wd → Prop} {w : Wd} (h : w_X11_water a0 K w) : Met l yX11_water (xws yX11_water cX11_water 1 (some .int)) (rmd 2 0 0) (xPc x [.ref (adr x a0)] w) (QcI x K) 0 0 (xA x) := by
  refine xMet (by decide) (Nat.le_of_ble_eq_true rfl) (fun p e s m below meth c C hlk hr _ => ?_)
  show GW x p l e (rmd 2 0 0) s m [.ref (adr x a0)].toArray below meth c 1 (QI x K below [.ref (adr x a0)].toArray s 0 0) 0 [(0, .ref (adr x a0))] [] w 0 0
  refine g_aload_n (pc := 0) C dX11_water_0 (q := 0) rfl ?_
  obtain ⟨k1, h⟩ := h
  obtain ⟨k2, h⟩ := h
  refine gfX11_49 (pc := 1) C k1 (isK_ne k2) dX11_water_1 ?_
  obtain ⟨k3, h⟩ := h
  refine gfX11_122 (pc := 4) C k2 (isK_ne k3) dX11_water_4 ?_
  refine miX11_169 (pc := 7) C k3 h (Nat.le_of_ble_eq_true rfl) (Nat.le_of_ble_eq_true rfl) ⟨Nat.le_refl _, Nat.le_refl _⟩ dX11_water_7 (fun r4 w5 h => ?_)
  exact g_iret (pc := 10) C hlk hr (Nat.le_refl _) (Nat.le_refl _) dX11_water_10 h
theorem miX12_99 (C : xC x p s m c cc nL args RX12) {a0 : Nat} {K : Int32 → Wd → Prop} {D MC MS : Nat} (h : w_J0_length_8abf5 a0 K w) (hD : 6 + 1 ≤ D) (hW : (st.map fun v => v.category).sum ≤ 8) (hij : i ≤ MC ∧ j ≤ MS) (hd : decode cc pc = .ok (.invokevirtual 99, 3)) (k : ∀ (r : Int32) (u : Wd), K r u → GW x p l e (rmd D MC MS) s m args below meth c nL Q (pc + 3) lo (.int r :: st) u i j) : GW x p l e (rmd D MC MS) s m args below meth c nL Q pc lo (.ref (adr x a0) :: st) w i j := g_callT0 C (As := []) h.1 (c_J0_length_8abf5 h) (x_cwV C 0 LMX12_99 ⟨rfl, by decide, by decide, rfl⟩ hD (by decide)) rfl rfl hW hd hij k
theorem miX12_104 (C : xC x p s m c cc nL args RX12) {a0 : Nat} {a1 : Int32} {K : Int32 → Wd → Prop} {D MC MS : Nat} (h : w_J0_charAt_5068e a0 a1 K w) (hD : 6 + 1 ≤ D) (hW : (st.map fun v => v.category).sum ≤ 8) (hij : i ≤ MC ∧ j ≤ MS) (hd : decode cc pc = .ok (.invokevirtual 104, 3)) (k : ∀ (r : Int32) (u : Wd), K r u → GW x p l e (rmd D MC MS) s m args below meth c nL Q (pc + 3) lo (.int r :: st) u i j) : GW x p l e (rmd D MC MS) s m args below meth c nL Q pc lo (.int a1 :: .ref (adr x a0) :: st) w i j := g_callT0 C (As := [.int a1]) h.1 (c_J0_charAt_5068e h) (x_cwV C 1 LMX12_104 ⟨rfl, by decide, by decide, rfl⟩ hD (by decide)) rfl rfl hW hd hij k
def l_X12_isWord_39  (K : Int32 → Wd → Prop) : Nat → Nat → Nat → Int32 → Int32 → Wd → Prop
  | 0, _, _, _, _, _ => False
  | n + 1, a0, a1, a2, a3, w => ((a2 = 0 → (a2 = 0 ∨ a2 = 1) ∧ K a2 w) ∧ (¬ a2 = 0 → w_J0_length_8abf5 a1 (fun r4 w5 => ((r4 ≤ a3 → (a2 = 0 ∨ a2 = 1) ∧ K a2 w5) ∧ (¬ r4 ≤ a3 → isK w5 a0 12 ∧ isK w5 (wR w5 a0 5) 20 ∧ vp_in ((wI w5 a0 9) + a3) (wn w5 (wR w5 a0 5)) ∧ w_J0_charAt_5068e a1 a3 (fun r10 w11 => (((wI w5 (wR w5 a0 5) ((wI w5 a0 9) + a3).toNatClampNeg) = r10 → l_X12_isWord_39 K n a0 a1 1 (a3 + 1) w11) ∧ (¬ (wI w5 (wR w5 a0 5) ((wI w5 a0 9) + a3).toNatClampNeg) = r10 → l_X12_isWord_39 K n a0 a1 0 (a3 + 1) w11))) w5))) w))
def w_X12_isWord (a0 : Nat) (a1 : Nat) (K : Int32 → Wd → Prop) (w : Wd) : Prop :=
  isK w a0 12 ∧ (((wI w a0 12) = 0 → (((wI w a0 10) = 1 → w_J0_length_8abf5 a1 (fun r16 w17 => ((((wI w a0 8) - (wI w a0 9)) = r16 → ∃ n20, l_X12_isWord_39  K n20 a0 a1 1 0 w17) ∧ (¬ ((wI w a0 8) - (wI w a0 9)) = r16 → ∃ n19, l_X12_isWord_39  K n19 a0 a1 0 0 w17))) w) ∧ (¬ (wI w a0 10) = 1 → ∃ n15, l_X12_isWord_39  K n15 a0 a1 0 0 w))) ∧ (¬ (wI w a0 12) = 0 → ∃ n13, l_X12_isWord_39  K n13 a0 a1 0 0 w))
theorem t_X12_isWord_39 (C : xC x p s m c cX12_isWord 4 args RX12) (hlk : meth.locks = false) (hr : meth.sig.returnType = some .boolean) {K : Int32 → Wd → Prop}   : ∀ (n : Nat) (a0 : Nat) (a1 : Nat) (a2 : Int32) (a3 : Int32) (w : Wd), l_X12_isWord_39 K n a0 a1 a2 a3 w → GW x p l e (rmd 7 0 0) s m args below meth c 4 (QI x K below args s 0 0) 39 [(0, .ref (adr x a0)), (1, .ref (adr x a1)), (2, .int a2), (3, .int a3)] [] w 0 0 := by
  intro n
  induction n with
  | zero => intro _ _ _ _ _ h; exact False.elim h
  | succ n ih =>
    intro a0 a1 a2 a3 w h
    refine g_iload_n (pc := 39) C dX12_isWord_39 (q := 2) rfl ?_
    refine g_if_eq (pc := 40) C dX12_isWord_40 (tgt := 82) rfl (fun z3 => ?_) (fun z3 => ?_)
    · replace h := h.1 z3
      refine g_iload_n (pc := 82) C dX12_isWord_82 (q := 2) rfl ?_
      exact g_zret (pc := 83) C hlk hr (Nat.le_refl _) (Nat.le_refl _) dX12_isWord_83 h.1 h.2
    · replace h := h.2 z3
      refine g_iload_n (pc := 43) C dX12_isWord_43 (q := 3) rfl ?_
      refine g_aload_n (pc := 44) C dX12_isWord_44 (q := 1) rfl ?_
      refine miX12_99 (pc := 45) C h (Nat.le_of_ble_eq_true rfl) (Nat.le_of_ble_eq_true rfl) ⟨Nat.le_refl _, Nat.le_refl _⟩ dX12_isWord_45 (fun r4 w5 h => ?_)
      refine g_icmp_ge (pc := 48) C dX12_isWord_48 (tgt := 82) rfl (fun z6 => ?_) (fun z6 => ?_)
      · replace h := h.1 z6
        refine g_iload_n (pc := 82) C dX12_isWord_82 (q := 2) rfl ?_
        exact g_zret (pc := 83) C hlk hr (Nat.le_refl _) (Nat.le_refl _) dX12_isWord_83 h.1 h.2
      · replace h := h.2 z6
        refine g_aload_n (pc := 51) C dX12_isWord_51 (q := 0) rfl ?_
        obtain ⟨k7, h⟩ := h
        obtain ⟨k8, h⟩ := h
        refine gfX12_23 (pc := 52) C k7 (isK_ne k8) dX12_isWord_52 ?_
        refine g_aload_n (pc := 55) C dX12_isWord_55 (q := 0) rfl ?_
        refine gfX12_70 (pc := 56) C k7 dX12_isWord_56 ?_
        refine g_iload_n (pc := 59) C dX12_isWord_59 (q := 3) rfl ?_
        refine g_iadd (pc := 60) C dX12_isWord_60 ?_
        obtain ⟨k9, h⟩ := h
        refine g_iald (pc := 61) C k8 k9 dX12_isWord_61 ?_
        refine g_aload_n (pc := 62) C dX12_isWord_62 (q := 1) rfl ?_
        refine g_iload_n (pc := 63) C dX12_isWord_63 (q := 3) rfl ?_
        refine miX12_104 (pc := 64) C h (Nat.le_of_ble_eq_true rfl) (Nat.le_of_ble_eq_true rfl) ⟨Nat.le_refl _, Nat.le_refl _⟩ dX12_isWord_64 (fun r10 w11 h => ?_)
        refine g_icmp_ne (pc := 67) C dX12_isWord_67 (tgt := 74) rfl (fun z12 => ?_) (fun z12 => ?_)
        · replace h := h.2 z12
          refine g_iconst (pc := 74) C dX12_isWord_74 (v := 0) rfl ?_
          refine g_istore_n (pc := 75) C dX12_isWord_75 (Nat.le_of_ble_eq_true rfl) (lo' := [(2, .int 0), (0, .ref (adr x a0)), (1, .ref (adr x a1)), (3, .int a3)]) rfl ?_
          refine g_iinc (pc := 76) C dX12_isWord_76 (q := 3) rfl (v2 := a3 + 1) rfl (Nat.le_of_ble_eq_true rfl) (lo' := [(3, .int (a3 + 1)), (2, .int 0), (0, .ref (adr x a0)), (1, .ref (adr x a1))]) rfl ?_
          refine g_goto (pc := 79) C dX12_isWord_79 (tgt := 39) rfl ?_
          refine g_sub [2, 3, 1, 0] rfl ?_
          exact ih _ _ _ _ _ h
        · replace h := h.1 z12
          refine g_iconst (pc := 70) C dX12_isWord_70 (v := 1) rfl ?_
          refine g_goto (pc := 71) C dX12_isWord_71 (tgt := 75) rfl ?_
          refine g_istore_n (pc := 75) C dX12_isWord_75 (Nat.le_of_ble_eq_true rfl) (lo' := [(2, .int 1), (0, .ref (adr x a0)), (1, .ref (adr x a1)), (3, .int a3)]) rfl ?_
          refine g_iinc (pc := 76) C dX12_isWord_76 (q := 3) rfl (v2 := a3 + 1) rfl (Nat.le_of_ble_eq_true rfl) (lo' := [(3, .int (a3 + 1)), (2, .int 1), (0, .ref (adr x a0)), (1, .ref (adr x a1))]) rfl ?_
          refine g_goto (pc := 79) C dX12_isWord_79 (tgt := 39) rfl ?_
          refine g_sub [2, 3, 1, 0] rfl ?_
          exact ih _ _ _ _ _ h
theorem c_X12_isWord {x : xG} {l : Launch} {a0 : Nat} {a1 : Nat} {K : Int32 → Wd → Prop} {w : Wd} (h : w_X12_isWord a0 a1 K w) : Met l yX12_isWord (xws yX12_isWord cX12_isWord 4 (some .boolean)) (rmd 7 0 0) (xPc x [.ref (adr x a0), .ref (adr x a1)] w) (QcI x K) 0 0 (xA x) := by
  refine xMet (by decide) (Nat.le_of_ble_eq_true rfl) (fun p e s m below meth c C hlk hr _ => ?_)
  show GW x p l e (rmd 7 0 0) s m [.ref (adr x a0), .ref (adr x a1)].toArray below meth c 4 (QI x K below [.ref (adr x a0), .ref (adr x a1)].toArray s 0 0) 0 [(0, .ref (adr x a0)), (1, .ref (adr x a1))] [] w 0 0
  refine g_aload_n (pc := 0) C dX12_isWord_0 (q := 0) rfl ?_
  obtain ⟨k1, h⟩ := h
  refine gfX12_93 (pc := 1) C k1 dX12_isWord_1 ?_
  refine g_if_ne (pc := 4) C dX12_isWord_4 (tgt := 35) rfl (fun z2 => ?_) (fun z2 => ?_)
  · replace h := h.2 z2
    refine g_iconst (pc := 35) C dX12_isWord_35 (v := 0) rfl ?_
    refine g_istore_n (pc := 36) C dX12_isWord_36 (Nat.le_of_ble_eq_true rfl) (lo' := [(2, .int 0), (0, .ref (adr x a0)), (1, .ref (adr x a1))]) rfl ?_
    refine g_iconst (pc := 37) C dX12_isWord_37 (v := 0) rfl ?_
    refine g_istore_n (pc := 38) C dX12_isWord_38 (Nat.le_of_ble_eq_true rfl) (lo' := [(3, .int 0), (2, .int 0), (0, .ref (adr x a0)), (1, .ref (adr x a1))]) rfl ?_
    obtain ⟨n13, h⟩ := h
    refine g_sub [2, 3, 1, 0] rfl ?_
    refine t_X12_isWord_39 C hlk hr n13 _ _ _ _ _ h
  · replace h := h.1 z2
    refine g_aload_n (pc := 7) C dX12_isWord_7 (q := 0) rfl ?_
    refine gfX12_73 (pc := 8) C k1 dX12_isWord_8 ?_
    refine g_iconst (pc := 11) C dX12_isWord_11 (v := 1) rfl ?_
    refine g_icmp_ne (pc := 12) C dX12_isWord_12 (tgt := 35) rfl (fun z14 => ?_) (fun z14 => ?_)
    · replace h := h.2 z14
      refine g_iconst (pc := 35) C dX12_isWord_35 (v := 0) rfl ?_
      refine g_istore_n (pc := 36) C dX12_isWord_36 (Nat.le_of_ble_eq_true rfl) (lo' := [(2, .int 0), (0, .ref (adr x a0)), (1, .ref (adr x a1))]) rfl ?_
      refine g_iconst (pc := 37) C dX12_isWord_37 (v := 0) rfl ?_
      refine g_istore_n (pc := 38) C dX12_isWord_38 (Nat.le_of_ble_eq_true rfl) (lo' := [(3, .int 0), (2, .int 0), (0, .ref (adr x a0)), (1, .ref (adr x a1))]) rfl ?_
      obtain ⟨n15, h⟩ := h
      refine g_sub [2, 3, 1, 0] rfl ?_
      refine t_X12_isWord_39 C hlk hr n15 _ _ _ _ _ h
    · replace h := h.1 z14
      refine g_aload_n (pc := 15) C dX12_isWord_15 (q := 0) rfl ?_
      refine gfX12_67 (pc := 16) C k1 dX12_isWord_16 ?_
      refine g_aload_n (pc := 19) C dX12_isWord_19 (q := 0) rfl ?_
      refine gfX12_70 (pc := 20) C k1 dX12_isWord_20 ?_
      refine g_isub (pc := 23) C dX12_isWord_23 ?_
      refine g_aload_n (pc := 24) C dX12_isWord_24 (q := 1) rfl ?_
      refine miX12_99 (pc := 25) C h (Nat.le_of_ble_eq_true rfl) (Nat.le_of_ble_eq_true rfl) ⟨Nat.le_refl _, Nat.le_refl _⟩ dX12_isWord_25 (fun r16 w17 h => ?_)
      refine g_icmp_ne (pc := 28) C dX12_isWord_28 (tgt := 35) rfl (fun z18 => ?_) (fun z18 => ?_)
      · replace h := h.2 z18
        refine g_iconst (pc := 35) C dX12_isWord_35 (v := 0) rfl ?_
        refine g_istore_n (pc := 36) C dX12_isWord_36 (Nat.le_of_ble_eq_true rfl) (lo' := [(2, .int 0), (0, .ref (adr x a0)), (1, .ref (adr x a1))]) rfl ?_
        refine g_iconst (pc := 37) C dX12_isWord_37 (v := 0) rfl ?_
        refine g_istore_n (pc := 38) C dX12_isWord_38 (Nat.le_of_ble_eq_true rfl) (lo' := [(3, .int 0), (2, .int 0), (0, .ref (adr x a0)), (1, .ref (adr x a1))]) rfl ?_
        obtain ⟨n19, h⟩ := h
        refine g_sub [2, 3, 1, 0] rfl ?_
        refine t_X12_isWord_39 C hlk hr n19 _ _ _ _ _ h
      · replace h := h.1 z18
        refine g_iconst (pc := 31) C dX12_isWord_31 (v := 1) rfl ?_
        refine g_goto (pc := 32) C dX12_isWord_32 (tgt := 36) rfl ?_
        refine g_istore_n (pc := 36) C dX12_isWord_36 (Nat.le_of_ble_eq_true rfl) (lo' := [(2, .int 1), (0, .ref (adr x a0)), (1, .ref (adr x a1))]) rfl ?_
        refine g_iconst (pc := 37) C dX12_isWord_37 (v := 0) rfl ?_
        refine g_istore_n (pc := 38) C dX12_isWord_38 (Nat.le_of_ble_eq_true rfl) (lo' := [(3, .int 0), (2, .int 1), (0, .ref (adr x a0)), (1, .ref (adr x a1))]) rfl ?_
        obtain ⟨n20, h⟩ := h
        refine g_sub [2, 3, 1, 0] rfl ?_
        refine t_X12_isWord_39 C hlk hr n20 _ _ _ _ _ h
theorem miX12_108 (C : xC x p s m c cc nL args RX12) {a0 : Nat} {a1 : Nat} {K : Int32 → Wd → Prop} {D MC MS : Nat} (hq : isK w a0 12) (h : w_X12_isWord a0 a1 K w) (hD : 7 + 1 ≤ D) (hW : (st.map fun v => v.category).sum ≤ 8) (hij : i ≤ MC ∧ j ≤ MS) (hd : decode cc pc = .ok (.invokevirtual 108, 3)) (k : ∀ (r : Int32) (u : Wd), K r u → GW x p l e (rmd D MC MS) s m args below meth c nL Q (pc + 3) lo (.int r :: st) u i j) : GW x p l e (rmd D MC MS) s m args below meth c nL Q pc lo (.ref (adr x a1) :: .ref (adr x a0) :: st) w i j := g_callVi0 C (As := [.ref (adr x a1)]) (ci := 12) (c_X12_isWord h) (x_cwV C 1 LMX12_108 ⟨rfl, by decide, by decide, rfl⟩ hD (by decide)) rfl hq (by decide) rfl rfl hW hd hij k
def w_X12_took (a0 : Nat) (a1 : Nat) (K : Int32 → Wd → Prop) (w : Wd) : Prop :=
  isK w a0 12 ∧ w_X12_isWord a0 a1 (fun r2 w3 => ((r2 = 0 → (r2 = 0 ∨ r2 = 1) ∧ K r2 w3) ∧ (¬ r2 = 0 → isK w3 a0 12 ∧ w_X12_readsOn a0 (fun w6 => (r2 = 0 ∨ r2 = 1) ∧ K r2 w6) w3))) w
theorem c_X12_took {x : xG} {l : Launch} {a0 : Nat} {a1 : Nat} {K : Int32 → Wd → Prop} {w : Wd} (h : w_X12_took a0 a1 K w) : Met l yX12_took (xws yX12_took cX12_took 3 (some .boolean)) (rmd 8 0 0) (xPc x [.ref (adr x a0), .ref (adr x a1)] w) (QcI x K) 0 0 (xA x) := by
  refine xMet (by decide) (Nat.le_of_ble_eq_true rfl) (fun p e s m below meth c C hlk hr _ => ?_)
  show GW x p l e (rmd 8 0 0) s m [.ref (adr x a0), .ref (adr x a1)].toArray below meth c 3 (QI x K below [.ref (adr x a0), .ref (adr x a1)].toArray s 0 0) 0 [(0, .ref (adr x a0)), (1, .ref (adr x a1))] [] w 0 0
  refine g_aload_n (pc := 0) C dX12_took_0 (q := 0) rfl ?_
  refine g_aload_n (pc := 1) C dX12_took_1 (q := 1) rfl ?_
  obtain ⟨k1, h⟩ := h
  refine miX12_108 (pc := 2) C k1 h (Nat.le_of_ble_eq_true rfl) (Nat.le_of_ble_eq_true rfl) ⟨Nat.le_refl _, Nat.le_refl _⟩ dX12_took_2 (fun r2 w3 h => ?_)
  refine g_istore_n (pc := 5) C dX12_took_5 (Nat.le_of_ble_eq_true rfl) (lo' := [(2, .int r2), (0, .ref (adr x a0)), (1, .ref (adr x a1))]) rfl ?_
  refine g_iload_n (pc := 6) C dX12_took_6 (q := 0) rfl ?_
  refine g_if_eq (pc := 7) C dX12_took_7 (tgt := 14) rfl (fun z4 => ?_) (fun z4 => ?_)
  · replace h := h.1 z4
    refine g_iload_n (pc := 14) C dX12_took_14 (q := 0) rfl ?_
    exact g_zret (pc := 15) C hlk hr (Nat.le_refl _) (Nat.le_refl _) dX12_took_15 h.1 h.2
  · replace h := h.2 z4
    refine g_aload_n (pc := 10) C dX12_took_10 (q := 1) rfl ?_
    obtain ⟨k5, h⟩ := h
    refine miX12_112 (pc := 11) C k5 h (Nat.le_of_ble_eq_true rfl) (Nat.le_of_ble_eq_true rfl) ⟨Nat.le_refl _, Nat.le_refl _⟩ dX12_took_11 (fun w6 h => ?_)
    refine g_iload_n (pc := 14) C dX12_took_14 (q := 0) rfl ?_
    exact g_zret (pc := 15) C hlk hr (Nat.le_refl _) (Nat.le_refl _) dX12_took_15 h.1 h.2
theorem miX12_123 (C : xC x p s m c cc nL args RX12) {a0 : Nat} {a1 : Nat} {K : Int32 → Wd → Prop} {D MC MS : Nat} (hq : isK w a0 12) (h : w_X12_took a0 a1 K w) (hD : 8 + 1 ≤ D) (hW : (st.map fun v => v.category).sum ≤ 8) (hij : i ≤ MC ∧ j ≤ MS) (hd : decode cc pc = .ok (.invokevirtual 123, 3)) (k : ∀ (r : Int32) (u : Wd), K r u → GW x p l e (rmd D MC MS) s m args below meth c nL Q (pc + 3) lo (.int r :: st) u i j) : GW x p l e (rmd D MC MS) s m args below meth c nL Q pc lo (.ref (adr x a1) :: .ref (adr x a0) :: st) w i j := g_callVi0 C (As := [.ref (adr x a1)]) (ci := 12) (c_X12_took h) (x_cwV C 1 LMX12_123 ⟨rfl, by decide, by decide, rfl⟩ hD (by decide)) rfl hq (by decide) rfl rfl hW hd hij k
def w_X12_mustWord (a0 : Nat) (a1 : Nat) (K : Wd → Prop) (w : Wd) : Prop :=
  isK w a0 12 ∧ w_X12_took a0 a1 (fun r2 w3 => ((r2 = 0 → isK w3 a0 12 ∧ w_X12_blames a0 2 (fun w6 => K w6) w3) ∧ (¬ r2 = 0 → K w3))) w
theorem c_X12_mustWord {x : xG} {l : Launch} {a0 : Nat} {a1 : Nat} {K : Wd → Prop} {w : Wd} (h : w_X12_mustWord a0 a1 K w) : Met l yX12_mustWord (xws yX12_mustWord cX12_mustWord 2 none) (rmd 9 0 0) (xPc x [.ref (adr x a0), .ref (adr x a1)] w) (QcV x K) 0 0 (xA x) := by
  refine xMet (by decide) (Nat.le_of_ble_eq_true rfl) (fun p e s m below meth c C hlk hr _ => ?_)
  show GW x p l e (rmd 9 0 0) s m [.ref (adr x a0), .ref (adr x a1)].toArray below meth c 2 (QV x K below [.ref (adr x a0), .ref (adr x a1)].toArray s 0 0) 0 [(0, .ref (adr x a0)), (1, .ref (adr x a1))] [] w 0 0
  refine g_aload_n (pc := 0) C dX12_mustWord_0 (q := 0) rfl ?_
  refine g_aload_n (pc := 1) C dX12_mustWord_1 (q := 1) rfl ?_
  obtain ⟨k1, h⟩ := h
  refine miX12_123 (pc := 2) C k1 h (Nat.le_of_ble_eq_true rfl) (Nat.le_of_ble_eq_true rfl) ⟨Nat.le_refl _, Nat.le_refl _⟩ dX12_mustWord_2 (fun r2 w3 h => ?_)
  refine g_if_ne (pc := 5) C dX12_mustWord_5 (tgt := 13) rfl (fun z4 => ?_) (fun z4 => ?_)
  · replace h := h.2 z4
    exact g_vret (pc := 13) C hlk hr (Nat.le_refl _) (Nat.le_refl _) dX12_mustWord_13 h
  · replace h := h.1 z4
    refine g_aload_n (pc := 8) C dX12_mustWord_8 (q := 0) rfl ?_
    refine g_iconst (pc := 9) C dX12_mustWord_9 (v := 2) rfl ?_
    obtain ⟨k5, h⟩ := h
    refine miX12_115 (pc := 10) C k5 h (Nat.le_of_ble_eq_true rfl) (Nat.le_of_ble_eq_true rfl) ⟨Nat.le_refl _, Nat.le_refl _⟩ dX12_mustWord_10 (fun w6 h => ?_)
    exact g_vret (pc := 13) C hlk hr (Nat.le_refl _) (Nat.le_refl _) dX12_mustWord_13 h
theorem miX12_188 (C : xC x p s m c cc nL args RX12) {a0 : Nat} {a1 : Int32} {a2 : Int32} {K : Int32 → Wd → Prop} {D MC MS : Nat} (hq : isK w a0 12) (h : w_X12_begins a0 a1 a2 K w) (hD : 2 + 1 ≤ D) (hW : (st.map fun v => v.category).sum ≤ 8) (hij : i ≤ MC ∧ j ≤ MS) (hd : decode cc pc = .ok (.invokevirtual 188, 3)) (k : ∀ (r : Int32) (u : Wd), K r u → GW x p l e (rmd D MC MS) s m args below meth c nL Q (pc + 3) lo (.int r :: st) u i j) : GW x p l e (rmd D MC MS) s m args below meth c nL Q pc lo (.int a2 :: .int a1 :: .ref (adr x a0) :: st) w i j := g_callVi0 C (As := [.int a1, .int a2]) (ci := 12) (c_X12_begins h) (x_cwV C 2 LMX12_188 ⟨rfl, by decide, by decide, rfl⟩ hD (by decide)) rfl hq (by decide) rfl rfl hW hd hij k
theorem miX12_194 (C : xC x p s m c cc nL args RX12) {a0 : Nat} {a1 : Nat} {K : Wd → Prop} {D MC MS : Nat} (hq : isK w a0 12) (h : w_X12_mustWord a0 a1 K w) (hD : 9 + 1 ≤ D) (hW : (st.map fun v => v.category).sum ≤ 8) (hij : i ≤ MC ∧ j ≤ MS) (hd : decode cc pc = .ok (.invokevirtual 194, 3)) (k : ∀ (u : Wd), K u → GW x p l e (rmd D MC MS) s m args below meth c nL Q (pc + 3) lo st u i j) : GW x p l e (rmd D MC MS) s m args below meth c nL Q pc lo (.ref (adr x a1) :: .ref (adr x a0) :: st) w i j := g_callVv0 C (As := [.ref (adr x a1)]) (ci := 12) (c_X12_mustWord h) (x_cwV C 1 LMX12_194 ⟨rfl, by decide, by decide, rfl⟩ hD (by decide)) rfl hq (by decide) rfl rfl hW hd hij k
def l_X12_readHouse_27 (E51 : Nat → Int32 → Int32 → Wd → Prop) (K : Wd → Prop) : Nat → Nat → Int32 → Int32 → Wd → Prop
  | 0, _, _, _, _ => False
  | n + 1, a0, a1, a2, w => isK w a0 12 ∧ w_X12_wellTold a0 (fun r11 w12 => isK w12 a0 12 ∧ (((wI w12 a0 12) = 0 → (((wI w12 a0 10) = 2 → l_X12_readHouse_27 E51 K n a0 a1 (a2 ||| (x_ishl 1 r11)) w12) ∧ (¬ (wI w12 a0 10) = 2 → E51 a0 a1 (a2 ||| (x_ishl 1 r11)) w12))) ∧ (¬ (wI w12 a0 12) = 0 → E51 a0 a1 (a2 ||| (x_ishl 1 r11)) w12))) w
def j_X12_readHouse_51  (K : Wd → Prop) (a0 : Nat) (a1 : Int32) (a2 : Int32) (w : Wd) : Prop :=
  isK w a0 12 ∧ (((wI w a0 12) = 0 → isK w (wR w a0 1) 20 ∧ vp_in 2 (wn w (wR w a0 1)) ∧ vp_in (67 + (wI w (wR w a0 1) (2 : Int32).toNatClampNeg)) (wn w (wR w a0 1)) ∧ vp_in 2 (wn w (wR w a0 1)) ∧ vp_in (73 + (wI (uI w (wR w a0 1) (67 + (wI w (wR w a0 1) (2 : Int32).toNatClampNeg)).toNatClampNeg a1) (wR w a0 1) (2 : Int32).toNatClampNeg)) (wn w (wR w a0 1)) ∧ vp_in 2 (wn w (wR w a0 1)) ∧ vp_in 2 (wn w (wR w a0 1)) ∧ K (uI (uI (uI w (wR w a0 1) (67 + (wI w (wR w a0 1) (2 : Int32).toNatClampNeg)).toNatClampNeg a1) (wR w a0 1) (73 + (wI (uI w (wR w a0 1) (67 + (wI w (wR w a0 1) (2 : Int32).toNatClampNeg)).toNatClampNeg a1) (wR w a0 1) (2 : Int32).toNatClampNeg)).toNatClampNeg a2) (wR w a0 1) (2 : Int32).toNatClampNeg ((wI (uI (uI w (wR w a0 1) (67 + (wI w (wR w a0 1) (2 : Int32).toNatClampNeg)).toNatClampNeg a1) (wR w a0 1) (73 + (wI (uI w (wR w a0 1) (67 + (wI w (wR w a0 1) (2 : Int32).toNatClampNeg)).toNatClampNeg a1) (wR w a0 1) (2 : Int32).toNatClampNeg)).toNatClampNeg a2) (wR w a0 1) (2 : Int32).toNatClampNeg) + 1))) ∧ (¬ (wI w a0 12) = 0 → K w))
def w_X12_readHouse (a0 : Nat) (K : Wd → Prop) (w : Wd) : Prop :=
  isK w a0 12 ∧ w_X12_begins a0 2 6 (fun r2 w3 => ((r2 = 0 → K w3) ∧ (¬ r2 = 0 → isK w3 a0 12 ∧ w_X12_number a0 1 99 (fun r6 w7 => isK w7 a0 12 ∧ w_X12_mustWord a0 11 (fun w9 => ∃ n29, l_X12_readHouse_27 (fun b16 b17 b18 w19 => j_X12_readHouse_51 K b16 b17 b18 w19) K n29 a0 r6 0 w9) w7) w3))) w
theorem t_X12_readHouse_27 (C : xC x p s m c cX12_readHouse 3 args RX12) (hlk : meth.locks = false) (hr : meth.sig.returnType = none) {K : Wd → Prop} {E51 : Nat → Int32 → Int32 → Wd → Prop} (hE51 : ∀ (b0 : Nat) (b1 : Int32) (b2 : Int32) (w : Wd), E51 b0 b1 b2 w → GW x p l e (rmd 10 0 0) s m args below meth c 3 (QV x K below args s 0 0) 51 [(0, .ref (adr x b0)), (1, .int b1), (2, .int b2)] [] w 0 0) : ∀ (n : Nat) (a0 : Nat) (a1 : Int32) (a2 : Int32) (w : Wd), l_X12_readHouse_27 E51 K n a0 a1 a2 w → GW x p l e (rmd 10 0 0) s m args below meth c 3 (QV x K below args s 0 0) 27 [(0, .ref (adr x a0)), (1, .int a1), (2, .int a2)] [] w 0 0 := by
  intro n
  induction n with
  | zero => intro _ _ _ _ h; exact False.elim h
  | succ n ih =>
    intro a0 a1 a2 w h
    refine g_iload_n (pc := 27) C dX12_readHouse_27 (q := 2) rfl ?_
    refine g_iconst (pc := 28) C dX12_readHouse_28 (v := 1) rfl ?_
    refine g_aload_n (pc := 29) C dX12_readHouse_29 (q := 0) rfl ?_
    obtain ⟨k10, h⟩ := h
    refine miX12_205 (pc := 30) C k10 h (Nat.le_of_ble_eq_true rfl) (Nat.le_of_ble_eq_true rfl) ⟨Nat.le_refl _, Nat.le_refl _⟩ dX12_readHouse_30 (fun r11 w12 h => ?_)
    refine h_ishl (pc := 33) C dX12_readHouse_33 ?_
    refine g_ior (pc := 34) C dX12_readHouse_34 ?_
    refine g_istore_n (pc := 35) C dX12_readHouse_35 (Nat.le_of_ble_eq_true rfl) (lo' := [(2, .int (a2 ||| (x_ishl 1 r11))), (0, .ref (adr x a0)), (1, .int a1)]) rfl ?_
    refine g_aload_n (pc := 36) C dX12_readHouse_36 (q := 1) rfl ?_
    obtain ⟨k13, h⟩ := h
    refine gfX12_93 (pc := 37) C k13 dX12_readHouse_37 ?_
    refine g_if_ne (pc := 40) C dX12_readHouse_40 (tgt := 51) rfl (fun z14 => ?_) (fun z14 => ?_)
    · replace h := h.2 z14
      refine g_sub [1, 2, 0] rfl ?_
      exact hE51 _ _ _ _ h
    · replace h := h.1 z14
      refine g_aload_n (pc := 43) C dX12_readHouse_43 (q := 1) rfl ?_
      refine gfX12_73 (pc := 44) C k13 dX12_readHouse_44 ?_
      refine g_iconst (pc := 47) C dX12_readHouse_47 (v := 2) rfl ?_
      refine g_icmp_eq (pc := 48) C dX12_readHouse_48 (tgt := 27) rfl (fun z15 => ?_) (fun z15 => ?_)
      · replace h := h.1 z15
        refine g_sub [1, 2, 0] rfl ?_
        exact ih _ _ _ _ h
      · replace h := h.2 z15
        refine g_sub [1, 2, 0] rfl ?_
        exact hE51 _ _ _ _ h
theorem t_X12_readHouse_51 (C : xC x p s m c cX12_readHouse 3 args RX12) (hlk : meth.locks = false) (hr : meth.sig.returnType = none) {K : Wd → Prop}   (a0 : Nat) (a1 : Int32) (a2 : Int32) (w : Wd) (h : j_X12_readHouse_51 K a0 a1 a2 w) : GW x p l e (rmd 10 0 0) s m args below meth c 3 (QV x K below args s 0 0) 51 [(0, .ref (adr x a0)), (1, .int a1), (2, .int a2)] [] w 0 0 := by
  refine g_aload_n (pc := 51) C dX12_readHouse_51 (q := 0) rfl ?_
  obtain ⟨k20, h⟩ := h
  refine gfX12_93 (pc := 52) C k20 dX12_readHouse_52 ?_
  refine g_if_eq (pc := 55) C dX12_readHouse_55 (tgt := 59) rfl (fun z21 => ?_) (fun z21 => ?_)
  · replace h := h.1 z21
    refine g_aload_n (pc := 59) C dX12_readHouse_59 (q := 0) rfl ?_
    obtain ⟨k22, h⟩ := h
    refine gfX12_13 (pc := 60) C k20 (isK_ne k22) dX12_readHouse_60 ?_
    refine g_bipush (pc := 63) C dX12_readHouse_63 (v := 67) rfl ?_
    refine g_aload_n (pc := 65) C dX12_readHouse_65 (q := 0) rfl ?_
    refine gfX12_13 (pc := 66) C k20 (isK_ne k22) dX12_readHouse_66 ?_
    refine g_iconst (pc := 69) C dX12_readHouse_69 (v := 2) rfl ?_
    obtain ⟨k23, h⟩ := h
    refine g_iald (pc := 70) C k22 k23 dX12_readHouse_70 ?_
    refine g_iadd (pc := 71) C dX12_readHouse_71 ?_
    refine g_iload_n (pc := 72) C dX12_readHouse_72 (q := 1) rfl ?_
    obtain ⟨k24, h⟩ := h
    refine g_iast (pc := 73) C k22 k24 dX12_readHouse_73 ?_
    refine g_aload_n (pc := 74) C dX12_readHouse_74 (q := 0) rfl ?_
    refine gfX12_13 (pc := 75) (w := uI w (wR w a0 1) (67 + (wI w (wR w a0 1) (2 : Int32).toNatClampNeg)).toNatClampNeg a1) C k20 (isK_ne k22) dX12_readHouse_75 ?_
    refine g_bipush (pc := 78) C dX12_readHouse_78 (v := 73) rfl ?_
    refine g_aload_n (pc := 80) C dX12_readHouse_80 (q := 0) rfl ?_
    refine gfX12_13 (pc := 81) (w := uI w (wR w a0 1) (67 + (wI w (wR w a0 1) (2 : Int32).toNatClampNeg)).toNatClampNeg a1) C k20 (isK_ne k22) dX12_readHouse_81 ?_
    refine g_iconst (pc := 84) C dX12_readHouse_84 (v := 2) rfl ?_
    obtain ⟨k25, h⟩ := h
    refine g_iald (pc := 85) (w := uI w (wR w a0 1) (67 + (wI w (wR w a0 1) (2 : Int32).toNatClampNeg)).toNatClampNeg a1) C k22 k25 dX12_readHouse_85 ?_
    refine g_iadd (pc := 86) C dX12_readHouse_86 ?_
    refine g_iload_n (pc := 87) C dX12_readHouse_87 (q := 2) rfl ?_
    obtain ⟨k26, h⟩ := h
    refine g_iast (pc := 88) (w := uI w (wR w a0 1) (67 + (wI w (wR w a0 1) (2 : Int32).toNatClampNeg)).toNatClampNeg a1) C k22 k26 dX12_readHouse_88 ?_
    refine g_aload_n (pc := 89) C dX12_readHouse_89 (q := 0) rfl ?_
    refine gfX12_13 (pc := 90) (w := uI (uI w (wR w a0 1) (67 + (wI w (wR w a0 1) (2 : Int32).toNatClampNeg)).toNatClampNeg a1) (wR w a0 1) (73 + (wI (uI w (wR w a0 1) (67 + (wI w (wR w a0 1) (2 : Int32).toNatClampNeg)).toNatClampNeg a1) (wR w a0 1) (2 : Int32).toNatClampNeg)).toNatClampNeg a2) C k20 (isK_ne k22) dX12_readHouse_90 ?_
    refine g_iconst (pc := 93) C dX12_readHouse_93 (v := 2) rfl ?_
    refine g_dup2 (pc := 94) C dX12_readHouse_94 rfl rfl ?_
    obtain ⟨k27, h⟩ := h
    refine g_iald (pc := 95) (w := uI (uI w (wR w a0 1) (67 + (wI w (wR w a0 1) (2 : Int32).toNatClampNeg)).toNatClampNeg a1) (wR w a0 1) (73 + (wI (uI w (wR w a0 1) (67 + (wI w (wR w a0 1) (2 : Int32).toNatClampNeg)).toNatClampNeg a1) (wR w a0 1) (2 : Int32).toNatClampNeg)).toNatClampNeg a2) C k22 k27 dX12_readHouse_95 ?_
    refine g_iconst (pc := 96) C dX12_readHouse_96 (v := 1) rfl ?_
    refine g_iadd (pc := 97) C dX12_readHouse_97 ?_
    obtain ⟨k28, h⟩ := h
    refine g_iast (pc := 98) (w := uI (uI w (wR w a0 1) (67 + (wI w (wR w a0 1) (2 : Int32).toNatClampNeg)).toNatClampNeg a1) (wR w a0 1) (73 + (wI (uI w (wR w a0 1) (67 + (wI w (wR w a0 1) (2 : Int32).toNatClampNeg)).toNatClampNeg a1) (wR w a0 1) (2 : Int32).toNatClampNeg)).toNatClampNeg a2) C k22 k28 dX12_readHouse_98 ?_
    exact g_vret (pc := 99) C hlk hr (Nat.le_refl _) (Nat.le_refl _) dX12_readHouse_99 h
  · replace h := h.2 z21
    exact g_vret (pc := 58) C hlk hr (Nat.le_refl _) (Nat.le_refl _) dX12_readHouse_58 h
theorem c_X12_readHouse {x : xG} {l : Launch} {a0 : Nat} {K : Wd → Prop} {w : Wd} (h : w_X12_readHouse a0 K w) : Met l yX12_readHouse (xws yX12_readHouse cX12_readHouse 3 none) (rmd 10 0 0) (xPc x [.ref (adr x a0)] w) (QcV x K) 0 0 (xA x) := by
  refine xMet (by decide) (Nat.le_of_ble_eq_true rfl) (fun p e s m below meth c C hlk hr _ => ?_)
  show GW x p l e (rmd 10 0 0) s m [.ref (adr x a0)].toArray below meth c 3 (QV x K below [.ref (adr x a0)].toArray s 0 0) 0 [(0, .ref (adr x a0))] [] w 0 0
  refine g_aload_n (pc := 0) C dX12_readHouse_0 (q := 0) rfl ?_
  refine g_iconst (pc := 1) C dX12_readHouse_1 (v := 2) rfl ?_
  refine g_bipush (pc := 2) C dX12_readHouse_2 (v := 6) rfl ?_
  obtain ⟨k1, h⟩ := h
  refine miX12_188 (pc := 4) C k1 h (Nat.le_of_ble_eq_true rfl) (Nat.le_of_ble_eq_true rfl) ⟨Nat.le_refl _, Nat.le_refl _⟩ dX12_readHouse_4 (fun r2 w3 h => ?_)
  refine g_if_ne (pc := 7) C dX12_readHouse_7 (tgt := 11) rfl (fun z4 => ?_) (fun z4 => ?_)
  · replace h := h.2 z4
    refine g_aload_n (pc := 11) C dX12_readHouse_11 (q := 0) rfl ?_
    refine g_iconst (pc := 12) C dX12_readHouse_12 (v := 1) rfl ?_
    refine g_bipush (pc := 13) C dX12_readHouse_13 (v := 99) rfl ?_
    obtain ⟨k5, h⟩ := h
    refine miX12_184 (pc := 15) C k5 h (Nat.le_of_ble_eq_true rfl) (Nat.le_of_ble_eq_true rfl) ⟨Nat.le_refl _, Nat.le_refl _⟩ dX12_readHouse_15 (fun r6 w7 h => ?_)
    refine g_istore_n (pc := 18) C dX12_readHouse_18 (Nat.le_of_ble_eq_true rfl) (lo' := [(1, .int r6), (0, .ref (adr x a0))]) rfl ?_
    refine g_aload_n (pc := 19) C dX12_readHouse_19 (q := 1) rfl ?_
    refine g_ldcS (pc := 20) C (q := 40) (k0 := 9) rfl (Nat.le_of_ble_eq_true rfl) dX12_readHouse_20 ?_
    obtain ⟨k8, h⟩ := h
    refine miX12_194 (pc := 22) C k8 h (Nat.le_of_ble_eq_true rfl) (Nat.le_of_ble_eq_true rfl) ⟨Nat.le_refl _, Nat.le_refl _⟩ dX12_readHouse_22 (fun w9 h => ?_)
    refine g_iconst (pc := 25) C dX12_readHouse_25 (v := 0) rfl ?_
    refine g_istore_n (pc := 26) C dX12_readHouse_26 (Nat.le_of_ble_eq_true rfl) (lo' := [(2, .int 0), (1, .int r6), (0, .ref (adr x a0))]) rfl ?_
    obtain ⟨n29, h⟩ := h
    refine g_sub [2, 1, 0] rfl ?_
    refine t_X12_readHouse_27 C hlk hr ?_ n29 _ _ _ _ h
    · intro b16 b17 b18 w19 h
      exact t_X12_readHouse_51 C hlk hr  _ _ _ _ h
  · replace h := h.1 z4
    exact g_vret (pc := 10) C hlk hr (Nat.le_refl _) (Nat.le_refl _) dX12_readHouse_10 h
def w_X12_lawWord (a0 : Nat) (K : Int32 → Wd → Prop) (w : Wd) : Prop :=
  isK w a0 12 ∧ w_X12_took a0 14 (fun r2 w3 => ((r2 = 0 → isK w3 a0 12 ∧ w_X12_took a0 15 (fun r6 w7 => ((r6 = 0 → isK w7 a0 12 ∧ w_X12_took a0 16 (fun r10 w11 => ((r10 = 0 → isK w11 a0 12 ∧ w_X12_took a0 17 (fun r14 w15 => ((r14 = 0 → isK w15 a0 12 ∧ w_X12_took a0 18 (fun r18 w19 => ((r18 = 0 → isK w19 a0 12 ∧ w_X12_took a0 19 (fun r22 w23 => ((r22 = 0 → isK w23 a0 12 ∧ w_X12_took a0 20 (fun r26 w27 => ((r26 = 0 → isK w27 a0 12 ∧ w_X12_took a0 21 (fun r30 w31 => ((r30 = 0 → K (-1) w31) ∧ (¬ r30 = 0 → K 7 w31))) w27) ∧ (¬ r26 = 0 → K 6 w27))) w23) ∧ (¬ r22 = 0 → K 5 w23))) w19) ∧ (¬ r18 = 0 → K 4 w19))) w15) ∧ (¬ r14 = 0 → K 3 w15))) w11) ∧ (¬ r10 = 0 → K 2 w11))) w7) ∧ (¬ r6 = 0 → K 1 w7))) w3) ∧ (¬ r2 = 0 → K 0 w3))) w
theorem c_X12_lawWord {x : xG} {l : Launch} {a0 : Nat} {K : Int32 → Wd → Prop} {w : Wd} (h : w_X12_lawWord a0 K w) : Met l yX12_lawWord (xws yX12_lawWord cX12_lawWord 1 (some .int)) (rmd 9 0 0) (xPc x [.ref (adr x a0)] w) (QcI x K) 0 0 (xA x) := by
  refine xMet (by decide) (Nat.le_of_ble_eq_true rfl) (fun p e s m below meth c C hlk hr _ => ?_)
  show GW x p l e (rmd 9 0 0) s m [.ref (adr x a0)].toArray below meth c 1 (QI x K below [.ref (adr x a0)].toArray s 0 0) 0 [(0, .ref (adr x a0))] [] w 0 0
  refine g_aload_n (pc := 0) C dX12_lawWord_0 (q := 0) rfl ?_
  refine g_ldcS (pc := 1) C (q := 45) (k0 := 12) rfl (Nat.le_of_ble_eq_true rfl) dX12_lawWord_1 ?_
  obtain ⟨k1, h⟩ := h
  refine miX12_123 (pc := 3) C k1 h (Nat.le_of_ble_eq_true rfl) (Nat.le_of_ble_eq_true rfl) ⟨Nat.le_refl _, Nat.le_refl _⟩ dX12_lawWord_3 (fun r2 w3 h => ?_)
  refine g_if_eq (pc := 6) C dX12_lawWord_6 (tgt := 11) rfl (fun z4 => ?_) (fun z4 => ?_)
  · replace h := h.1 z4
    refine g_aload_n (pc := 11) C dX12_lawWord_11 (q := 0) rfl ?_
    refine g_ldcS (pc := 12) C (q := 46) (k0 := 13) rfl (Nat.le_of_ble_eq_true rfl) dX12_lawWord_12 ?_
    obtain ⟨k5, h⟩ := h
    refine miX12_123 (pc := 14) C k5 h (Nat.le_of_ble_eq_true rfl) (Nat.le_of_ble_eq_true rfl) ⟨Nat.le_refl _, Nat.le_refl _⟩ dX12_lawWord_14 (fun r6 w7 h => ?_)
    refine g_if_eq (pc := 17) C dX12_lawWord_17 (tgt := 22) rfl (fun z8 => ?_) (fun z8 => ?_)
    · replace h := h.1 z8
      refine g_aload_n (pc := 22) C dX12_lawWord_22 (q := 0) rfl ?_
      refine g_ldcS (pc := 23) C (q := 47) (k0 := 14) rfl (Nat.le_of_ble_eq_true rfl) dX12_lawWord_23 ?_
      obtain ⟨k9, h⟩ := h
      refine miX12_123 (pc := 25) C k9 h (Nat.le_of_ble_eq_true rfl) (Nat.le_of_ble_eq_true rfl) ⟨Nat.le_refl _, Nat.le_refl _⟩ dX12_lawWord_25 (fun r10 w11 h => ?_)
      refine g_if_eq (pc := 28) C dX12_lawWord_28 (tgt := 33) rfl (fun z12 => ?_) (fun z12 => ?_)
      · replace h := h.1 z12
        refine g_aload_n (pc := 33) C dX12_lawWord_33 (q := 0) rfl ?_
        refine g_ldcS (pc := 34) C (q := 48) (k0 := 15) rfl (Nat.le_of_ble_eq_true rfl) dX12_lawWord_34 ?_
        obtain ⟨k13, h⟩ := h
        refine miX12_123 (pc := 36) C k13 h (Nat.le_of_ble_eq_true rfl) (Nat.le_of_ble_eq_true rfl) ⟨Nat.le_refl _, Nat.le_refl _⟩ dX12_lawWord_36 (fun r14 w15 h => ?_)
        refine g_if_eq (pc := 39) C dX12_lawWord_39 (tgt := 44) rfl (fun z16 => ?_) (fun z16 => ?_)
        · replace h := h.1 z16
          refine g_aload_n (pc := 44) C dX12_lawWord_44 (q := 0) rfl ?_
          refine g_ldcS (pc := 45) C (q := 49) (k0 := 16) rfl (Nat.le_of_ble_eq_true rfl) dX12_lawWord_45 ?_
          obtain ⟨k17, h⟩ := h
          refine miX12_123 (pc := 47) C k17 h (Nat.le_of_ble_eq_true rfl) (Nat.le_of_ble_eq_true rfl) ⟨Nat.le_refl _, Nat.le_refl _⟩ dX12_lawWord_47 (fun r18 w19 h => ?_)
          refine g_if_eq (pc := 50) C dX12_lawWord_50 (tgt := 55) rfl (fun z20 => ?_) (fun z20 => ?_)
          · replace h := h.1 z20
            refine g_aload_n (pc := 55) C dX12_lawWord_55 (q := 0) rfl ?_
            refine g_ldcS (pc := 56) C (q := 42) (k0 := 17) rfl (Nat.le_of_ble_eq_true rfl) dX12_lawWord_56 ?_
            obtain ⟨k21, h⟩ := h
            refine miX12_123 (pc := 58) C k21 h (Nat.le_of_ble_eq_true rfl) (Nat.le_of_ble_eq_true rfl) ⟨Nat.le_refl _, Nat.le_refl _⟩ dX12_lawWord_58 (fun r22 w23 h => ?_)
            refine g_if_eq (pc := 61) C dX12_lawWord_61 (tgt := 66) rfl (fun z24 => ?_) (fun z24 => ?_)
            · replace h := h.1 z24
              refine g_aload_n (pc := 66) C dX12_lawWord_66 (q := 0) rfl ?_
              refine g_ldcS (pc := 67) C (q := 50) (k0 := 18) rfl (Nat.le_of_ble_eq_true rfl) dX12_lawWord_67 ?_
              obtain ⟨k25, h⟩ := h
              refine miX12_123 (pc := 69) C k25 h (Nat.le_of_ble_eq_true rfl) (Nat.le_of_ble_eq_true rfl) ⟨Nat.le_refl _, Nat.le_refl _⟩ dX12_lawWord_69 (fun r26 w27 h => ?_)
              refine g_if_eq (pc := 72) C dX12_lawWord_72 (tgt := 78) rfl (fun z28 => ?_) (fun z28 => ?_)
              · replace h := h.1 z28
                refine g_aload_n (pc := 78) C dX12_lawWord_78 (q := 0) rfl ?_
                refine g_ldcS (pc := 79) C (q := 51) (k0 := 19) rfl (Nat.le_of_ble_eq_true rfl) dX12_lawWord_79 ?_
                obtain ⟨k29, h⟩ := h
                refine miX12_123 (pc := 81) C k29 h (Nat.le_of_ble_eq_true rfl) (Nat.le_of_ble_eq_true rfl) ⟨Nat.le_refl _, Nat.le_refl _⟩ dX12_lawWord_81 (fun r30 w31 h => ?_)
                refine g_if_eq (pc := 84) C dX12_lawWord_84 (tgt := 92) rfl (fun z32 => ?_) (fun z32 => ?_)
                · replace h := h.1 z32
                  refine g_iconst (pc := 92) C dX12_lawWord_92 (v := (-1)) rfl ?_
                  exact g_iret (pc := 93) C hlk hr (Nat.le_refl _) (Nat.le_refl _) dX12_lawWord_93 h
                · replace h := h.2 z32
                  refine g_bipush (pc := 87) C dX12_lawWord_87 (v := 7) rfl ?_
                  refine g_goto (pc := 89) C dX12_lawWord_89 (tgt := 93) rfl ?_
                  exact g_iret (pc := 93) C hlk hr (Nat.le_refl _) (Nat.le_refl _) dX12_lawWord_93 h
              · replace h := h.2 z28
                refine g_bipush (pc := 75) C dX12_lawWord_75 (v := 6) rfl ?_
                exact g_iret (pc := 77) C hlk hr (Nat.le_refl _) (Nat.le_refl _) dX12_lawWord_77 h
            · replace h := h.2 z24
              refine g_iconst (pc := 64) C dX12_lawWord_64 (v := 5) rfl ?_
              exact g_iret (pc := 65) C hlk hr (Nat.le_refl _) (Nat.le_refl _) dX12_lawWord_65 h
          · replace h := h.2 z20
            refine g_iconst (pc := 53) C dX12_lawWord_53 (v := 4) rfl ?_
            exact g_iret (pc := 54) C hlk hr (Nat.le_refl _) (Nat.le_refl _) dX12_lawWord_54 h
        · replace h := h.2 z16
          refine g_iconst (pc := 42) C dX12_lawWord_42 (v := 3) rfl ?_
          exact g_iret (pc := 43) C hlk hr (Nat.le_refl _) (Nat.le_refl _) dX12_lawWord_43 h
      · replace h := h.2 z12
        refine g_iconst (pc := 31) C dX12_lawWord_31 (v := 2) rfl ?_
        exact g_iret (pc := 32) C hlk hr (Nat.le_refl _) (Nat.le_refl _) dX12_lawWord_32 h
    · replace h := h.2 z8
      refine g_iconst (pc := 20) C dX12_lawWord_20 (v := 1) rfl ?_
      exact g_iret (pc := 21) C hlk hr (Nat.le_refl _) (Nat.le_refl _) dX12_lawWord_21 h
  · replace h := h.2 z4
    refine g_iconst (pc := 9) C dX12_lawWord_9 (v := 0) rfl ?_
    exact g_iret (pc := 10) C hlk hr (Nat.le_refl _) (Nat.le_refl _) dX12_lawWord_10 h
theorem miX12_134 (C : xC x p s m c cc nL args RX12) {a0 : Nat} {a1 : Int32} {K : Wd → Prop} {D MC MS : Nat} (hq : isK w a0 12) (h : w_X12_laysStep a0 a1 K w) (hD : 0 + 1 ≤ D) (hW : (st.map fun v => v.category).sum ≤ 8) (hij : i ≤ MC ∧ j ≤ MS) (hd : decode cc pc = .ok (.invokevirtual 134, 3)) (k : ∀ (u : Wd), K u → GW x p l e (rmd D MC MS) s m args below meth c nL Q (pc + 3) lo st u i j) : GW x p l e (rmd D MC MS) s m args below meth c nL Q pc lo (.int a1 :: .ref (adr x a0) :: st) w i j := g_callVv0 C (As := [.int a1]) (ci := 12) (c_X12_laysStep h) (x_cwV C 1 LMX12_134 ⟨rfl, by decide, by decide, rfl⟩ hD (by decide)) rfl hq (by decide) rfl rfl hW hd hij k
theorem miX12_144 (C : xC x p s m c cc nL args RX12) {a0 : Nat} {K : Wd → Prop} {D MC MS : Nat} (hq : isK w a0 12) (h : w_X12_goesIn a0 K w) (hD : 2 + 1 ≤ D) (hW : (st.map fun v => v.category).sum ≤ 8) (hij : i ≤ MC ∧ j ≤ MS) (hd : decode cc pc = .ok (.invokevirtual 144, 3)) (k : ∀ (u : Wd), K u → GW x p l e (rmd D MC MS) s m args below meth c nL Q (pc + 3) lo st u i j) : GW x p l e (rmd D MC MS) s m args below meth c nL Q pc lo (.ref (adr x a0) :: st) w i j := g_callVv0 C (As := []) (ci := 12) (c_X12_goesIn h) (x_cwV C 0 LMX12_144 ⟨rfl, by decide, by decide, rfl⟩ hD (by decide)) rfl hq (by decide) rfl rfl hW hd hij k
theorem miX12_147 (C : xC x p s m c cc nL args RX12) {a0 : Nat} {a1 : Int32} {K : Int32 → Wd → Prop} {D MC MS : Nat} (hq : isK w a0 12) (h : w_X12_isSign a0 a1 K w) (hD : 0 + 1 ≤ D) (hW : (st.map fun v => v.category).sum ≤ 8) (hij : i ≤ MC ∧ j ≤ MS) (hd : decode cc pc = .ok (.invokevirtual 147, 3)) (k : ∀ (r : Int32) (u : Wd), K r u → GW x p l e (rmd D MC MS) s m args below meth c nL Q (pc + 3) lo (.int r :: st) u i j) : GW x p l e (rmd D MC MS) s m args below meth c nL Q pc lo (.int a1 :: .ref (adr x a0) :: st) w i j := g_callVi0 C (As := [.int a1]) (ci := 12) (c_X12_isSign h) (x_cwV C 1 LMX12_147 ⟨rfl, by decide, by decide, rfl⟩ hD (by decide)) rfl hq (by decide) rfl rfl hW hd hij k
theorem miX12_181 (C : xC x p s m c cc nL args RX12) {a0 : Nat} {K : Int32 → Wd → Prop} {D MC MS : Nat} (hq : isK w a0 12) (h : w_X12_lawWord a0 K w) (hD : 9 + 1 ≤ D) (hW : (st.map fun v => v.category).sum ≤ 8) (hij : i ≤ MC ∧ j ≤ MS) (hd : decode cc pc = .ok (.invokevirtual 181, 3)) (k : ∀ (r : Int32) (u : Wd), K r u → GW x p l e (rmd D MC MS) s m args below meth c nL Q (pc + 3) lo (.int r :: st) u i j) : GW x p l e (rmd D MC MS) s m args below meth c nL Q pc lo (.ref (adr x a0) :: st) w i j := g_callVi0 C (As := []) (ci := 12) (c_X12_lawWord h) (x_cwV C 0 LMX12_181 ⟨rfl, by decide, by decide, rfl⟩ hD (by decide)) rfl hq (by decide) rfl rfl hW hd hij k
theorem miRX12_156 (C : xC x p s m c cc nL args RX12) {a0 : Nat} {K : Wd → Prop} {D MC MS : Nat} (hq : isK w a0 12) {d : Nat} (h : Met l yX12_readSum (xws yX12_readSum cX12_readSum 2 none) (rmd d 0 0) (xPc x [.ref (adr x a0)] w) (QcV x K) 0 0 (xA x)) (hD : d + 1 ≤ D) (hW : (st.map fun v => v.category).sum ≤ 8) (hij : i ≤ MC ∧ j ≤ MS) (hd : decode cc pc = .ok (.invokevirtual 156, 3)) (k : ∀ (u : Wd), K u → GW x p l e (rmd D MC MS) s m args below meth c nL Q (pc + 3) lo st u i j) : GW x p l e (rmd D MC MS) s m args below meth c nL Q pc lo (.ref (adr x a0) :: st) w i j := g_callVv0 C (As := []) (ci := 12) h (x_cwV C 0 LMX12_156 ⟨rfl, by decide, by decide, rfl⟩ hD (by decide)) rfl hq (by decide) rfl rfl hW hd hij k
theorem miRX12_159 (C : xC x p s m c cc nL args RX12) {a0 : Nat} {K : Wd → Prop} {D MC MS : Nat} (hq : isK w a0 12) {d : Nat} (h : Met l yX12_readTerm (xws yX12_readTerm cX12_readTerm 1 none) (rmd d 0 0) (xPc x [.ref (adr x a0)] w) (QcV x K) 0 0 (xA x)) (hD : d + 1 ≤ D) (hW : (st.map fun v => v.category).sum ≤ 8) (hij : i ≤ MC ∧ j ≤ MS) (hd : decode cc pc = .ok (.invokevirtual 159, 3)) (k : ∀ (u : Wd), K u → GW x p l e (rmd D MC MS) s m args below meth c nL Q (pc + 3) lo st u i j) : GW x p l e (rmd D MC MS) s m args below meth c nL Q pc lo (.ref (adr x a0) :: st) w i j := g_callVv0 C (As := []) (ci := 12) h (x_cwV C 0 LMX12_159 ⟨rfl, by decide, by decide, rfl⟩ hD (by decide)) rfl hq (by decide) rfl rfl hW hd hij k
theorem miRX12_162 (C : xC x p s m c cc nL args RX12) {a0 : Nat} {K : Wd → Prop} {D MC MS : Nat} (hq : isK w a0 12) {d : Nat} (h : Met l yX12_readAtom (xws yX12_readAtom cX12_readAtom 3 none) (rmd d 0 0) (xPc x [.ref (adr x a0)] w) (QcV x K) 0 0 (xA x)) (hD : d + 1 ≤ D) (hW : (st.map fun v => v.category).sum ≤ 8) (hij : i ≤ MC ∧ j ≤ MS) (hd : decode cc pc = .ok (.invokevirtual 162, 3)) (k : ∀ (u : Wd), K u → GW x p l e (rmd D MC MS) s m args below meth c nL Q (pc + 3) lo st u i j) : GW x p l e (rmd D MC MS) s m args below meth c nL Q pc lo (.ref (adr x a0) :: st) w i j := g_callVv0 C (As := []) (ci := 12) h (x_cwV C 0 LMX12_162 ⟨rfl, by decide, by decide, rfl⟩ hD (by decide)) rfl hq (by decide) rfl rfl hW hd hij k
def b_X12_readAtom (P : Nat → Nat → (Wd → Prop) → Wd → Prop) (a0 : Nat) (K : Wd → Prop) (w : Wd) : Prop :=
  isK w a0 12 ∧ (((wI w a0 12) = 0 → w_X12_lawWord a0 (fun r3 w4 => ((r3 = (-1) → isK w4 a0 12 ∧ w_X12_isSign a0 40 (fun r7 w8 => ((r7 = 0 → isK w8 a0 12 ∧ w_X12_number a0 0 999 (fun r11 w12 => isK w12 a0 12 ∧ w_X12_laysStep a0 (1000 + r11) (fun w14 => K w14) w12) w8) ∧ (¬ r7 = 0 → isK w8 a0 12 ∧ w_X12_goesIn a0 (fun w16 => isK w16 a0 12 ∧ P 1 a0 (fun w18 => isK w18 a0 12 ∧ w_X12_mustSign a0 41 (fun w20 => isK w20 a0 12 ∧ K (uI w20 a0 16 ((wI w20 a0 16) - 1))) w18) w16) w8))) w4) ∧ (¬ r3 = (-1) → isK w4 a0 12 ∧ w_X12_laysStep a0 (100 + r3) (fun w23 => K w23) w4))) w) ∧ (¬ (wI w a0 12) = 0 → K w))
def j_X12_readSum_22 (P : Nat → Nat → (Wd → Prop) → Wd → Prop) (B : Nat → Wd → Prop)  (K : Wd → Prop) (a0 : Nat) (w : Wd) : Prop :=
  isK w a0 12 ∧ w_X12_readsOn a0 (fun w8 => isK w8 a0 12 ∧ P 2 a0 (fun w10 => (((wI w a0 10) = 43 → isK w10 a0 12 ∧ w_X12_laysStep a0 10 (fun w15 => B a0 w15) w10) ∧ (¬ (wI w a0 10) = 43 → isK w10 a0 12 ∧ w_X12_laysStep a0 11 (fun w13 => B a0 w13) w10))) w8) w
def l_X12_readSum_4 (P : Nat → Nat → (Wd → Prop) → Wd → Prop)  (K : Wd → Prop) : Nat → Nat → Wd → Prop
  | 0, _, _ => False
  | n + 1, a0, w => isK w a0 12 ∧ w_X12_isSign a0 43 (fun r4 w5 => ((r4 = 0 → isK w5 a0 12 ∧ w_X12_isSign a0 45 (fun r17 w18 => ((r17 = 0 → K w18) ∧ (¬ r17 = 0 → j_X12_readSum_22 P (l_X12_readSum_4 P K n) K a0 w18))) w5) ∧ (¬ r4 = 0 → j_X12_readSum_22 P (l_X12_readSum_4 P K n) K a0 w5))) w
def b_X12_readSum (P : Nat → Nat → (Wd → Prop) → Wd → Prop) (a0 : Nat) (K : Wd → Prop) (w : Wd) : Prop :=
  isK w a0 12 ∧ P 2 a0 (fun w2 => ∃ n20, l_X12_readSum_4 P  K n20 a0 w2) w
def l_X12_readTerm_4 (P : Nat → Nat → (Wd → Prop) → Wd → Prop)  (K : Wd → Prop) : Nat → Nat → Wd → Prop
  | 0, _, _ => False
  | n + 1, a0, w => isK w a0 12 ∧ w_X12_isSign a0 42 (fun r4 w5 => ((r4 = 0 → K w5) ∧ (¬ r4 = 0 → isK w5 a0 12 ∧ w_X12_readsOn a0 (fun w8 => isK w8 a0 12 ∧ P 0 a0 (fun w10 => isK w10 a0 12 ∧ w_X12_laysStep a0 12 (fun w12 => l_X12_readTerm_4 P K n a0 w12) w10) w8) w5))) w
def b_X12_readTerm (P : Nat → Nat → (Wd → Prop) → Wd → Prop) (a0 : Nat) (K : Wd → Prop) (w : Wd) : Prop :=
  isK w a0 12 ∧ P 0 a0 (fun w2 => ∃ n13, l_X12_readTerm_4 P  K n13 a0 w2) w
theorem t_X12_readAtom (C : xC x p s m c cX12_readAtom 3 args RX12) (hlk : meth.locks = false) (hr : meth.sig.returnType = none) {K : Wd → Prop} {d : Nat} (hd0 : 10 ≤ d) {P : Nat → Nat → (Wd → Prop) → Wd → Prop} (hP0 : ∀ (q0 : Nat) (K : Wd → Prop) (w : Wd), P 0 q0 K w → Met l yX12_readAtom (xws yX12_readAtom cX12_readAtom 3 none) (rmd d 0 0) (xPc x [.ref (adr x q0)] w) (QcV x K) 0 0 (xA x)) (hP1 : ∀ (q0 : Nat) (K : Wd → Prop) (w : Wd), P 1 q0 K w → Met l yX12_readSum (xws yX12_readSum cX12_readSum 2 none) (rmd d 0 0) (xPc x [.ref (adr x q0)] w) (QcV x K) 0 0 (xA x)) (hP2 : ∀ (q0 : Nat) (K : Wd → Prop) (w : Wd), P 2 q0 K w → Met l yX12_readTerm (xws yX12_readTerm cX12_readTerm 1 none) (rmd d 0 0) (xPc x [.ref (adr x q0)] w) (QcV x K) 0 0 (xA x)) (a0 : Nat) (w : Wd) (h : b_X12_readAtom P a0 K w) : GW x p l e (rmd (d + 1) 0 0) s m args below meth c 3 (QV x K below args s 0 0) 0 (lv_args 0 [.ref (adr x a0)]) [] w 0 0 := by
  show GW x p l e (rmd (d + 1) 0 0) s m args below meth c 3 (QV x K below args s 0 0) 0 [(0, .ref (adr x a0))] [] w 0 0
  refine g_aload_n (pc := 0) C dX12_readAtom_0 (q := 0) rfl ?_
  obtain ⟨k1, h⟩ := h
  refine gfX12_93 (pc := 1) C k1 dX12_readAtom_1 ?_
  refine g_if_eq (pc := 4) C dX12_readAtom_4 (tgt := 8) rfl (fun z2 => ?_) (fun z2 => ?_)
  · replace h := h.1 z2
    refine g_aload_n (pc := 8) C dX12_readAtom_8 (q := 0) rfl ?_
    refine miX12_181 (pc := 9) C k1 h (Nat.le_trans (Nat.le_of_ble_eq_true rfl) (Nat.succ_le_succ hd0)) (Nat.le_of_ble_eq_true rfl) ⟨Nat.le_refl _, Nat.le_refl _⟩ dX12_readAtom_9 (fun r3 w4 h => ?_)
    refine g_istore_n (pc := 12) C dX12_readAtom_12 (Nat.le_of_ble_eq_true rfl) (lo' := [(1, .int r3), (0, .ref (adr x a0))]) rfl ?_
    refine g_iload_n (pc := 13) C dX12_readAtom_13 (q := 0) rfl ?_
    refine g_iconst (pc := 14) C dX12_readAtom_14 (v := (-1)) rfl ?_
    refine g_icmp_eq (pc := 15) C dX12_readAtom_15 (tgt := 29) rfl (fun z5 => ?_) (fun z5 => ?_)
    · replace h := h.1 z5
      refine g_aload_n (pc := 29) C dX12_readAtom_29 (q := 1) rfl ?_
      refine g_bipush (pc := 30) C dX12_readAtom_30 (v := 40) rfl ?_
      obtain ⟨k6, h⟩ := h
      refine miX12_147 (pc := 32) C k6 h (Nat.le_trans (Nat.le_of_ble_eq_true rfl) (Nat.succ_le_succ hd0)) (Nat.le_of_ble_eq_true rfl) ⟨Nat.le_refl _, Nat.le_refl _⟩ dX12_readAtom_32 (fun r7 w8 h => ?_)
      refine g_if_eq (pc := 35) C dX12_readAtom_35 (tgt := 65) rfl (fun z9 => ?_) (fun z9 => ?_)
      · replace h := h.1 z9
        refine g_aload_n (pc := 65) C dX12_readAtom_65 (q := 1) rfl ?_
        refine g_iconst (pc := 66) C dX12_readAtom_66 (v := 0) rfl ?_
        refine g_sipush (pc := 67) C dX12_readAtom_67 (v := 999) rfl ?_
        obtain ⟨k10, h⟩ := h
        refine miX12_184 (pc := 70) C k10 h (Nat.le_trans (Nat.le_of_ble_eq_true rfl) (Nat.succ_le_succ hd0)) (Nat.le_of_ble_eq_true rfl) ⟨Nat.le_refl _, Nat.le_refl _⟩ dX12_readAtom_70 (fun r11 w12 h => ?_)
        refine g_istore_n (pc := 73) C dX12_readAtom_73 (Nat.le_of_ble_eq_true rfl) (lo' := [(2, .int r11), (1, .int r3), (0, .ref (adr x a0))]) rfl ?_
        refine g_aload_n (pc := 74) C dX12_readAtom_74 (q := 2) rfl ?_
        refine g_sipush (pc := 75) C dX12_readAtom_75 (v := 1000) rfl ?_
        refine g_iload_n (pc := 78) C dX12_readAtom_78 (q := 0) rfl ?_
        refine g_iadd (pc := 79) C dX12_readAtom_79 ?_
        obtain ⟨k13, h⟩ := h
        refine miX12_134 (pc := 80) C k13 h (Nat.le_trans (Nat.le_of_ble_eq_true rfl) (Nat.succ_le_succ hd0)) (Nat.le_of_ble_eq_true rfl) ⟨Nat.le_refl _, Nat.le_refl _⟩ dX12_readAtom_80 (fun w14 h => ?_)
        exact g_vret (pc := 83) C hlk hr (Nat.le_refl _) (Nat.le_refl _) dX12_readAtom_83 h
      · replace h := h.2 z9
        refine g_aload_n (pc := 38) C dX12_readAtom_38 (q := 1) rfl ?_
        obtain ⟨k15, h⟩ := h
        refine miX12_144 (pc := 39) C k15 h (Nat.le_trans (Nat.le_of_ble_eq_true rfl) (Nat.succ_le_succ hd0)) (Nat.le_of_ble_eq_true rfl) ⟨Nat.le_refl _, Nat.le_refl _⟩ dX12_readAtom_39 (fun w16 h => ?_)
        refine g_aload_n (pc := 42) C dX12_readAtom_42 (q := 1) rfl ?_
        obtain ⟨k17, h⟩ := h
        refine miRX12_156 (pc := 43) C k17 (hP1 _ _ _ h) (Nat.le_refl _) (Nat.le_of_ble_eq_true rfl) ⟨Nat.le_refl _, Nat.le_refl _⟩ dX12_readAtom_43 (fun w18 h => ?_)
        refine g_aload_n (pc := 46) C dX12_readAtom_46 (q := 1) rfl ?_
        refine g_bipush (pc := 47) C dX12_readAtom_47 (v := 41) rfl ?_
        obtain ⟨k19, h⟩ := h
        refine miX12_153 (pc := 49) C k19 h (Nat.le_trans (Nat.le_of_ble_eq_true rfl) (Nat.succ_le_succ hd0)) (Nat.le_of_ble_eq_true rfl) ⟨Nat.le_refl _, Nat.le_refl _⟩ dX12_readAtom_49 (fun w20 h => ?_)
        refine g_aload_n (pc := 52) C dX12_readAtom_52 (q := 1) rfl ?_
        refine g_dup (pc := 53) C dX12_readAtom_53 rfl ?_
        obtain ⟨k21, h⟩ := h
        refine gfX12_126 (pc := 54) C k21 dX12_readAtom_54 ?_
        refine g_iconst (pc := 57) C dX12_readAtom_57 (v := 1) rfl ?_
        refine g_isub (pc := 58) C dX12_readAtom_58 ?_
        refine pfX12_126 (pc := 59) C k21 dX12_readAtom_59 ?_
        refine g_goto (pc := 62) C dX12_readAtom_62 (tgt := 83) rfl ?_
        exact g_vret (pc := 83) C hlk hr (Nat.le_refl _) (Nat.le_refl _) dX12_readAtom_83 h
    · replace h := h.2 z5
      refine g_aload_n (pc := 18) C dX12_readAtom_18 (q := 1) rfl ?_
      refine g_bipush (pc := 19) C dX12_readAtom_19 (v := 100) rfl ?_
      refine g_iload_n (pc := 21) C dX12_readAtom_21 (q := 0) rfl ?_
      refine g_iadd (pc := 22) C dX12_readAtom_22 ?_
      obtain ⟨k22, h⟩ := h
      refine miX12_134 (pc := 23) C k22 h (Nat.le_trans (Nat.le_of_ble_eq_true rfl) (Nat.succ_le_succ hd0)) (Nat.le_of_ble_eq_true rfl) ⟨Nat.le_refl _, Nat.le_refl _⟩ dX12_readAtom_23 (fun w23 h => ?_)
      refine g_goto (pc := 26) C dX12_readAtom_26 (tgt := 83) rfl ?_
      exact g_vret (pc := 83) C hlk hr (Nat.le_refl _) (Nat.le_refl _) dX12_readAtom_83 h
  · replace h := h.2 z2
    exact g_vret (pc := 7) C hlk hr (Nat.le_refl _) (Nat.le_refl _) dX12_readAtom_7 h
theorem t_X12_readSum_22 (C : xC x p s m c cX12_readSum 2 args RX12) (hlk : meth.locks = false) (hr : meth.sig.returnType = none) {K : Wd → Prop} {d : Nat} (hd0 : 10 ≤ d) {P : Nat → Nat → (Wd → Prop) → Wd → Prop} (hP0 : ∀ (q0 : Nat) (K : Wd → Prop) (w : Wd), P 0 q0 K w → Met l yX12_readAtom (xws yX12_readAtom cX12_readAtom 3 none) (rmd d 0 0) (xPc x [.ref (adr x q0)] w) (QcV x K) 0 0 (xA x)) (hP1 : ∀ (q0 : Nat) (K : Wd → Prop) (w : Wd), P 1 q0 K w → Met l yX12_readSum (xws yX12_readSum cX12_readSum 2 none) (rmd d 0 0) (xPc x [.ref (adr x q0)] w) (QcV x K) 0 0 (xA x)) (hP2 : ∀ (q0 : Nat) (K : Wd → Prop) (w : Wd), P 2 q0 K w → Met l yX12_readTerm (xws yX12_readTerm cX12_readTerm 1 none) (rmd d 0 0) (xPc x [.ref (adr x q0)] w) (QcV x K) 0 0 (xA x)) {B : Nat → Wd → Prop}  (hB : ∀ (b0 : Nat) (w : Wd), B b0 w → GW x p l e (rmd (d + 1) 0 0) s m args below meth c 2 (QV x K below args s 0 0) 4 [(0, .ref (adr x b0))] [] w 0 0)  (a0 : Nat) (w : Wd) (h : j_X12_readSum_22 P B K a0 w) : GW x p l e (rmd (d + 1) 0 0) s m args below meth c 2 (QV x K below args s 0 0) 22 [(0, .ref (adr x a0))] [] w 0 0 := by
  refine g_aload_n (pc := 22) C dX12_readSum_22 (q := 0) rfl ?_
  obtain ⟨k7, h⟩ := h
  refine gfX12_73 (pc := 23) C k7 dX12_readSum_23 ?_
  refine g_istore_n (pc := 26) C dX12_readSum_26 (Nat.le_of_ble_eq_true rfl) (lo' := [(1, .int (wI w a0 10)), (0, .ref (adr x a0))]) rfl ?_
  refine g_aload_n (pc := 27) C dX12_readSum_27 (q := 1) rfl ?_
  refine miX12_112 (pc := 28) C k7 h (Nat.le_trans (Nat.le_of_ble_eq_true rfl) (Nat.succ_le_succ hd0)) (Nat.le_of_ble_eq_true rfl) ⟨Nat.le_refl _, Nat.le_refl _⟩ dX12_readSum_28 (fun w8 h => ?_)
  refine g_aload_n (pc := 31) C dX12_readSum_31 (q := 1) rfl ?_
  obtain ⟨k9, h⟩ := h
  refine miRX12_159 (pc := 32) C k9 (hP2 _ _ _ h) (Nat.le_refl _) (Nat.le_of_ble_eq_true rfl) ⟨Nat.le_refl _, Nat.le_refl _⟩ dX12_readSum_32 (fun w10 h => ?_)
  refine g_aload_n (pc := 35) C dX12_readSum_35 (q := 1) rfl ?_
  refine g_iload_n (pc := 36) C dX12_readSum_36 (q := 0) rfl ?_
  refine g_bipush (pc := 37) C dX12_readSum_37 (v := 43) rfl ?_
  refine g_icmp_ne (pc := 39) C dX12_readSum_39 (tgt := 47) rfl (fun z11 => ?_) (fun z11 => ?_)
  · replace h := h.2 z11
    refine g_bipush (pc := 47) C dX12_readSum_47 (v := 11) rfl ?_
    obtain ⟨k12, h⟩ := h
    refine miX12_134 (pc := 49) C k12 h (Nat.le_trans (Nat.le_of_ble_eq_true rfl) (Nat.succ_le_succ hd0)) (Nat.le_of_ble_eq_true rfl) ⟨Nat.le_refl _, Nat.le_refl _⟩ dX12_readSum_49 (fun w13 h => ?_)
    refine g_goto (pc := 52) C dX12_readSum_52 (tgt := 4) rfl ?_
    refine g_sub [1] rfl ?_
    exact hB _ _ h
  · replace h := h.1 z11
    refine g_bipush (pc := 42) C dX12_readSum_42 (v := 10) rfl ?_
    refine g_goto (pc := 44) C dX12_readSum_44 (tgt := 49) rfl ?_
    obtain ⟨k14, h⟩ := h
    refine miX12_134 (pc := 49) C k14 h (Nat.le_trans (Nat.le_of_ble_eq_true rfl) (Nat.succ_le_succ hd0)) (Nat.le_of_ble_eq_true rfl) ⟨Nat.le_refl _, Nat.le_refl _⟩ dX12_readSum_49 (fun w15 h => ?_)
    refine g_goto (pc := 52) C dX12_readSum_52 (tgt := 4) rfl ?_
    refine g_sub [1] rfl ?_
    exact hB _ _ h
theorem t_X12_readSum_4 (C : xC x p s m c cX12_readSum 2 args RX12) (hlk : meth.locks = false) (hr : meth.sig.returnType = none) {K : Wd → Prop} {d : Nat} (hd0 : 10 ≤ d) {P : Nat → Nat → (Wd → Prop) → Wd → Prop} (hP0 : ∀ (q0 : Nat) (K : Wd → Prop) (w : Wd), P 0 q0 K w → Met l yX12_readAtom (xws yX12_readAtom cX12_readAtom 3 none) (rmd d 0 0) (xPc x [.ref (adr x q0)] w) (QcV x K) 0 0 (xA x)) (hP1 : ∀ (q0 : Nat) (K : Wd → Prop) (w : Wd), P 1 q0 K w → Met l yX12_readSum (xws yX12_readSum cX12_readSum 2 none) (rmd d 0 0) (xPc x [.ref (adr x q0)] w) (QcV x K) 0 0 (xA x)) (hP2 : ∀ (q0 : Nat) (K : Wd → Prop) (w : Wd), P 2 q0 K w → Met l yX12_readTerm (xws yX12_readTerm cX12_readTerm 1 none) (rmd d 0 0) (xPc x [.ref (adr x q0)] w) (QcV x K) 0 0 (xA x))   : ∀ (n : Nat) (a0 : Nat) (w : Wd), l_X12_readSum_4 P K n a0 w → GW x p l e (rmd (d + 1) 0 0) s m args below meth c 2 (QV x K below args s 0 0) 4 [(0, .ref (adr x a0))] [] w 0 0 := by
  intro n
  induction n with
  | zero => intro _ _ h; exact False.elim h
  | succ n ih =>
    intro a0 w h
    refine g_aload_n (pc := 4) C dX12_readSum_4 (q := 0) rfl ?_
    refine g_bipush (pc := 5) C dX12_readSum_5 (v := 43) rfl ?_
    obtain ⟨k3, h⟩ := h
    refine miX12_147 (pc := 7) C k3 h (Nat.le_trans (Nat.le_of_ble_eq_true rfl) (Nat.succ_le_succ hd0)) (Nat.le_of_ble_eq_true rfl) ⟨Nat.le_refl _, Nat.le_refl _⟩ dX12_readSum_7 (fun r4 w5 h => ?_)
    refine g_if_ne (pc := 10) C dX12_readSum_10 (tgt := 22) rfl (fun z6 => ?_) (fun z6 => ?_)
    · replace h := h.2 z6
      exact t_X12_readSum_22 C hlk hr hd0 hP0 hP1 hP2 ih _ _ h
    · replace h := h.1 z6
      refine g_aload_n (pc := 13) C dX12_readSum_13 (q := 0) rfl ?_
      refine g_bipush (pc := 14) C dX12_readSum_14 (v := 45) rfl ?_
      obtain ⟨k16, h⟩ := h
      refine miX12_147 (pc := 16) C k16 h (Nat.le_trans (Nat.le_of_ble_eq_true rfl) (Nat.succ_le_succ hd0)) (Nat.le_of_ble_eq_true rfl) ⟨Nat.le_refl _, Nat.le_refl _⟩ dX12_readSum_16 (fun r17 w18 h => ?_)
      refine g_if_eq (pc := 19) C dX12_readSum_19 (tgt := 55) rfl (fun z19 => ?_) (fun z19 => ?_)
      · replace h := h.1 z19
        exact g_vret (pc := 55) C hlk hr (Nat.le_refl _) (Nat.le_refl _) dX12_readSum_55 h
      · replace h := h.2 z19
        exact t_X12_readSum_22 C hlk hr hd0 hP0 hP1 hP2 ih _ _ h
theorem t_X12_readSum (C : xC x p s m c cX12_readSum 2 args RX12) (hlk : meth.locks = false) (hr : meth.sig.returnType = none) {K : Wd → Prop} {d : Nat} (hd0 : 10 ≤ d) {P : Nat → Nat → (Wd → Prop) → Wd → Prop} (hP0 : ∀ (q0 : Nat) (K : Wd → Prop) (w : Wd), P 0 q0 K w → Met l yX12_readAtom (xws yX12_readAtom cX12_readAtom 3 none) (rmd d 0 0) (xPc x [.ref (adr x q0)] w) (QcV x K) 0 0 (xA x)) (hP1 : ∀ (q0 : Nat) (K : Wd → Prop) (w : Wd), P 1 q0 K w → Met l yX12_readSum (xws yX12_readSum cX12_readSum 2 none) (rmd d 0 0) (xPc x [.ref (adr x q0)] w) (QcV x K) 0 0 (xA x)) (hP2 : ∀ (q0 : Nat) (K : Wd → Prop) (w : Wd), P 2 q0 K w → Met l yX12_readTerm (xws yX12_readTerm cX12_readTerm 1 none) (rmd d 0 0) (xPc x [.ref (adr x q0)] w) (QcV x K) 0 0 (xA x)) (a0 : Nat) (w : Wd) (h : b_X12_readSum P a0 K w) : GW x p l e (rmd (d + 1) 0 0) s m args below meth c 2 (QV x K below args s 0 0) 0 (lv_args 0 [.ref (adr x a0)]) [] w 0 0 := by
  show GW x p l e (rmd (d + 1) 0 0) s m args below meth c 2 (QV x K below args s 0 0) 0 [(0, .ref (adr x a0))] [] w 0 0
  refine g_aload_n (pc := 0) C dX12_readSum_0 (q := 0) rfl ?_
  obtain ⟨k1, h⟩ := h
  refine miRX12_159 (pc := 1) C k1 (hP2 _ _ _ h) (Nat.le_refl _) (Nat.le_of_ble_eq_true rfl) ⟨Nat.le_refl _, Nat.le_refl _⟩ dX12_readSum_1 (fun w2 h => ?_)
  obtain ⟨n20, h⟩ := h
  refine t_X12_readSum_4 C hlk hr hd0 hP0 hP1 hP2 n20 _ _ h
theorem t_X12_readTerm_4 (C : xC x p s m c cX12_readTerm 1 args RX12) (hlk : meth.locks = false) (hr : meth.sig.returnType = none) {K : Wd → Prop} {d : Nat} (hd0 : 10 ≤ d) {P : Nat → Nat → (Wd → Prop) → Wd → Prop} (hP0 : ∀ (q0 : Nat) (K : Wd → Prop) (w : Wd), P 0 q0 K w → Met l yX12_readAtom (xws yX12_readAtom cX12_readAtom 3 none) (rmd d 0 0) (xPc x [.ref (adr x q0)] w) (QcV x K) 0 0 (xA x)) (hP1 : ∀ (q0 : Nat) (K : Wd → Prop) (w : Wd), P 1 q0 K w → Met l yX12_readSum (xws yX12_readSum cX12_readSum 2 none) (rmd d 0 0) (xPc x [.ref (adr x q0)] w) (QcV x K) 0 0 (xA x)) (hP2 : ∀ (q0 : Nat) (K : Wd → Prop) (w : Wd), P 2 q0 K w → Met l yX12_readTerm (xws yX12_readTerm cX12_readTerm 1 none) (rmd d 0 0) (xPc x [.ref (adr x q0)] w) (QcV x K) 0 0 (xA x))   : ∀ (n : Nat) (a0 : Nat) (w : Wd), l_X12_readTerm_4 P K n a0 w → GW x p l e (rmd (d + 1) 0 0) s m args below meth c 1 (QV x K below args s 0 0) 4 [(0, .ref (adr x a0))] [] w 0 0 := by
  intro n
  induction n with
  | zero => intro _ _ h; exact False.elim h
  | succ n ih =>
    intro a0 w h
    refine g_aload_n (pc := 4) C dX12_readTerm_4 (q := 0) rfl ?_
    refine g_bipush (pc := 5) C dX12_readTerm_5 (v := 42) rfl ?_
    obtain ⟨k3, h⟩ := h
    refine miX12_147 (pc := 7) C k3 h (Nat.le_trans (Nat.le_of_ble_eq_true rfl) (Nat.succ_le_succ hd0)) (Nat.le_of_ble_eq_true rfl) ⟨Nat.le_refl _, Nat.le_refl _⟩ dX12_readTerm_7 (fun r4 w5 h => ?_)
    refine g_if_eq (pc := 10) C dX12_readTerm_10 (tgt := 30) rfl (fun z6 => ?_) (fun z6 => ?_)
    · replace h := h.1 z6
      exact g_vret (pc := 30) C hlk hr (Nat.le_refl _) (Nat.le_refl _) dX12_readTerm_30 h
    · replace h := h.2 z6
      refine g_aload_n (pc := 13) C dX12_readTerm_13 (q := 0) rfl ?_
      obtain ⟨k7, h⟩ := h
      refine miX12_112 (pc := 14) C k7 h (Nat.le_trans (Nat.le_of_ble_eq_true rfl) (Nat.succ_le_succ hd0)) (Nat.le_of_ble_eq_true rfl) ⟨Nat.le_refl _, Nat.le_refl _⟩ dX12_readTerm_14 (fun w8 h => ?_)
      refine g_aload_n (pc := 17) C dX12_readTerm_17 (q := 0) rfl ?_
      obtain ⟨k9, h⟩ := h
      refine miRX12_162 (pc := 18) C k9 (hP0 _ _ _ h) (Nat.le_refl _) (Nat.le_of_ble_eq_true rfl) ⟨Nat.le_refl _, Nat.le_refl _⟩ dX12_readTerm_18 (fun w10 h => ?_)
      refine g_aload_n (pc := 21) C dX12_readTerm_21 (q := 0) rfl ?_
      refine g_bipush (pc := 22) C dX12_readTerm_22 (v := 12) rfl ?_
      obtain ⟨k11, h⟩ := h
      refine miX12_134 (pc := 24) C k11 h (Nat.le_trans (Nat.le_of_ble_eq_true rfl) (Nat.succ_le_succ hd0)) (Nat.le_of_ble_eq_true rfl) ⟨Nat.le_refl _, Nat.le_refl _⟩ dX12_readTerm_24 (fun w12 h => ?_)
      refine g_goto (pc := 27) C dX12_readTerm_27 (tgt := 4) rfl ?_
      exact ih _ _ h
theorem t_X12_readTerm (C : xC x p s m c cX12_readTerm 1 args RX12) (hlk : meth.locks = false) (hr : meth.sig.returnType = none) {K : Wd → Prop} {d : Nat} (hd0 : 10 ≤ d) {P : Nat → Nat → (Wd → Prop) → Wd → Prop} (hP0 : ∀ (q0 : Nat) (K : Wd → Prop) (w : Wd), P 0 q0 K w → Met l yX12_readAtom (xws yX12_readAtom cX12_readAtom 3 none) (rmd d 0 0) (xPc x [.ref (adr x q0)] w) (QcV x K) 0 0 (xA x)) (hP1 : ∀ (q0 : Nat) (K : Wd → Prop) (w : Wd), P 1 q0 K w → Met l yX12_readSum (xws yX12_readSum cX12_readSum 2 none) (rmd d 0 0) (xPc x [.ref (adr x q0)] w) (QcV x K) 0 0 (xA x)) (hP2 : ∀ (q0 : Nat) (K : Wd → Prop) (w : Wd), P 2 q0 K w → Met l yX12_readTerm (xws yX12_readTerm cX12_readTerm 1 none) (rmd d 0 0) (xPc x [.ref (adr x q0)] w) (QcV x K) 0 0 (xA x)) (a0 : Nat) (w : Wd) (h : b_X12_readTerm P a0 K w) : GW x p l e (rmd (d + 1) 0 0) s m args below meth c 1 (QV x K below args s 0 0) 0 (lv_args 0 [.ref (adr x a0)]) [] w 0 0 := by
  show GW x p l e (rmd (d + 1) 0 0) s m args below meth c 1 (QV x K below args s 0 0) 0 [(0, .ref (adr x a0))] [] w 0 0
  refine g_aload_n (pc := 0) C dX12_readTerm_0 (q := 0) rfl ?_
  obtain ⟨k1, h⟩ := h
  refine miRX12_162 (pc := 1) C k1 (hP0 _ _ _ h) (Nat.le_refl _) (Nat.le_of_ble_eq_true rfl) ⟨Nat.le_refl _, Nat.le_refl _⟩ dX12_readTerm_1 (fun w2 h => ?_)
  obtain ⟨n13, h⟩ := h
  refine t_X12_readTerm_4 C hlk hr hd0 hP0 hP1 hP2 n13 _ _ h
def wG_X12_readAtom : Nat → Nat → Nat → (Wd → Prop) → Wd → Prop
  | 0, _, _, _, _ => False
  | n + 1, q, a0, K, w => if q = 0 then b_X12_readAtom (wG_X12_readAtom n) a0 K w else if q = 1 then b_X12_readSum (wG_X12_readAtom n) a0 K w else b_X12_readTerm (wG_X12_readAtom n) a0 K w
theorem cG_X12_readAtom {x : xG} {l : Launch} : ∀ (n d : Nat), 10 + n ≤ d → (∀ (a0 : Nat) (K : Wd → Prop) (w : Wd), wG_X12_readAtom n 0 a0 K w → Met l yX12_readAtom (xws yX12_readAtom cX12_readAtom 3 none) (rmd d 0 0) (xPc x [.ref (adr x a0)] w) (QcV x K) 0 0 (xA x)) ∧ (∀ (a0 : Nat) (K : Wd → Prop) (w : Wd), wG_X12_readAtom n 1 a0 K w → Met l yX12_readSum (xws yX12_readSum cX12_readSum 2 none) (rmd d 0 0) (xPc x [.ref (adr x a0)] w) (QcV x K) 0 0 (xA x)) ∧ (∀ (a0 : Nat) (K : Wd → Prop) (w : Wd), wG_X12_readAtom n 2 a0 K w → Met l yX12_readTerm (xws yX12_readTerm cX12_readTerm 1 none) (rmd d 0 0) (xPc x [.ref (adr x a0)] w) (QcV x K) 0 0 (xA x)) := by
  intro n
  induction n with
  | zero => intro d _; exact ⟨fun _ _ _ h => False.elim h, fun _ _ _ h => False.elim h, fun _ _ _ h => False.elim h⟩
  | succ n ih =>
    intro d hd
    obtain ⟨d, rfl⟩ : ∃ d0, d = d0 + 1 := ⟨d - 1, by omega⟩
    have hd0 : 10 ≤ d := by omega
    have hp := ih d (by omega)
    obtain ⟨hP0, hP1, hP2⟩ := hp
    refine ⟨?_, ?_, ?_⟩
    · intro a0 K w h
      replace h : b_X12_readAtom (wG_X12_readAtom n) a0 K w := h
      exact xMet (by decide) (Nat.le_of_ble_eq_true rfl) (fun p e s m below meth c C hlk hr _ => t_X12_readAtom C hlk hr hd0 hP0 hP1 hP2 a0 w h)
    · intro a0 K w h
      replace h : b_X12_readSum (wG_X12_readAtom n) a0 K w := h
      exact xMet (by decide) (Nat.le_of_ble_eq_true rfl) (fun p e s m below meth c C hlk hr _ => t_X12_readSum C hlk hr hd0 hP0 hP1 hP2 a0 w h)
    · intro a0 K w h
      replace h : b_X12_readTerm (wG_X12_readAtom n) a0 K w := h
      exact xMet (by decide) (Nat.le_of_ble_eq_true rfl) (fun p e s m below meth c C hlk hr _ => t_X12_readTerm C hlk hr hd0 hP0 hP1 hP2 a0 w h)
def w_X12_readAtom (a0 : Nat) (K : Wd → Prop) (w : Wd) : Prop := ∃ n, n ≤ 100 ∧ wG_X12_readAtom n 0 a0 K w
theorem c_X12_readAtom {x : xG} {l : Launch} {a0 : Nat} {K : Wd → Prop} {w : Wd} (h : w_X12_readAtom a0 K w) : Met l yX12_readAtom (xws yX12_readAtom cX12_readAtom 3 none) (rmd 110 0 0) (xPc x [.ref (adr x a0)] w) (QcV x K) 0 0 (xA x) := by
  obtain ⟨n, hn, h⟩ := h
  exact (cG_X12_readAtom n 110 (by omega)).1 _ K w h
def w_X12_readSum (a0 : Nat) (K : Wd → Prop) (w : Wd) : Prop := ∃ n, n ≤ 100 ∧ wG_X12_readAtom n 1 a0 K w
theorem c_X12_readSum {x : xG} {l : Launch} {a0 : Nat} {K : Wd → Prop} {w : Wd} (h : w_X12_readSum a0 K w) : Met l yX12_readSum (xws yX12_readSum cX12_readSum 2 none) (rmd 110 0 0) (xPc x [.ref (adr x a0)] w) (QcV x K) 0 0 (xA x) := by
  obtain ⟨n, hn, h⟩ := h
  exact (cG_X12_readAtom n 110 (by omega)).2.1 _ K w h
def w_X12_readTerm (a0 : Nat) (K : Wd → Prop) (w : Wd) : Prop := ∃ n, n ≤ 100 ∧ wG_X12_readAtom n 2 a0 K w
theorem c_X12_readTerm {x : xG} {l : Launch} {a0 : Nat} {K : Wd → Prop} {w : Wd} (h : w_X12_readTerm a0 K w) : Met l yX12_readTerm (xws yX12_readTerm cX12_readTerm 1 none) (rmd 110 0 0) (xPc x [.ref (adr x a0)] w) (QcV x K) 0 0 (xA x) := by
  obtain ⟨n, hn, h⟩ := h
  exact (cG_X12_readAtom n 110 (by omega)).2.2 _ K w h
theorem miRX12_137 (C : xC x p s m c cc nL args RX12) {a0 : Nat} {K : Wd → Prop} {D MC MS : Nat} (hq : isK w a0 12) {d : Nat} (h : Met l yX12_readUnit (xws yX12_readUnit cX12_readUnit 2 none) (rmd d 0 0) (xPc x [.ref (adr x a0)] w) (QcV x K) 0 0 (xA x)) (hD : d + 1 ≤ D) (hW : (st.map fun v => v.category).sum ≤ 8) (hij : i ≤ MC ∧ j ≤ MS) (hd : decode cc pc = .ok (.invokevirtual 137, 3)) (k : ∀ (u : Wd), K u → GW x p l e (rmd D MC MS) s m args below meth c nL Q (pc + 3) lo st u i j) : GW x p l e (rmd D MC MS) s m args below meth c nL Q pc lo (.ref (adr x a0) :: st) w i j := g_callVv0 C (As := []) (ci := 12) h (x_cwV C 0 LMX12_137 ⟨rfl, by decide, by decide, rfl⟩ hD (by decide)) rfl hq (by decide) rfl rfl hW hd hij k
theorem miRX12_129 (C : xC x p s m c cc nL args RX12) {a0 : Nat} {K : Wd → Prop} {D MC MS : Nat} (hq : isK w a0 12) {d : Nat} (h : Met l yX12_readBoth (xws yX12_readBoth cX12_readBoth 1 none) (rmd d 0 0) (xPc x [.ref (adr x a0)] w) (QcV x K) 0 0 (xA x)) (hD : d + 1 ≤ D) (hW : (st.map fun v => v.category).sum ≤ 8) (hij : i ≤ MC ∧ j ≤ MS) (hd : decode cc pc = .ok (.invokevirtual 129, 3)) (k : ∀ (u : Wd), K u → GW x p l e (rmd D MC MS) s m args below meth c nL Q (pc + 3) lo st u i j) : GW x p l e (rmd D MC MS) s m args below meth c nL Q pc lo (.ref (adr x a0) :: st) w i j := g_callVv0 C (As := []) (ci := 12) h (x_cwV C 0 LMX12_129 ⟨rfl, by decide, by decide, rfl⟩ hD (by decide)) rfl hq (by decide) rfl rfl hW hd hij k
theorem miX12_156 (C : xC x p s m c cc nL args RX12) {a0 : Nat} {K : Wd → Prop} {D MC MS : Nat} (hq : isK w a0 12) (h : w_X12_readSum a0 K w) (hD : 110 + 1 ≤ D) (hW : (st.map fun v => v.category).sum ≤ 8) (hij : i ≤ MC ∧ j ≤ MS) (hd : decode cc pc = .ok (.invokevirtual 156, 3)) (k : ∀ (u : Wd), K u → GW x p l e (rmd D MC MS) s m args below meth c nL Q (pc + 3) lo st u i j) : GW x p l e (rmd D MC MS) s m args below meth c nL Q pc lo (.ref (adr x a0) :: st) w i j := g_callVv0 C (As := []) (ci := 12) (c_X12_readSum h) (x_cwV C 0 LMX12_156 ⟨rfl, by decide, by decide, rfl⟩ hD (by decide)) rfl hq (by decide) rfl rfl hW hd hij k
theorem miRX12_150 (C : xC x p s m c cc nL args RX12) {a0 : Nat} {K : Wd → Prop} {D MC MS : Nat} (hq : isK w a0 12) {d : Nat} (h : Met l yX12_readTruth (xws yX12_readTruth cX12_readTruth 1 none) (rmd d 0 0) (xPc x [.ref (adr x a0)] w) (QcV x K) 0 0 (xA x)) (hD : d + 1 ≤ D) (hW : (st.map fun v => v.category).sum ≤ 8) (hij : i ≤ MC ∧ j ≤ MS) (hd : decode cc pc = .ok (.invokevirtual 150, 3)) (k : ∀ (u : Wd), K u → GW x p l e (rmd D MC MS) s m args below meth c nL Q (pc + 3) lo st u i j) : GW x p l e (rmd D MC MS) s m args below meth c nL Q pc lo (.ref (adr x a0) :: st) w i j := g_callVv0 C (As := []) (ci := 12) h (x_cwV C 0 LMX12_150 ⟨rfl, by decide, by decide, rfl⟩ hD (by decide)) rfl hq (by decide) rfl rfl hW hd hij k
def l_X12_readBoth_4 (P : Nat → Nat → (Wd → Prop) → Wd → Prop)  (K : Wd → Prop) : Nat → Nat → Wd → Prop
  | 0, _, _ => False
  | n + 1, a0, w => isK w a0 12 ∧ w_X12_took a0 22 (fun r4 w5 => ((r4 = 0 → K w5) ∧ (¬ r4 = 0 → isK w5 a0 12 ∧ P 2 a0 (fun w8 => isK w8 a0 12 ∧ w_X12_laysStep a0 16 (fun w10 => l_X12_readBoth_4 P K n a0 w10) w8) w5))) w
def b_X12_readBoth (P : Nat → Nat → (Wd → Prop) → Wd → Prop) (a0 : Nat) (K : Wd → Prop) (w : Wd) : Prop :=
  isK w a0 12 ∧ P 2 a0 (fun w2 => ∃ n11, l_X12_readBoth_4 P  K n11 a0 w2) w
def l_X12_readTruth_4 (P : Nat → Nat → (Wd → Prop) → Wd → Prop)  (K : Wd → Prop) : Nat → Nat → Wd → Prop
  | 0, _, _ => False
  | n + 1, a0, w => isK w a0 12 ∧ w_X12_took a0 23 (fun r4 w5 => ((r4 = 0 → K w5) ∧ (¬ r4 = 0 → isK w5 a0 12 ∧ P 0 a0 (fun w8 => isK w8 a0 12 ∧ w_X12_laysStep a0 17 (fun w10 => l_X12_readTruth_4 P K n a0 w10) w8) w5))) w
def b_X12_readTruth (P : Nat → Nat → (Wd → Prop) → Wd → Prop) (a0 : Nat) (K : Wd → Prop) (w : Wd) : Prop :=
  isK w a0 12 ∧ P 0 a0 (fun w2 => ∃ n11, l_X12_readTruth_4 P  K n11 a0 w2) w
def j_X12_readUnit_123 (P : Nat → Nat → (Wd → Prop) → Wd → Prop)  (K : Wd → Prop) (a0 : Nat) (a1 : Int32) (w : Wd) : Prop :=
  isK w a0 12 ∧ w_X12_readSum a0 (fun w16 => ((a1 = 61 → isK w16 a0 12 ∧ w_X12_laysStep a0 13 (fun w24 => K w24) w16) ∧ (¬ a1 = 61 → ((a1 = 60 → isK w16 a0 12 ∧ w_X12_laysStep a0 14 (fun w22 => K w22) w16) ∧ (¬ a1 = 60 → isK w16 a0 12 ∧ w_X12_laysStep a0 15 (fun w20 => K w20) w16))))) w
def b_X12_readUnit (P : Nat → Nat → (Wd → Prop) → Wd → Prop) (a0 : Nat) (K : Wd → Prop) (w : Wd) : Prop :=
  isK w a0 12 ∧ (((wI w a0 12) = 0 → w_X12_isWord a0 13 (fun r3 w4 => ((r3 = 0 → isK w4 a0 12 ∧ w_X12_isSign a0 91 (fun r7 w8 => ((r7 = 0 → isK w8 a0 12 ∧ w_X12_readSum a0 (fun w11 => isK w11 a0 12 ∧ (((wI w11 a0 10) = 61 → (((wI w11 a0 12) = 0 → w_X12_readsOn a0 (fun w25 => j_X12_readUnit_123 P K a0 (wI w11 a0 10) w25) w11) ∧ (¬ (wI w11 a0 12) = 0 → j_X12_readUnit_123 P K a0 (wI w11 a0 10) w11))) ∧ (¬ (wI w11 a0 10) = 61 → (((wI w11 a0 10) = 60 → (((wI w11 a0 12) = 0 → w_X12_readsOn a0 (fun w28 => j_X12_readUnit_123 P K a0 (wI w11 a0 10) w28) w11) ∧ (¬ (wI w11 a0 12) = 0 → j_X12_readUnit_123 P K a0 (wI w11 a0 10) w11))) ∧ (¬ (wI w11 a0 10) = 60 → (((wI w11 a0 10) = 62 → (((wI w11 a0 12) = 0 → w_X12_readsOn a0 (fun w31 => j_X12_readUnit_123 P K a0 (wI w11 a0 10) w31) w11) ∧ (¬ (wI w11 a0 12) = 0 → j_X12_readUnit_123 P K a0 (wI w11 a0 10) w11))) ∧ (¬ (wI w11 a0 10) = 62 → w_X12_blames a0 2 (fun w32 => isK w32 a0 12 ∧ (((wI w32 a0 12) = 0 → w_X12_readsOn a0 (fun w35 => j_X12_readUnit_123 P K a0 (wI w11 a0 10) w35) w32) ∧ (¬ (wI w32 a0 12) = 0 → j_X12_readUnit_123 P K a0 (wI w11 a0 10) w32))) w11))))))) w8) ∧ (¬ r7 = 0 → isK w8 a0 12 ∧ w_X12_goesIn a0 (fun w37 => isK w37 a0 12 ∧ P 1 a0 (fun w39 => isK w39 a0 12 ∧ w_X12_mustSign a0 93 (fun w41 => isK w41 a0 12 ∧ K (uI w41 a0 16 ((wI w41 a0 16) - 1))) w39) w37) w8))) w4) ∧ (¬ r3 = 0 → isK w4 a0 12 ∧ w_X12_goesIn a0 (fun w44 => isK w44 a0 12 ∧ P 2 a0 (fun w46 => isK w46 a0 12 ∧ w_X12_laysStep a0 18 (fun w48 => isK w48 a0 12 ∧ K (uI w48 a0 16 ((wI w48 a0 16) - 1))) w46) w44) w4))) w) ∧ (¬ (wI w a0 12) = 0 → K w))
theorem t_X12_readBoth_4 (C : xC x p s m c cX12_readBoth 1 args RX12) (hlk : meth.locks = false) (hr : meth.sig.returnType = none) {K : Wd → Prop} {d : Nat} (hd0 : 111 ≤ d) {P : Nat → Nat → (Wd → Prop) → Wd → Prop} (hP0 : ∀ (q0 : Nat) (K : Wd → Prop) (w : Wd), P 0 q0 K w → Met l yX12_readBoth (xws yX12_readBoth cX12_readBoth 1 none) (rmd d 0 0) (xPc x [.ref (adr x q0)] w) (QcV x K) 0 0 (xA x)) (hP1 : ∀ (q0 : Nat) (K : Wd → Prop) (w : Wd), P 1 q0 K w → Met l yX12_readTruth (xws yX12_readTruth cX12_readTruth 1 none) (rmd d 0 0) (xPc x [.ref (adr x q0)] w) (QcV x K) 0 0 (xA x)) (hP2 : ∀ (q0 : Nat) (K : Wd → Prop) (w : Wd), P 2 q0 K w → Met l yX12_readUnit (xws yX12_readUnit cX12_readUnit 2 none) (rmd d 0 0) (xPc x [.ref (adr x q0)] w) (QcV x K) 0 0 (xA x))   : ∀ (n : Nat) (a0 : Nat) (w : Wd), l_X12_readBoth_4 P K n a0 w → GW x p l e (rmd (d + 1) 0 0) s m args below meth c 1 (QV x K below args s 0 0) 4 [(0, .ref (adr x a0))] [] w 0 0 := by
  intro n
  induction n with
  | zero => intro _ _ h; exact False.elim h
  | succ n ih =>
    intro a0 w h
    refine g_aload_n (pc := 4) C dX12_readBoth_4 (q := 0) rfl ?_
    refine g_ldcS (pc := 5) C (q := 52) (k0 := 20) rfl (Nat.le_of_ble_eq_true rfl) dX12_readBoth_5 ?_
    obtain ⟨k3, h⟩ := h
    refine miX12_123 (pc := 7) C k3 h (Nat.le_trans (Nat.le_of_ble_eq_true rfl) (Nat.succ_le_succ hd0)) (Nat.le_of_ble_eq_true rfl) ⟨Nat.le_refl _, Nat.le_refl _⟩ dX12_readBoth_7 (fun r4 w5 h => ?_)
    refine g_if_eq (pc := 10) C dX12_readBoth_10 (tgt := 26) rfl (fun z6 => ?_) (fun z6 => ?_)
    · replace h := h.1 z6
      exact g_vret (pc := 26) C hlk hr (Nat.le_refl _) (Nat.le_refl _) dX12_readBoth_26 h
    · replace h := h.2 z6
      refine g_aload_n (pc := 13) C dX12_readBoth_13 (q := 0) rfl ?_
      obtain ⟨k7, h⟩ := h
      refine miRX12_137 (pc := 14) C k7 (hP2 _ _ _ h) (Nat.le_refl _) (Nat.le_of_ble_eq_true rfl) ⟨Nat.le_refl _, Nat.le_refl _⟩ dX12_readBoth_14 (fun w8 h => ?_)
      refine g_aload_n (pc := 17) C dX12_readBoth_17 (q := 0) rfl ?_
      refine g_bipush (pc := 18) C dX12_readBoth_18 (v := 16) rfl ?_
      obtain ⟨k9, h⟩ := h
      refine miX12_134 (pc := 20) C k9 h (Nat.le_trans (Nat.le_of_ble_eq_true rfl) (Nat.succ_le_succ hd0)) (Nat.le_of_ble_eq_true rfl) ⟨Nat.le_refl _, Nat.le_refl _⟩ dX12_readBoth_20 (fun w10 h => ?_)
      refine g_goto (pc := 23) C dX12_readBoth_23 (tgt := 4) rfl ?_
      exact ih _ _ h
theorem t_X12_readBoth (C : xC x p s m c cX12_readBoth 1 args RX12) (hlk : meth.locks = false) (hr : meth.sig.returnType = none) {K : Wd → Prop} {d : Nat} (hd0 : 111 ≤ d) {P : Nat → Nat → (Wd → Prop) → Wd → Prop} (hP0 : ∀ (q0 : Nat) (K : Wd → Prop) (w : Wd), P 0 q0 K w → Met l yX12_readBoth (xws yX12_readBoth cX12_readBoth 1 none) (rmd d 0 0) (xPc x [.ref (adr x q0)] w) (QcV x K) 0 0 (xA x)) (hP1 : ∀ (q0 : Nat) (K : Wd → Prop) (w : Wd), P 1 q0 K w → Met l yX12_readTruth (xws yX12_readTruth cX12_readTruth 1 none) (rmd d 0 0) (xPc x [.ref (adr x q0)] w) (QcV x K) 0 0 (xA x)) (hP2 : ∀ (q0 : Nat) (K : Wd → Prop) (w : Wd), P 2 q0 K w → Met l yX12_readUnit (xws yX12_readUnit cX12_readUnit 2 none) (rmd d 0 0) (xPc x [.ref (adr x q0)] w) (QcV x K) 0 0 (xA x)) (a0 : Nat) (w : Wd) (h : b_X12_readBoth P a0 K w) : GW x p l e (rmd (d + 1) 0 0) s m args below meth c 1 (QV x K below args s 0 0) 0 (lv_args 0 [.ref (adr x a0)]) [] w 0 0 := by
  show GW x p l e (rmd (d + 1) 0 0) s m args below meth c 1 (QV x K below args s 0 0) 0 [(0, .ref (adr x a0))] [] w 0 0
  refine g_aload_n (pc := 0) C dX12_readBoth_0 (q := 0) rfl ?_
  obtain ⟨k1, h⟩ := h
  refine miRX12_137 (pc := 1) C k1 (hP2 _ _ _ h) (Nat.le_refl _) (Nat.le_of_ble_eq_true rfl) ⟨Nat.le_refl _, Nat.le_refl _⟩ dX12_readBoth_1 (fun w2 h => ?_)
  obtain ⟨n11, h⟩ := h
  refine t_X12_readBoth_4 C hlk hr hd0 hP0 hP1 hP2 n11 _ _ h
theorem t_X12_readTruth_4 (C : xC x p s m c cX12_readTruth 1 args RX12) (hlk : meth.locks = false) (hr : meth.sig.returnType = none) {K : Wd → Prop} {d : Nat} (hd0 : 111 ≤ d) {P : Nat → Nat → (Wd → Prop) → Wd → Prop} (hP0 : ∀ (q0 : Nat) (K : Wd → Prop) (w : Wd), P 0 q0 K w → Met l yX12_readBoth (xws yX12_readBoth cX12_readBoth 1 none) (rmd d 0 0) (xPc x [.ref (adr x q0)] w) (QcV x K) 0 0 (xA x)) (hP1 : ∀ (q0 : Nat) (K : Wd → Prop) (w : Wd), P 1 q0 K w → Met l yX12_readTruth (xws yX12_readTruth cX12_readTruth 1 none) (rmd d 0 0) (xPc x [.ref (adr x q0)] w) (QcV x K) 0 0 (xA x)) (hP2 : ∀ (q0 : Nat) (K : Wd → Prop) (w : Wd), P 2 q0 K w → Met l yX12_readUnit (xws yX12_readUnit cX12_readUnit 2 none) (rmd d 0 0) (xPc x [.ref (adr x q0)] w) (QcV x K) 0 0 (xA x))   : ∀ (n : Nat) (a0 : Nat) (w : Wd), l_X12_readTruth_4 P K n a0 w → GW x p l e (rmd (d + 1) 0 0) s m args below meth c 1 (QV x K below args s 0 0) 4 [(0, .ref (adr x a0))] [] w 0 0 := by
  intro n
  induction n with
  | zero => intro _ _ h; exact False.elim h
  | succ n ih =>
    intro a0 w h
    refine g_aload_n (pc := 4) C dX12_readTruth_4 (q := 0) rfl ?_
    refine g_ldcS (pc := 5) C (q := 53) (k0 := 21) rfl (Nat.le_of_ble_eq_true rfl) dX12_readTruth_5 ?_
    obtain ⟨k3, h⟩ := h
    refine miX12_123 (pc := 7) C k3 h (Nat.le_trans (Nat.le_of_ble_eq_true rfl) (Nat.succ_le_succ hd0)) (Nat.le_of_ble_eq_true rfl) ⟨Nat.le_refl _, Nat.le_refl _⟩ dX12_readTruth_7 (fun r4 w5 h => ?_)
    refine g_if_eq (pc := 10) C dX12_readTruth_10 (tgt := 26) rfl (fun z6 => ?_) (fun z6 => ?_)
    · replace h := h.1 z6
      exact g_vret (pc := 26) C hlk hr (Nat.le_refl _) (Nat.le_refl _) dX12_readTruth_26 h
    · replace h := h.2 z6
      refine g_aload_n (pc := 13) C dX12_readTruth_13 (q := 0) rfl ?_
      obtain ⟨k7, h⟩ := h
      refine miRX12_129 (pc := 14) C k7 (hP0 _ _ _ h) (Nat.le_refl _) (Nat.le_of_ble_eq_true rfl) ⟨Nat.le_refl _, Nat.le_refl _⟩ dX12_readTruth_14 (fun w8 h => ?_)
      refine g_aload_n (pc := 17) C dX12_readTruth_17 (q := 0) rfl ?_
      refine g_bipush (pc := 18) C dX12_readTruth_18 (v := 17) rfl ?_
      obtain ⟨k9, h⟩ := h
      refine miX12_134 (pc := 20) C k9 h (Nat.le_trans (Nat.le_of_ble_eq_true rfl) (Nat.succ_le_succ hd0)) (Nat.le_of_ble_eq_true rfl) ⟨Nat.le_refl _, Nat.le_refl _⟩ dX12_readTruth_20 (fun w10 h => ?_)
      refine g_goto (pc := 23) C dX12_readTruth_23 (tgt := 4) rfl ?_
      exact ih _ _ h
theorem t_X12_readTruth (C : xC x p s m c cX12_readTruth 1 args RX12) (hlk : meth.locks = false) (hr : meth.sig.returnType = none) {K : Wd → Prop} {d : Nat} (hd0 : 111 ≤ d) {P : Nat → Nat → (Wd → Prop) → Wd → Prop} (hP0 : ∀ (q0 : Nat) (K : Wd → Prop) (w : Wd), P 0 q0 K w → Met l yX12_readBoth (xws yX12_readBoth cX12_readBoth 1 none) (rmd d 0 0) (xPc x [.ref (adr x q0)] w) (QcV x K) 0 0 (xA x)) (hP1 : ∀ (q0 : Nat) (K : Wd → Prop) (w : Wd), P 1 q0 K w → Met l yX12_readTruth (xws yX12_readTruth cX12_readTruth 1 none) (rmd d 0 0) (xPc x [.ref (adr x q0)] w) (QcV x K) 0 0 (xA x)) (hP2 : ∀ (q0 : Nat) (K : Wd → Prop) (w : Wd), P 2 q0 K w → Met l yX12_readUnit (xws yX12_readUnit cX12_readUnit 2 none) (rmd d 0 0) (xPc x [.ref (adr x q0)] w) (QcV x K) 0 0 (xA x)) (a0 : Nat) (w : Wd) (h : b_X12_readTruth P a0 K w) : GW x p l e (rmd (d + 1) 0 0) s m args below meth c 1 (QV x K below args s 0 0) 0 (lv_args 0 [.ref (adr x a0)]) [] w 0 0 := by
  show GW x p l e (rmd (d + 1) 0 0) s m args below meth c 1 (QV x K below args s 0 0) 0 [(0, .ref (adr x a0))] [] w 0 0
  refine g_aload_n (pc := 0) C dX12_readTruth_0 (q := 0) rfl ?_
  obtain ⟨k1, h⟩ := h
  refine miRX12_129 (pc := 1) C k1 (hP0 _ _ _ h) (Nat.le_refl _) (Nat.le_of_ble_eq_true rfl) ⟨Nat.le_refl _, Nat.le_refl _⟩ dX12_readTruth_1 (fun w2 h => ?_)
  obtain ⟨n11, h⟩ := h
  refine t_X12_readTruth_4 C hlk hr hd0 hP0 hP1 hP2 n11 _ _ h
theorem t_X12_readUnit_123 (C : xC x p s m c cX12_readUnit 2 args RX12) (hlk : meth.locks = false) (hr : meth.sig.returnType = none) {K : Wd → Prop} {d : Nat} (hd0 : 111 ≤ d) {P : Nat → Nat → (Wd → Prop) → Wd → Prop} (hP0 : ∀ (q0 : Nat) (K : Wd → Prop) (w : Wd), P 0 q0 K w → Met l yX12_readBoth (xws yX12_readBoth cX12_readBoth 1 none) (rmd d 0 0) (xPc x [.ref (adr x q0)] w) (QcV x K) 0 0 (xA x)) (hP1 : ∀ (q0 : Nat) (K : Wd → Prop) (w : Wd), P 1 q0 K w → Met l yX12_readTruth (xws yX12_readTruth cX12_readTruth 1 none) (rmd d 0 0) (xPc x [.ref (adr x q0)] w) (QcV x K) 0 0 (xA x)) (hP2 : ∀ (q0 : Nat) (K : Wd → Prop) (w : Wd), P 2 q0 K w → Met l yX12_readUnit (xws yX12_readUnit cX12_readUnit 2 none) (rmd d 0 0) (xPc x [.ref (adr x q0)] w) (QcV x K) 0 0 (xA x))   (a0 : Nat) (a1 : Int32) (w : Wd) (h : j_X12_readUnit_123 P K a0 a1 w) : GW x p l e (rmd (d + 1) 0 0) s m args below meth c 2 (QV x K below args s 0 0) 123 [(0, .ref (adr x a0)), (1, .int a1)] [] w 0 0 := by
  refine g_aload_n (pc := 123) C dX12_readUnit_123 (q := 0) rfl ?_
  obtain ⟨k15, h⟩ := h
  refine miX12_156 (pc := 124) C k15 h (Nat.le_trans (Nat.le_of_ble_eq_true rfl) (Nat.succ_le_succ hd0)) (Nat.le_of_ble_eq_true rfl) ⟨Nat.le_refl _, Nat.le_refl _⟩ dX12_readUnit_124 (fun w16 h => ?_)
  refine g_aload_n (pc := 127) C dX12_readUnit_127 (q := 0) rfl ?_
  refine g_iload_n (pc := 128) C dX12_readUnit_128 (q := 1) rfl ?_
  refine g_bipush (pc := 129) C dX12_readUnit_129 (v := 61) rfl ?_
  refine g_icmp_ne (pc := 131) C dX12_readUnit_131 (tgt := 139) rfl (fun z17 => ?_) (fun z17 => ?_)
  · replace h := h.2 z17
    refine g_iload_n (pc := 139) C dX12_readUnit_139 (q := 1) rfl ?_
    refine g_bipush (pc := 140) C dX12_readUnit_140 (v := 60) rfl ?_
    refine g_icmp_ne (pc := 142) C dX12_readUnit_142 (tgt := 150) rfl (fun z18 => ?_) (fun z18 => ?_)
    · replace h := h.2 z18
      refine g_bipush (pc := 150) C dX12_readUnit_150 (v := 15) rfl ?_
      obtain ⟨k19, h⟩ := h
      refine miX12_134 (pc := 152) C k19 h (Nat.le_trans (Nat.le_of_ble_eq_true rfl) (Nat.succ_le_succ hd0)) (Nat.le_of_ble_eq_true rfl) ⟨Nat.le_refl _, Nat.le_refl _⟩ dX12_readUnit_152 (fun w20 h => ?_)
      exact g_vret (pc := 155) C hlk hr (Nat.le_refl _) (Nat.le_refl _) dX12_readUnit_155 h
    · replace h := h.1 z18
      refine g_bipush (pc := 145) C dX12_readUnit_145 (v := 14) rfl ?_
      refine g_goto (pc := 147) C dX12_readUnit_147 (tgt := 152) rfl ?_
      obtain ⟨k21, h⟩ := h
      refine miX12_134 (pc := 152) C k21 h (Nat.le_trans (Nat.le_of_ble_eq_true rfl) (Nat.succ_le_succ hd0)) (Nat.le_of_ble_eq_true rfl) ⟨Nat.le_refl _, Nat.le_refl _⟩ dX12_readUnit_152 (fun w22 h => ?_)
      exact g_vret (pc := 155) C hlk hr (Nat.le_refl _) (Nat.le_refl _) dX12_readUnit_155 h
  · replace h := h.1 z17
    refine g_bipush (pc := 134) C dX12_readUnit_134 (v := 13) rfl ?_
    refine g_goto (pc := 136) C dX12_readUnit_136 (tgt := 152) rfl ?_
    obtain ⟨k23, h⟩ := h
    refine miX12_134 (pc := 152) C k23 h (Nat.le_trans (Nat.le_of_ble_eq_true rfl) (Nat.succ_le_succ hd0)) (Nat.le_of_ble_eq_true rfl) ⟨Nat.le_refl _, Nat.le_refl _⟩ dX12_readUnit_152 (fun w24 h => ?_)
    exact g_vret (pc := 155) C hlk hr (Nat.le_refl _) (Nat.le_refl _) dX12_readUnit_155 h
theorem t_X12_readUnit (C : xC x p s m c cX12_readUnit 2 args RX12) (hlk : meth.locks = false) (hr : meth.sig.returnType = none) {K : Wd → Prop} {d : Nat} (hd0 : 111 ≤ d) {P : Nat → Nat → (Wd → Prop) → Wd → Prop} (hP0 : ∀ (q0 : Nat) (K : Wd → Prop) (w : Wd), P 0 q0 K w → Met l yX12_readBoth (xws yX12_readBoth cX12_readBoth 1 none) (rmd d 0 0) (xPc x [.ref (adr x q0)] w) (QcV x K) 0 0 (xA x)) (hP1 : ∀ (q0 : Nat) (K : Wd → Prop) (w : Wd), P 1 q0 K w → Met l yX12_readTruth (xws yX12_readTruth cX12_readTruth 1 none) (rmd d 0 0) (xPc x [.ref (adr x q0)] w) (QcV x K) 0 0 (xA x)) (hP2 : ∀ (q0 : Nat) (K : Wd → Prop) (w : Wd), P 2 q0 K w → Met l yX12_readUnit (xws yX12_readUnit cX12_readUnit 2 none) (rmd d 0 0) (xPc x [.ref (adr x q0)] w) (QcV x K) 0 0 (xA x)) (a0 : Nat) (w : Wd) (h : b_X12_readUnit P a0 K w) : GW x p l e (rmd (d + 1) 0 0) s m args below meth c 2 (QV x K below args s 0 0) 0 (lv_args 0 [.ref (adr x a0)]) [] w 0 0 := by
  show GW x p l e (rmd (d + 1) 0 0) s m args below meth c 2 (QV x K below args s 0 0) 0 [(0, .ref (adr x a0))] [] w 0 0
  refine g_aload_n (pc := 0) C dX12_readUnit_0 (q := 0) rfl ?_
  obtain ⟨k1, h⟩ := h
  refine gfX12_93 (pc := 1) C k1 dX12_readUnit_1 ?_
  refine g_if_eq (pc := 4) C dX12_readUnit_4 (tgt := 8) rfl (fun z2 => ?_) (fun z2 => ?_)
  · replace h := h.1 z2
    refine g_aload_n (pc := 8) C dX12_readUnit_8 (q := 0) rfl ?_
    refine g_ldcS (pc := 9) C (q := 44) (k0 := 11) rfl (Nat.le_of_ble_eq_true rfl) dX12_readUnit_9 ?_
    refine miX12_108 (pc := 11) C k1 h (Nat.le_trans (Nat.le_of_ble_eq_true rfl) (Nat.succ_le_succ hd0)) (Nat.le_of_ble_eq_true rfl) ⟨Nat.le_refl _, Nat.le_refl _⟩ dX12_readUnit_11 (fun r3 w4 h => ?_)
    refine g_if_eq (pc := 14) C dX12_readUnit_14 (tgt := 44) rfl (fun z5 => ?_) (fun z5 => ?_)
    · replace h := h.1 z5
      refine g_aload_n (pc := 44) C dX12_readUnit_44 (q := 0) rfl ?_
      refine g_bipush (pc := 45) C dX12_readUnit_45 (v := 91) rfl ?_
      obtain ⟨k6, h⟩ := h
      refine miX12_147 (pc := 47) C k6 h (Nat.le_trans (Nat.le_of_ble_eq_true rfl) (Nat.succ_le_succ hd0)) (Nat.le_of_ble_eq_true rfl) ⟨Nat.le_refl _, Nat.le_refl _⟩ dX12_readUnit_47 (fun r7 w8 h => ?_)
      refine g_if_eq (pc := 50) C dX12_readUnit_50 (tgt := 80) rfl (fun z9 => ?_) (fun z9 => ?_)
      · replace h := h.1 z9
        refine g_aload_n (pc := 80) C dX12_readUnit_80 (q := 0) rfl ?_
        obtain ⟨k10, h⟩ := h
        refine miX12_156 (pc := 81) C k10 h (Nat.le_trans (Nat.le_of_ble_eq_true rfl) (Nat.succ_le_succ hd0)) (Nat.le_of_ble_eq_true rfl) ⟨Nat.le_refl _, Nat.le_refl _⟩ dX12_readUnit_81 (fun w11 h => ?_)
        refine g_aload_n (pc := 84) C dX12_readUnit_84 (q := 0) rfl ?_
        obtain ⟨k12, h⟩ := h
        refine gfX12_73 (pc := 85) C k12 dX12_readUnit_85 ?_
        refine g_istore_n (pc := 88) C dX12_readUnit_88 (Nat.le_of_ble_eq_true rfl) (lo' := [(1, .int (wI w11 a0 10)), (0, .ref (adr x a0))]) rfl ?_
        refine g_iload_n (pc := 89) C dX12_readUnit_89 (q := 0) rfl ?_
        refine g_bipush (pc := 90) C dX12_readUnit_90 (v := 61) rfl ?_
        refine g_icmp_eq (pc := 92) C dX12_readUnit_92 (tgt := 112) rfl (fun z13 => ?_) (fun z13 => ?_)
        · replace h := h.1 z13
          refine g_aload_n (pc := 112) C dX12_readUnit_112 (q := 1) rfl ?_
          refine gfX12_93 (pc := 113) C k12 dX12_readUnit_113 ?_
          refine g_if_ne (pc := 116) C dX12_readUnit_116 (tgt := 123) rfl (fun z14 => ?_) (fun z14 => ?_)
          · replace h := h.2 z14
            refine g_sub [1, 0] rfl ?_
            exact t_X12_readUnit_123 C hlk hr hd0 hP0 hP1 hP2  _ _ _ h
          · replace h := h.1 z14
            refine g_aload_n (pc := 119) C dX12_readUnit_119 (q := 1) rfl ?_
            refine miX12_112 (pc := 120) C k12 h (Nat.le_trans (Nat.le_of_ble_eq_true rfl) (Nat.succ_le_succ hd0)) (Nat.le_of_ble_eq_true rfl) ⟨Nat.le_refl _, Nat.le_refl _⟩ dX12_readUnit_120 (fun w25 h => ?_)
            refine g_sub [1, 0] rfl ?_
            exact t_X12_readUnit_123 C hlk hr hd0 hP0 hP1 hP2  _ _ _ h
        · replace h := h.2 z13
          refine g_iload_n (pc := 95) C dX12_readUnit_95 (q := 0) rfl ?_
          refine g_bipush (pc := 96) C dX12_readUnit_96 (v := 60) rfl ?_
          refine g_icmp_eq (pc := 98) C dX12_readUnit_98 (tgt := 112) rfl (fun z26 => ?_) (fun z26 => ?_)
          · replace h := h.1 z26
            refine g_aload_n (pc := 112) C dX12_readUnit_112 (q := 1) rfl ?_
            refine gfX12_93 (pc := 113) C k12 dX12_readUnit_113 ?_
            refine g_if_ne (pc := 116) C dX12_readUnit_116 (tgt := 123) rfl (fun z27 => ?_) (fun z27 => ?_)
            · replace h := h.2 z27
              refine g_sub [1, 0] rfl ?_
              exact t_X12_readUnit_123 C hlk hr hd0 hP0 hP1 hP2  _ _ _ h
            · replace h := h.1 z27
              refine g_aload_n (pc := 119) C dX12_readUnit_119 (q := 1) rfl ?_
              refine miX12_112 (pc := 120) C k12 h (Nat.le_trans (Nat.le_of_ble_eq_true rfl) (Nat.succ_le_succ hd0)) (Nat.le_of_ble_eq_true rfl) ⟨Nat.le_refl _, Nat.le_refl _⟩ dX12_readUnit_120 (fun w28 h => ?_)
              refine g_sub [1, 0] rfl ?_
              exact t_X12_readUnit_123 C hlk hr hd0 hP0 hP1 hP2  _ _ _ h
          · replace h := h.2 z26
            refine g_iload_n (pc := 101) C dX12_readUnit_101 (q := 0) rfl ?_
            refine g_bipush (pc := 102) C dX12_readUnit_102 (v := 62) rfl ?_
            refine g_icmp_eq (pc := 104) C dX12_readUnit_104 (tgt := 112) rfl (fun z29 => ?_) (fun z29 => ?_)
            · replace h := h.1 z29
              refine g_aload_n (pc := 112) C dX12_readUnit_112 (q := 1) rfl ?_
              refine gfX12_93 (pc := 113) C k12 dX12_readUnit_113 ?_
              refine g_if_ne (pc := 116) C dX12_readUnit_116 (tgt := 123) rfl (fun z30 => ?_) (fun z30 => ?_)
              · replace h := h.2 z30
                refine g_sub [1, 0] rfl ?_
                exact t_X12_readUnit_123 C hlk hr hd0 hP0 hP1 hP2  _ _ _ h
              · replace h := h.1 z30
                refine g_aload_n (pc := 119) C dX12_readUnit_119 (q := 1) rfl ?_
                refine miX12_112 (pc := 120) C k12 h (Nat.le_trans (Nat.le_of_ble_eq_true rfl) (Nat.succ_le_succ hd0)) (Nat.le_of_ble_eq_true rfl) ⟨Nat.le_refl _, Nat.le_refl _⟩ dX12_readUnit_120 (fun w31 h => ?_)
                refine g_sub [1, 0] rfl ?_
                exact t_X12_readUnit_123 C hlk hr hd0 hP0 hP1 hP2  _ _ _ h
            · replace h := h.2 z29
              refine g_aload_n (pc := 107) C dX12_readUnit_107 (q := 1) rfl ?_
              refine g_iconst (pc := 108) C dX12_readUnit_108 (v := 2) rfl ?_
              refine miX12_115 (pc := 109) C k12 h (Nat.le_trans (Nat.le_of_ble_eq_true rfl) (Nat.succ_le_succ hd0)) (Nat.le_of_ble_eq_true rfl) ⟨Nat.le_refl _, Nat.le_refl _⟩ dX12_readUnit_109 (fun w32 h => ?_)
              refine g_aload_n (pc := 112) C dX12_readUnit_112 (q := 1) rfl ?_
              obtain ⟨k33, h⟩ := h
              refine gfX12_93 (pc := 113) C k33 dX12_readUnit_113 ?_
              refine g_if_ne (pc := 116) C dX12_readUnit_116 (tgt := 123) rfl (fun z34 => ?_) (fun z34 => ?_)
              · replace h := h.2 z34
                refine g_sub [1, 0] rfl ?_
                exact t_X12_readUnit_123 C hlk hr hd0 hP0 hP1 hP2  _ _ _ h
              · replace h := h.1 z34
                refine g_aload_n (pc := 119) C dX12_readUnit_119 (q := 1) rfl ?_
                refine miX12_112 (pc := 120) C k33 h (Nat.le_trans (Nat.le_of_ble_eq_true rfl) (Nat.succ_le_succ hd0)) (Nat.le_of_ble_eq_true rfl) ⟨Nat.le_refl _, Nat.le_refl _⟩ dX12_readUnit_120 (fun w35 h => ?_)
                refine g_sub [1, 0] rfl ?_
                exact t_X12_readUnit_123 C hlk hr hd0 hP0 hP1 hP2  _ _ _ h
      · replace h := h.2 z9
        refine g_aload_n (pc := 53) C dX12_readUnit_53 (q := 0) rfl ?_
        obtain ⟨k36, h⟩ := h
        refine miX12_144 (pc := 54) C k36 h (Nat.le_trans (Nat.le_of_ble_eq_true rfl) (Nat.succ_le_succ hd0)) (Nat.le_of_ble_eq_true rfl) ⟨Nat.le_refl _, Nat.le_refl _⟩ dX12_readUnit_54 (fun w37 h => ?_)
        refine g_aload_n (pc := 57) C dX12_readUnit_57 (q := 0) rfl ?_
        obtain ⟨k38, h⟩ := h
        refine miRX12_150 (pc := 58) C k38 (hP1 _ _ _ h) (Nat.le_refl _) (Nat.le_of_ble_eq_true rfl) ⟨Nat.le_refl _, Nat.le_refl _⟩ dX12_readUnit_58 (fun w39 h => ?_)
        refine g_aload_n (pc := 61) C dX12_readUnit_61 (q := 0) rfl ?_
        refine g_bipush (pc := 62) C dX12_readUnit_62 (v := 93) rfl ?_
        obtain ⟨k40, h⟩ := h
        refine miX12_153 (pc := 64) C k40 h (Nat.le_trans (Nat.le_of_ble_eq_true rfl) (Nat.succ_le_succ hd0)) (Nat.le_of_ble_eq_true rfl) ⟨Nat.le_refl _, Nat.le_refl _⟩ dX12_readUnit_64 (fun w41 h => ?_)
        refine g_aload_n (pc := 67) C dX12_readUnit_67 (q := 0) rfl ?_
        refine g_dup (pc := 68) C dX12_readUnit_68 rfl ?_
        obtain ⟨k42, h⟩ := h
        refine gfX12_126 (pc := 69) C k42 dX12_readUnit_69 ?_
        refine g_iconst (pc := 72) C dX12_readUnit_72 (v := 1) rfl ?_
        refine g_isub (pc := 73) C dX12_readUnit_73 ?_
        refine pfX12_126 (pc := 74) C k42 dX12_readUnit_74 ?_
        refine g_goto (pc := 77) C dX12_readUnit_77 (tgt := 155) rfl ?_
        exact g_vret (pc := 155) C hlk hr (Nat.le_refl _) (Nat.le_refl _) dX12_readUnit_155 h
    · replace h := h.2 z5
      refine g_aload_n (pc := 17) C dX12_readUnit_17 (q := 0) rfl ?_
      obtain ⟨k43, h⟩ := h
      refine miX12_144 (pc := 18) C k43 h (Nat.le_trans (Nat.le_of_ble_eq_true rfl) (Nat.succ_le_succ hd0)) (Nat.le_of_ble_eq_true rfl) ⟨Nat.le_refl _, Nat.le_refl _⟩ dX12_readUnit_18 (fun w44 h => ?_)
      refine g_aload_n (pc := 21) C dX12_readUnit_21 (q := 0) rfl ?_
      obtain ⟨k45, h⟩ := h
      refine miRX12_137 (pc := 22) C k45 (hP2 _ _ _ h) (Nat.le_refl _) (Nat.le_of_ble_eq_true rfl) ⟨Nat.le_refl _, Nat.le_refl _⟩ dX12_readUnit_22 (fun w46 h => ?_)
      refine g_aload_n (pc := 25) C dX12_readUnit_25 (q := 0) rfl ?_
      refine g_bipush (pc := 26) C dX12_readUnit_26 (v := 18) rfl ?_
      obtain ⟨k47, h⟩ := h
      refine miX12_134 (pc := 28) C k47 h (Nat.le_trans (Nat.le_of_ble_eq_true rfl) (Nat.succ_le_succ hd0)) (Nat.le_of_ble_eq_true rfl) ⟨Nat.le_refl _, Nat.le_refl _⟩ dX12_readUnit_28 (fun w48 h => ?_)
      refine g_aload_n (pc := 31) C dX12_readUnit_31 (q := 0) rfl ?_
      refine g_dup (pc := 32) C dX12_readUnit_32 rfl ?_
      obtain ⟨k49, h⟩ := h
      refine gfX12_126 (pc := 33) C k49 dX12_readUnit_33 ?_
      refine g_iconst (pc := 36) C dX12_readUnit_36 (v := 1) rfl ?_
      refine g_isub (pc := 37) C dX12_readUnit_37 ?_
      refine pfX12_126 (pc := 38) C k49 dX12_readUnit_38 ?_
      refine g_goto (pc := 41) C dX12_readUnit_41 (tgt := 155) rfl ?_
      exact g_vret (pc := 155) C hlk hr (Nat.le_refl _) (Nat.le_refl _) dX12_readUnit_155 h
  · replace h := h.2 z2
    exact g_vret (pc := 7) C hlk hr (Nat.le_refl _) (Nat.le_refl _) dX12_readUnit_7 h
def wG_X12_readBoth : Nat → Nat → Nat → (Wd → Prop) → Wd → Prop
  | 0, _, _, _, _ => False
  | n + 1, q, a0, K, w => if q = 0 then b_X12_readBoth (wG_X12_readBoth n) a0 K w else if q = 1 then b_X12_readTruth (wG_X12_readBoth n) a0 K w else b_X12_readUnit (wG_X12_readBoth n) a0 K w
theorem cG_X12_readBoth {x : xG} {l : Launch} : ∀ (n d : Nat), 111 + n ≤ d → (∀ (a0 : Nat) (K : Wd → Prop) (w : Wd), wG_X12_readBoth n 0 a0 K w → Met l yX12_readBoth (xws yX12_readBoth cX12_readBoth 1 none) (rmd d 0 0) (xPc x [.ref (adr x a0)] w) (QcV x K) 0 0 (xA x)) ∧ (∀ (a0 : Nat) (K : Wd → Prop) (w : Wd), wG_X12_readBoth n 1 a0 K w → Met l yX12_readTruth (xws yX12_readTruth cX12_readTruth 1 none) (rmd d 0 0) (xPc x [.ref (adr x a0)] w) (QcV x K) 0 0 (xA x)) ∧ (∀ (a0 : Nat) (K : Wd → Prop) (w : Wd), wG_X12_readBoth n 2 a0 K w → Met l yX12_readUnit (xws yX12_readUnit cX12_readUnit 2 none) (rmd d 0 0) (xPc x [.ref (adr x a0)] w) (QcV x K) 0 0 (xA x)) := by
  intro n
  induction n with
  | zero => intro d _; exact ⟨fun _ _ _ h => False.elim h, fun _ _ _ h => False.elim h, fun _ _ _ h => False.elim h⟩
  | succ n ih =>
    intro d hd
    obtain ⟨d, rfl⟩ : ∃ d0, d = d0 + 1 := ⟨d - 1, by omega⟩
    have hd0 : 111 ≤ d := by omega
    have hp := ih d (by omega)
    obtain ⟨hP0, hP1, hP2⟩ := hp
    refine ⟨?_, ?_, ?_⟩
    · intro a0 K w h
      replace h : b_X12_readBoth (wG_X12_readBoth n) a0 K w := h
      exact xMet (by decide) (Nat.le_of_ble_eq_true rfl) (fun p e s m below meth c C hlk hr _ => t_X12_readBoth C hlk hr hd0 hP0 hP1 hP2 a0 w h)
    · intro a0 K w h
      replace h : b_X12_readTruth (wG_X12_readBoth n) a0 K w := h
      exact xMet (by decide) (Nat.le_of_ble_eq_true rfl) (fun p e s m below meth c C hlk hr _ => t_X12_readTruth C hlk hr hd0 hP0 hP1 hP2 a0 w h)
    · intro a0 K w h
      replace h : b_X12_readUnit (wG_X12_readBoth n) a0 K w := h
      exact xMet (by decide) (Nat.le_of_ble_eq_true rfl) (fun p e s m below meth c C hlk hr _ => t_X12_readUnit C hlk hr hd0 hP0 hP1 hP2 a0 w h)
def w_X12_readBoth (a0 : Nat) (K : Wd → Prop) (w : Wd) : Prop := ∃ n, n ≤ 100 ∧ wG_X12_readBoth n 0 a0 K w
theorem c_X12_readBoth {x : xG} {l : Launch} {a0 : Nat} {K : Wd → Prop} {w : Wd} (h : w_X12_readBoth a0 K w) : Met l yX12_readBoth (xws yX12_readBoth cX12_readBoth 1 none) (rmd 211 0 0) (xPc x [.ref (adr x a0)] w) (QcV x K) 0 0 (xA x) := by
  obtain ⟨n, hn, h⟩ := h
  exact (cG_X12_readBoth n 211 (by omega)).1 _ K w h
def w_X12_readTruth (a0 : Nat) (K : Wd → Prop) (w : Wd) : Prop := ∃ n, n ≤ 100 ∧ wG_X12_readBoth n 1 a0 K w
theorem c_X12_readTruth {x : xG} {l : Launch} {a0 : Nat} {K : Wd → Prop} {w : Wd} (h : w_X12_readTruth a0 K w) : Met l yX12_readTruth (xws yX12_readTruth cX12_readTruth 1 none) (rmd 211 0 0) (xPc x [.ref (adr x a0)] w) (QcV x K) 0 0 (xA x) := by
  obtain ⟨n, hn, h⟩ := h
  exact (cG_X12_readBoth n 211 (by omega)).2.1 _ K w h
def w_X12_readUnit (a0 : Nat) (K : Wd → Prop) (w : Wd) : Prop := ∃ n, n ≤ 100 ∧ wG_X12_readBoth n 2 a0 K w
theorem c_X12_readUnit {x : xG} {l : Launch} {a0 : Nat} {K : Wd → Prop} {w : Wd} (h : w_X12_readUnit a0 K w) : Met l yX12_readUnit (xws yX12_readUnit cX12_readUnit 2 none) (rmd 211 0 0) (xPc x [.ref (adr x a0)] w) (QcV x K) 0 0 (xA x) := by
  obtain ⟨n, hn, h⟩ := h
  exact (cG_X12_readBoth n 211 (by omega)).2.2 _ K w h
def j_X12_readWell_112  (K : Wd → Prop) (a0 : Nat) (a1 : Int32) (a2 : Int32) (a3 : Int32) (a4 : Int32) (a5 : Int32) (s0 : Int32) (w : Wd) : Prop :=
  isK w a0 12 ∧ (((wI w a0 12) = 0 → isK w (wR w a0 1) 20 ∧ vp_in (27 + a1) (wn w (wR w a0 1)) ∧ vp_in (37 + a1) (wn w (wR w a0 1)) ∧ vp_in (5 + a1) (wn w (wR w a0 1)) ∧ vp_in (47 + a1) (wn w (wR w a0 1)) ∧ vp_in (15 + a1) (wn w (wR w a0 1)) ∧ vp_in 1 (wn w (wR w a0 1)) ∧ vp_in 1 (wn w (wR w a0 1)) ∧ K (uI (uI (uI (uI (uI (uI w (wR w a0 1) (27 + a1).toNatClampNeg a2) (wR w a0 1) (37 + a1).toNatClampNeg a3) (wR w a0 1) (5 + a1).toNatClampNeg a4) (wR w a0 1) (47 + a1).toNatClampNeg a5) (wR w a0 1) (15 + a1).toNatClampNeg s0) (wR w a0 1) (1 : Int32).toNatClampNeg ((wI (uI (uI (uI (uI (uI w (wR w a0 1) (27 + a1).toNatClampNeg a2) (wR w a0 1) (37 + a1).toNatClampNeg a3) (wR w a0 1) (5 + a1).toNatClampNeg a4) (wR w a0 1) (47 + a1).toNatClampNeg a5) (wR w a0 1) (15 + a1).toNatClampNeg s0) (wR w a0 1) (1 : Int32).toNatClampNeg) + 1))) ∧ (¬ (wI w a0 12) = 0 → K w))
def j_X12_readWell_89  (K : Wd → Prop) (a0 : Nat) (a1 : Int32) (a2 : Int32) (a3 : Int32) (a4 : Int32) (s0 : Int32) (w : Wd) : Prop :=
  isK w a0 12 ∧ w_X12_took a0 8 (fun r26 w27 => ((r26 = 0 → j_X12_readWell_112 K a0 a1 a2 a3 a4 s0 s0 w27) ∧ (¬ r26 = 0 → isK w27 a0 12 ∧ w_X12_number a0 0 s0 (fun r40 w41 => j_X12_readWell_112 K a0 a1 a2 a3 a4 s0 r40 w41) w27))) w
def j_X12_readWell_66  (K : Wd → Prop) (a0 : Nat) (a1 : Int32) (a2 : Int32) (a3 : Int32) (s0 : Int32) (w : Wd) : Prop :=
  isK w a0 12 ∧ w_X12_took a0 7 (fun r22 w23 => ((r22 = 0 → j_X12_readWell_89 K a0 a1 a2 a3 s0 10 w23) ∧ (¬ r22 = 0 → isK w23 a0 12 ∧ w_X12_number a0 1 99 (fun r43 w44 => j_X12_readWell_89 K a0 a1 a2 a3 s0 r43 w44) w23))) w
def w_X12_readWell (a0 : Nat) (K : Wd → Prop) (w : Wd) : Prop :=
  isK w a0 12 ∧ w_X12_begins a0 1 10 (fun r2 w3 => ((r2 = 0 → K w3) ∧ (¬ r2 = 0 → isK w3 a0 12 ∧ isK w3 (wR w3 a0 1) 20 ∧ vp_in 1 (wn w3 (wR w3 a0 1)) ∧ w_X12_mustWord a0 4 (fun w8 => isK w8 a0 12 ∧ w_X12_number a0 2 12 (fun r10 w11 => isK w11 a0 12 ∧ w_X12_mustWord a0 5 (fun w13 => isK w13 a0 12 ∧ w_X12_number a0 1 r10 (fun r15 w16 => isK w16 a0 12 ∧ w_X12_took a0 6 (fun r18 w19 => ((r18 = 0 → j_X12_readWell_66 K a0 (wI w3 (wR w3 a0 1) (1 : Int32).toNatClampNeg) r10 r15 0 w19) ∧ (¬ r18 = 0 → isK w19 a0 12 ∧ w_X12_number a0 0 (r10 - 1) (fun r46 w47 => j_X12_readWell_66 K a0 (wI w3 (wR w3 a0 1) (1 : Int32).toNatClampNeg) r10 r15 r46 w47) w19))) w16) w13) w11) w8) w3))) w
theorem t_X12_readWell_112 (C : xC x p s m c cX12_readWell 7 args RX12) (hlk : meth.locks = false) (hr : meth.sig.returnType = none) {K : Wd → Prop}   (a0 : Nat) (a1 : Int32) (a2 : Int32) (a3 : Int32) (a4 : Int32) (a5 : Int32) (s0 : Int32) (w : Wd) (h : j_X12_readWell_112 K a0 a1 a2 a3 a4 a5 s0 w) : GW x p l e (rmd 10 0 0) s m args below meth c 7 (QV x K below args s 0 0) 112 [(0, .ref (adr x a0)), (1, .int a1), (2, .int a2), (3, .int a3), (4, .int a4), (5, .int a5)] [.int s0] w 0 0 := by
  refine g_istore (pc := 112) C dX12_readWell_112 (Nat.le_of_ble_eq_true rfl) (lo' := [(6, .int s0), (0, .ref (adr x a0)), (1, .int a1), (2, .int a2), (3, .int a3), (4, .int a4), (5, .int a5)]) rfl ?_
  refine g_aload_n (pc := 114) C dX12_readWell_114 (q := 1) rfl ?_
  obtain ⟨k29, h⟩ := h
  refine gfX12_93 (pc := 115) C k29 dX12_readWell_115 ?_
  refine g_if_eq (pc := 118) C dX12_readWell_118 (tgt := 122) rfl (fun z30 => ?_) (fun z30 => ?_)
  · replace h := h.1 z30
    refine g_aload_n (pc := 122) C dX12_readWell_122 (q := 1) rfl ?_
    obtain ⟨k31, h⟩ := h
    refine gfX12_13 (pc := 123) C k29 (isK_ne k31) dX12_readWell_123 ?_
    refine g_bipush (pc := 126) C dX12_readWell_126 (v := 27) rfl ?_
    refine g_iload_n (pc := 128) C dX12_readWell_128 (q := 2) rfl ?_
    refine g_iadd (pc := 129) C dX12_readWell_129 ?_
    refine g_iload_n (pc := 130) C dX12_readWell_130 (q := 3) rfl ?_
    obtain ⟨k32, h⟩ := h
    refine g_iast (pc := 131) C k31 k32 dX12_readWell_131 ?_
    refine g_aload_n (pc := 132) C dX12_readWell_132 (q := 1) rfl ?_
    refine gfX12_13 (pc := 133) (w := uI w (wR w a0 1) (27 + a1).toNatClampNeg a2) C k29 (isK_ne k31) dX12_readWell_133 ?_
    refine g_bipush (pc := 136) C dX12_readWell_136 (v := 37) rfl ?_
    refine g_iload_n (pc := 138) C dX12_readWell_138 (q := 2) rfl ?_
    refine g_iadd (pc := 139) C dX12_readWell_139 ?_
    refine g_iload_n (pc := 140) C dX12_readWell_140 (q := 4) rfl ?_
    obtain ⟨k33, h⟩ := h
    refine g_iast (pc := 141) (w := uI w (wR w a0 1) (27 + a1).toNatClampNeg a2) C k31 k33 dX12_readWell_141 ?_
    refine g_aload_n (pc := 142) C dX12_readWell_142 (q := 1) rfl ?_
    refine gfX12_13 (pc := 143) (w := uI (uI w (wR w a0 1) (27 + a1).toNatClampNeg a2) (wR w a0 1) (37 + a1).toNatClampNeg a3) C k29 (isK_ne k31) dX12_readWell_143 ?_
    refine g_iconst (pc := 146) C dX12_readWell_146 (v := 5) rfl ?_
    refine g_iload_n (pc := 147) C dX12_readWell_147 (q := 2) rfl ?_
    refine g_iadd (pc := 148) C dX12_readWell_148 ?_
    refine g_iload (pc := 149) C dX12_readWell_149 (q := 5) rfl ?_
    obtain ⟨k34, h⟩ := h
    refine g_iast (pc := 151) (w := uI (uI w (wR w a0 1) (27 + a1).toNatClampNeg a2) (wR w a0 1) (37 + a1).toNatClampNeg a3) C k31 k34 dX12_readWell_151 ?_
    refine g_aload_n (pc := 152) C dX12_readWell_152 (q := 1) rfl ?_
    refine gfX12_13 (pc := 153) (w := uI (uI (uI w (wR w a0 1) (27 + a1).toNatClampNeg a2) (wR w a0 1) (37 + a1).toNatClampNeg a3) (wR w a0 1) (5 + a1).toNatClampNeg a4) C k29 (isK_ne k31) dX12_readWell_153 ?_
    refine g_bipush (pc := 156) C dX12_readWell_156 (v := 47) rfl ?_
    refine g_iload_n (pc := 158) C dX12_readWell_158 (q := 2) rfl ?_
    refine g_iadd (pc := 159) C dX12_readWell_159 ?_
    refine g_iload (pc := 160) C dX12_readWell_160 (q := 6) rfl ?_
    obtain ⟨k35, h⟩ := h
    refine g_iast (pc := 162) (w := uI (uI (uI w (wR w a0 1) (27 + a1).toNatClampNeg a2) (wR w a0 1) (37 + a1).toNatClampNeg a3) (wR w a0 1) (5 + a1).toNatClampNeg a4) C k31 k35 dX12_readWell_162 ?_
    refine g_aload_n (pc := 163) C dX12_readWell_163 (q := 1) rfl ?_
    refine gfX12_13 (pc := 164) (w := uI (uI (uI (uI w (wR w a0 1) (27 + a1).toNatClampNeg a2) (wR w a0 1) (37 + a1).toNatClampNeg a3) (wR w a0 1) (5 + a1).toNatClampNeg a4) (wR w a0 1) (47 + a1).toNatClampNeg a5) C k29 (isK_ne k31) dX12_readWell_164 ?_
    refine g_bipush (pc := 167) C dX12_readWell_167 (v := 15) rfl ?_
    refine g_iload_n (pc := 169) C dX12_readWell_169 (q := 2) rfl ?_
    refine g_iadd (pc := 170) C dX12_readWell_170 ?_
    refine g_iload (pc := 171) C dX12_readWell_171 (q := 0) rfl ?_
    obtain ⟨k36, h⟩ := h
    refine g_iast (pc := 173) (w := uI (uI (uI (uI w (wR w a0 1) (27 + a1).toNatClampNeg a2) (wR w a0 1) (37 + a1).toNatClampNeg a3) (wR w a0 1) (5 + a1).toNatClampNeg a4) (wR w a0 1) (47 + a1).toNatClampNeg a5) C k31 k36 dX12_readWell_173 ?_
    refine g_aload_n (pc := 174) C dX12_readWell_174 (q := 1) rfl ?_
    refine gfX12_13 (pc := 175) (w := uI (uI (uI (uI (uI w (wR w a0 1) (27 + a1).toNatClampNeg a2) (wR w a0 1) (37 + a1).toNatClampNeg a3) (wR w a0 1) (5 + a1).toNatClampNeg a4) (wR w a0 1) (47 + a1).toNatClampNeg a5) (wR w a0 1) (15 + a1).toNatClampNeg s0) C k29 (isK_ne k31) dX12_readWell_175 ?_
    refine g_iconst (pc := 178) C dX12_readWell_178 (v := 1) rfl ?_
    refine g_dup2 (pc := 179) C dX12_readWell_179 rfl rfl ?_
    obtain ⟨k37, h⟩ := h
    refine g_iald (pc := 180) (w := uI (uI (uI (uI (uI w (wR w a0 1) (27 + a1).toNatClampNeg a2) (wR w a0 1) (37 + a1).toNatClampNeg a3) (wR w a0 1) (5 + a1).toNatClampNeg a4) (wR w a0 1) (47 + a1).toNatClampNeg a5) (wR w a0 1) (15 + a1).toNatClampNeg s0) C k31 k37 dX12_readWell_180 ?_
    refine g_iconst (pc := 181) C dX12_readWell_181 (v := 1) rfl ?_
    refine g_iadd (pc := 182) C dX12_readWell_182 ?_
    obtain ⟨k38, h⟩ := h
    refine g_iast (pc := 183) (w := uI (uI (uI (uI (uI w (wR w a0 1) (27 + a1).toNatClampNeg a2) (wR w a0 1) (37 + a1).toNatClampNeg a3) (wR w a0 1) (5 + a1).toNatClampNeg a4) (wR w a0 1) (47 + a1).toNatClampNeg a5) (wR w a0 1) (15 + a1).toNatClampNeg s0) C k31 k38 dX12_readWell_183 ?_
    exact g_vret (pc := 184) C hlk hr (Nat.le_refl _) (Nat.le_refl _) dX12_readWell_184 h
  · replace h := h.2 z30
    exact g_vret (pc := 121) C hlk hr (Nat.le_refl _) (Nat.le_refl _) dX12_readWell_121 h
theorem t_X12_readWell_89 (C : xC x p s m c cX12_readWell 7 args RX12) (hlk : meth.locks = false) (hr : meth.sig.returnType = none) {K : Wd → Prop}   (a0 : Nat) (a1 : Int32) (a2 : Int32) (a3 : Int32) (a4 : Int32) (s0 : Int32) (w : Wd) (h : j_X12_readWell_89 K a0 a1 a2 a3 a4 s0 w) : GW x p l e (rmd 10 0 0) s m args below meth c 7 (QV x K below args s 0 0) 89 [(0, .ref (adr x a0)), (1, .int a1), (2, .int a2), (3, .int a3), (4, .int a4)] [.int s0] w 0 0 := by
  refine g_istore (pc := 89) C dX12_readWell_89 (Nat.le_of_ble_eq_true rfl) (lo' := [(5, .int s0), (0, .ref (adr x a0)), (1, .int a1), (2, .int a2), (3, .int a3), (4, .int a4)]) rfl ?_
  refine g_aload_n (pc := 91) C dX12_readWell_91 (q := 1) rfl ?_
  refine g_ldcS (pc := 92) C (q := 38) (k0 := 6) rfl (Nat.le_of_ble_eq_true rfl) dX12_readWell_92 ?_
  obtain ⟨k25, h⟩ := h
  refine miX12_123 (pc := 94) C k25 h (Nat.le_of_ble_eq_true rfl) (Nat.le_of_ble_eq_true rfl) ⟨Nat.le_refl _, Nat.le_refl _⟩ dX12_readWell_94 (fun r26 w27 h => ?_)
  refine g_if_eq (pc := 97) C dX12_readWell_97 (tgt := 110) rfl (fun z28 => ?_) (fun z28 => ?_)
  · replace h := h.1 z28
    refine g_iload (pc := 110) C dX12_readWell_110 (q := 0) rfl ?_
    refine g_sub [1, 2, 3, 4, 5, 0] rfl ?_
    exact t_X12_readWell_112 C hlk hr  _ _ _ _ _ _ _ _ h
  · replace h := h.2 z28
    refine g_aload_n (pc := 100) C dX12_readWell_100 (q := 1) rfl ?_
    refine g_iconst (pc := 101) C dX12_readWell_101 (v := 0) rfl ?_
    refine g_iload (pc := 102) C dX12_readWell_102 (q := 0) rfl ?_
    obtain ⟨k39, h⟩ := h
    refine miX12_184 (pc := 104) C k39 h (Nat.le_of_ble_eq_true rfl) (Nat.le_of_ble_eq_true rfl) ⟨Nat.le_refl _, Nat.le_refl _⟩ dX12_readWell_104 (fun r40 w41 h => ?_)
    refine g_goto (pc := 107) C dX12_readWell_107 (tgt := 112) rfl ?_
    refine g_sub [1, 2, 3, 4, 5, 0] rfl ?_
    exact t_X12_readWell_112 C hlk hr  _ _ _ _ _ _ _ _ h
theorem t_X12_readWell_66 (C : xC x p s m c cX12_readWell 7 args RX12) (hlk : meth.locks = false) (hr : meth.sig.returnType = none) {K : Wd → Prop}   (a0 : Nat) (a1 : Int32) (a2 : Int32) (a3 : Int32) (s0 : Int32) (w : Wd) (h : j_X12_readWell_66 K a0 a1 a2 a3 s0 w) : GW x p l e (rmd 10 0 0) s m args below meth c 7 (QV x K below args s 0 0) 66 [(0, .ref (adr x a0)), (1, .int a1), (2, .int a2), (3, .int a3)] [.int s0] w 0 0 := by
  refine g_istore (pc := 66) C dX12_readWell_66 (Nat.le_of_ble_eq_true rfl) (lo' := [(4, .int s0), (0, .ref (adr x a0)), (1, .int a1), (2, .int a2), (3, .int a3)]) rfl ?_
  refine g_aload_n (pc := 68) C dX12_readWell_68 (q := 1) rfl ?_
  refine g_ldcS (pc := 69) C (q := 37) (k0 := 5) rfl (Nat.le_of_ble_eq_true rfl) dX12_readWell_69 ?_
  obtain ⟨k21, h⟩ := h
  refine miX12_123 (pc := 71) C k21 h (Nat.le_of_ble_eq_true rfl) (Nat.le_of_ble_eq_true rfl) ⟨Nat.le_refl _, Nat.le_refl _⟩ dX12_readWell_71 (fun r22 w23 h => ?_)
  refine g_if_eq (pc := 74) C dX12_readWell_74 (tgt := 87) rfl (fun z24 => ?_) (fun z24 => ?_)
  · replace h := h.1 z24
    refine g_bipush (pc := 87) C dX12_readWell_87 (v := 10) rfl ?_
    refine g_sub [1, 2, 3, 4, 0] rfl ?_
    exact t_X12_readWell_89 C hlk hr  _ _ _ _ _ _ _ h
  · replace h := h.2 z24
    refine g_aload_n (pc := 77) C dX12_readWell_77 (q := 1) rfl ?_
    refine g_iconst (pc := 78) C dX12_readWell_78 (v := 1) rfl ?_
    refine g_bipush (pc := 79) C dX12_readWell_79 (v := 99) rfl ?_
    obtain ⟨k42, h⟩ := h
    refine miX12_184 (pc := 81) C k42 h (Nat.le_of_ble_eq_true rfl) (Nat.le_of_ble_eq_true rfl) ⟨Nat.le_refl _, Nat.le_refl _⟩ dX12_readWell_81 (fun r43 w44 h => ?_)
    refine g_goto (pc := 84) C dX12_readWell_84 (tgt := 89) rfl ?_
    refine g_sub [1, 2, 3, 4, 0] rfl ?_
    exact t_X12_readWell_89 C hlk hr  _ _ _ _ _ _ _ h
theorem c_X12_readWell {x : xG} {l : Launch} {a0 : Nat} {K : Wd → Prop} {w : Wd} (h : w_X12_readWell a0 K w) : Met l yX12_readWell (xws yX12_readWell cX12_readWell 7 none) (rmd 10 0 0) (xPc x [.ref (adr x a0)] w) (QcV x K) 0 0 (xA x) := by
  refine xMet (by decide) (Nat.le_of_ble_eq_true rfl) (fun p e s m below meth c C hlk hr _ => ?_)
  show GW x p l e (rmd 10 0 0) s m [.ref (adr x a0)].toArray below meth c 7 (QV x K below [.ref (adr x a0)].toArray s 0 0) 0 [(0, .ref (adr x a0))] [] w 0 0
  refine g_aload_n (pc := 0) C dX12_readWell_0 (q := 0) rfl ?_
  refine g_iconst (pc := 1) C dX12_readWell_1 (v := 1) rfl ?_
  refine g_bipush (pc := 2) C dX12_readWell_2 (v := 10) rfl ?_
  obtain ⟨k1, h⟩ := h
  refine miX12_188 (pc := 4) C k1 h (Nat.le_of_ble_eq_true rfl) (Nat.le_of_ble_eq_true rfl) ⟨Nat.le_refl _, Nat.le_refl _⟩ dX12_readWell_4 (fun r2 w3 h => ?_)
  refine g_if_ne (pc := 7) C dX12_readWell_7 (tgt := 11) rfl (fun z4 => ?_) (fun z4 => ?_)
  · replace h := h.2 z4
    refine g_aload_n (pc := 11) C dX12_readWell_11 (q := 0) rfl ?_
    obtain ⟨k5, h⟩ := h
    obtain ⟨k6, h⟩ := h
    refine gfX12_13 (pc := 12) C k5 (isK_ne k6) dX12_readWell_12 ?_
    refine g_iconst (pc := 15) C dX12_readWell_15 (v := 1) rfl ?_
    obtain ⟨k7, h⟩ := h
    refine g_iald (pc := 16) C k6 k7 dX12_readWell_16 ?_
    refine g_istore_n (pc := 17) C dX12_readWell_17 (Nat.le_of_ble_eq_true rfl) (lo' := [(1, .int (wI w3 (wR w3 a0 1) (1 : Int32).toNatClampNeg)), (0, .ref (adr x a0))]) rfl ?_
    refine g_aload_n (pc := 18) C dX12_readWell_18 (q := 1) rfl ?_
    refine g_ldcS (pc := 19) C (q := 34) (k0 := 2) rfl (Nat.le_of_ble_eq_true rfl) dX12_readWell_19 ?_
    refine miX12_194 (pc := 21) C k5 h (Nat.le_of_ble_eq_true rfl) (Nat.le_of_ble_eq_true rfl) ⟨Nat.le_refl _, Nat.le_refl _⟩ dX12_readWell_21 (fun w8 h => ?_)
    refine g_aload_n (pc := 24) C dX12_readWell_24 (q := 1) rfl ?_
    refine g_iconst (pc := 25) C dX12_readWell_25 (v := 2) rfl ?_
    refine g_bipush (pc := 26) C dX12_readWell_26 (v := 12) rfl ?_
    obtain ⟨k9, h⟩ := h
    refine miX12_184 (pc := 28) C k9 h (Nat.le_of_ble_eq_true rfl) (Nat.le_of_ble_eq_true rfl) ⟨Nat.le_refl _, Nat.le_refl _⟩ dX12_readWell_28 (fun r10 w11 h => ?_)
    refine g_istore_n (pc := 31) C dX12_readWell_31 (Nat.le_of_ble_eq_true rfl) (lo' := [(2, .int r10), (1, .int (wI w3 (wR w3 a0 1) (1 : Int32).toNatClampNeg)), (0, .ref (adr x a0))]) rfl ?_
    refine g_aload_n (pc := 32) C dX12_readWell_32 (q := 2) rfl ?_
    refine g_ldcS (pc := 33) C (q := 35) (k0 := 3) rfl (Nat.le_of_ble_eq_true rfl) dX12_readWell_33 ?_
    obtain ⟨k12, h⟩ := h
    refine miX12_194 (pc := 35) C k12 h (Nat.le_of_ble_eq_true rfl) (Nat.le_of_ble_eq_true rfl) ⟨Nat.le_refl _, Nat.le_refl _⟩ dX12_readWell_35 (fun w13 h => ?_)
    refine g_aload_n (pc := 38) C dX12_readWell_38 (q := 2) rfl ?_
    refine g_iconst (pc := 39) C dX12_readWell_39 (v := 1) rfl ?_
    refine g_iload_n (pc := 40) C dX12_readWell_40 (q := 0) rfl ?_
    obtain ⟨k14, h⟩ := h
    refine miX12_184 (pc := 41) C k14 h (Nat.le_of_ble_eq_true rfl) (Nat.le_of_ble_eq_true rfl) ⟨Nat.le_refl _, Nat.le_refl _⟩ dX12_readWell_41 (fun r15 w16 h => ?_)
    refine g_istore_n (pc := 44) C dX12_readWell_44 (Nat.le_of_ble_eq_true rfl) (lo' := [(3, .int r15), (2, .int r10), (1, .int (wI w3 (wR w3 a0 1) (1 : Int32).toNatClampNeg)), (0, .ref (adr x a0))]) rfl ?_
    refine g_aload_n (pc := 45) C dX12_readWell_45 (q := 3) rfl ?_
    refine g_ldcS (pc := 46) C (q := 36) (k0 := 4) rfl (Nat.le_of_ble_eq_true rfl) dX12_readWell_46 ?_
    obtain ⟨k17, h⟩ := h
    refine miX12_123 (pc := 48) C k17 h (Nat.le_of_ble_eq_true rfl) (Nat.le_of_ble_eq_true rfl) ⟨Nat.le_refl _, Nat.le_refl _⟩ dX12_readWell_48 (fun r18 w19 h => ?_)
    refine g_if_eq (pc := 51) C dX12_readWell_51 (tgt := 65) rfl (fun z20 => ?_) (fun z20 => ?_)
    · replace h := h.1 z20
      refine g_iconst (pc := 65) C dX12_readWell_65 (v := 0) rfl ?_
      refine g_sub [3, 2, 1, 0] rfl ?_
      exact t_X12_readWell_66 C hlk hr  _ _ _ _ _ _ h
    · replace h := h.2 z20
      refine g_aload_n (pc := 54) C dX12_readWell_54 (q := 3) rfl ?_
      refine g_iconst (pc := 55) C dX12_readWell_55 (v := 0) rfl ?_
      refine g_iload_n (pc := 56) C dX12_readWell_56 (q := 1) rfl ?_
      refine g_iconst (pc := 57) C dX12_readWell_57 (v := 1) rfl ?_
      refine g_isub (pc := 58) C dX12_readWell_58 ?_
      obtain ⟨k45, h⟩ := h
      refine miX12_184 (pc := 59) C k45 h (Nat.le_of_ble_eq_true rfl) (Nat.le_of_ble_eq_true rfl) ⟨Nat.le_refl _, Nat.le_refl _⟩ dX12_readWell_59 (fun r46 w47 h => ?_)
      refine g_goto (pc := 62) C dX12_readWell_62 (tgt := 66) rfl ?_
      refine g_sub [3, 2, 1, 0] rfl ?_
      exact t_X12_readWell_66 C hlk hr  _ _ _ _ _ _ h
  · replace h := h.1 z4
    exact g_vret (pc := 10) C hlk hr (Nat.le_refl _) (Nat.le_refl _) dX12_readWell_10 h
end ME
