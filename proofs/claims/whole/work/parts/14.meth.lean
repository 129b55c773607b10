/-! methods: X12_stays, X12_stillest, X12_thrown, X12_thunder, X12_together, X12_tray, X12_undo, X12_wakers, X12_wakes, X12_wakesIn, X12_water, X12_waterIn, X12_well, X12_whose, X12_withAwake, X12_write, X12_yawns, X12_year, X1_addHouse, X1_addWell, X1_allWells, X1_besideOf, X1_deepOf, X1_roundOf -/
section ME
variable {x : xG} {p : Program} {l : Launch} {e : Env} {R : Room} {s : State} {m : MethodId} {args : Array Value} {below : List Frame} {meth : Method} {c : Code} {Q : State → Prop} {cc : ByteArray} {nL : Nat} {pc : Nat} {lo : List (Nat × Value)} {st : List Value} {w : Wd} {i j : Nat}
def w_X12_stays (a0 : Nat) (a1 : Int32) (K : Int32 → Wd → Prop) (w : Wd) : Prop :=
  isK w a0 12 ∧ w_X12_isWell a0 a1.toInt64 (fun r2 w3 => ((r2 = 0 → isK w3 a0 12 ∧ w_X12_fails a0 1 (fun r24 w25 => K r24 w25) w3) ∧ (¬ r2 = 0 → isK w3 a0 12 ∧ isK w3 (wR w3 a0 0) 20 ∧ vp_in (37 + a1) (wn w3 (wR w3 a0 0)) ∧ vp_in (27 + a1) (wn w3 (wR w3 a0 0)) ∧ (((wI w3 (wR w3 a0 0) (37 + a1).toNatClampNeg) = (wI w3 (wR w3 a0 0) (27 + a1).toNatClampNeg) → K (-1) w3) ∧ (¬ (wI w3 (wR w3 a0 0) (37 + a1).toNatClampNeg) = (wI w3 (wR w3 a0 0) (27 + a1).toNatClampNeg) → w_X12_isUp a0 a1 (fun r10 w11 => ((r10 = 0 → isK w11 a0 12 ∧ isK w11 (wR w11 a0 0) 20 ∧ vp_in (27 + a1) (wn w11 (wR w11 a0 0)) ∧ w_X12_phaseIn a0 a1 0 (fun r16 w17 => K ((wI w11 (wR w11 a0 0) (27 + a1).toNatClampNeg) - r16) w17) w11) ∧ (¬ r10 = 0 → isK w11 a0 12 ∧ isK w11 (wR w11 a0 0) 20 ∧ vp_in (37 + a1) (wn w11 (wR w11 a0 0)) ∧ w_X12_phaseIn a0 a1 0 (fun r21 w22 => K ((wI w11 (wR w11 a0 0) (37 + a1).toNatClampNeg) - r21) w22) w11))) w3))))) (uI w a0 4 0)
theorem c_X12_stays {x : xG} {l : Launch} {a0 : Nat} {a1 : Int32} {K : Int32 → Wd → Prop} {w : Wd} (h : w_X12_stays a0 a1 K w) : Met l yX12_stays (xws yX12_stays cX12_stays 2 (some .int)) (rmd 3 0 0) (xPc x [.ref (adr x a0), .int a1] w) (QcI x K) 0 0 (xA x) := by
  refine xMet (by decide) (Nat.le_of_ble_eq_true rfl) (fun p e s m below meth c C hlk hr _ => ?_)
  show GW x p l e (rmd 3 0 0) s m [.ref (adr x a0), .int a1].toArray below meth c 2 (QI x K below [.ref (adr x a0), .int a1].toArray s 0 0) 0 [(0, .ref (adr x a0)), (1, .int a1)] [] w 0 0
  refine g_aload_n (pc := 0) C dX12_stays_0 (q := 0) rfl ?_
  refine g_iconst (pc := 1) C dX12_stays_1 (v := 0) rfl ?_
  obtain ⟨k1, h⟩ := h
  refine pfX12_58 (pc := 2) C k1 dX12_stays_2 ?_
  refine g_aload_n (pc := 5) C dX12_stays_5 (q := 0) rfl ?_
  refine g_iload_n (pc := 6) C dX12_stays_6 (q := 1) rfl ?_
  refine g_i2l (pc := 7) C dX12_stays_7 ?_
  refine miX12_302 (pc := 8) (w := uI w a0 4 0) C k1 h (Nat.le_of_ble_eq_true rfl) (Nat.le_of_ble_eq_true rfl) ⟨Nat.le_refl _, Nat.le_refl _⟩ dX12_stays_8 (fun r2 w3 h => ?_)
  refine g_if_ne (pc := 11) C dX12_stays_11 (tgt := 20) rfl (fun z4 => ?_) (fun z4 => ?_)
  · replace h := h.2 z4
    refine g_aload_n (pc := 20) C dX12_stays_20 (q := 0) rfl ?_
    obtain ⟨k5, h⟩ := h
    obtain ⟨k6, h⟩ := h
    refine gfX12_9 (pc := 21) C k5 (isK_ne k6) dX12_stays_21 ?_
    refine g_bipush (pc := 24) C dX12_stays_24 (v := 37) rfl ?_
    refine g_iload_n (pc := 26) C dX12_stays_26 (q := 1) rfl ?_
    refine g_iadd (pc := 27) C dX12_stays_27 ?_
    obtain ⟨k7, h⟩ := h
    refine g_iald (pc := 28) C k6 k7 dX12_stays_28 ?_
    refine g_aload_n (pc := 29) C dX12_stays_29 (q := 0) rfl ?_
    refine gfX12_9 (pc := 30) C k5 (isK_ne k6) dX12_stays_30 ?_
    refine g_bipush (pc := 33) C dX12_stays_33 (v := 27) rfl ?_
    refine g_iload_n (pc := 35) C dX12_stays_35 (q := 1) rfl ?_
    refine g_iadd (pc := 36) C dX12_stays_36 ?_
    obtain ⟨k8, h⟩ := h
    refine g_iald (pc := 37) C k6 k8 dX12_stays_37 ?_
    refine g_icmp_ne (pc := 38) C dX12_stays_38 (tgt := 43) rfl (fun z9 => ?_) (fun z9 => ?_)
    · replace h := h.2 z9
      refine g_aload_n (pc := 43) C dX12_stays_43 (q := 0) rfl ?_
      refine g_iload_n (pc := 44) C dX12_stays_44 (q := 1) rfl ?_
      refine miX12_271 (pc := 45) C k5 h (Nat.le_of_ble_eq_true rfl) (Nat.le_of_ble_eq_true rfl) ⟨Nat.le_refl _, Nat.le_refl _⟩ dX12_stays_45 (fun r10 w11 h => ?_)
      refine g_if_eq (pc := 48) C dX12_stays_48 (tgt := 63) rfl (fun z12 => ?_) (fun z12 => ?_)
      · replace h := h.1 z12
        refine g_aload_n (pc := 63) C dX12_stays_63 (q := 0) rfl ?_
        obtain ⟨k13, h⟩ := h
        obtain ⟨k14, h⟩ := h
        refine gfX12_9 (pc := 64) C k13 (isK_ne k14) dX12_stays_64 ?_
        refine g_bipush (pc := 67) C dX12_stays_67 (v := 27) rfl ?_
        refine g_iload_n (pc := 69) C dX12_stays_69 (q := 1) rfl ?_
        refine g_iadd (pc := 70) C dX12_stays_70 ?_
        obtain ⟨k15, h⟩ := h
        refine g_iald (pc := 71) C k14 k15 dX12_stays_71 ?_
        refine g_aload_n (pc := 72) C dX12_stays_72 (q := 0) rfl ?_
        refine g_iload_n (pc := 73) C dX12_stays_73 (q := 1) rfl ?_
        refine g_iconst (pc := 74) C dX12_stays_74 (v := 0) rfl ?_
        refine miX12_242 (pc := 75) C k13 h (Nat.le_of_ble_eq_true rfl) (Nat.le_of_ble_eq_true rfl) ⟨Nat.le_refl _, Nat.le_refl _⟩ dX12_stays_75 (fun r16 w17 h => ?_)
        refine g_isub (pc := 78) C dX12_stays_78 ?_
        exact g_iret (pc := 79) C hlk hr (Nat.le_refl _) (Nat.le_refl _) dX12_stays_79 h
      · replace h := h.2 z12
        refine g_aload_n (pc := 51) C dX12_stays_51 (q := 0) rfl ?_
        obtain ⟨k18, h⟩ := h
        obtain ⟨k19, h⟩ := h
        refine gfX12_9 (pc := 52) C k18 (isK_ne k19) dX12_stays_52 ?_
        refine g_bipush (pc := 55) C dX12_stays_55 (v := 37) rfl ?_
        refine g_iload_n (pc := 57) C dX12_stays_57 (q := 1) rfl ?_
        refine g_iadd (pc := 58) C dX12_stays_58 ?_
        obtain ⟨k20, h⟩ := h
        refine g_iald (pc := 59) C k19 k20 dX12_stays_59 ?_
        refine g_goto (pc := 60) C dX12_stays_60 (tgt := 72) rfl ?_
        refine g_aload_n (pc := 72) C dX12_stays_72 (q := 0) rfl ?_
        refine g_iload_n (pc := 73) C dX12_stays_73 (q := 1) rfl ?_
        refine g_iconst (pc := 74) C dX12_stays_74 (v := 0) rfl ?_
        refine miX12_242 (pc := 75) C k18 h (Nat.le_of_ble_eq_true rfl) (Nat.le_of_ble_eq_true rfl) ⟨Nat.le_refl _, Nat.le_refl _⟩ dX12_stays_75 (fun r21 w22 h => ?_)
        refine g_isub (pc := 78) C dX12_stays_78 ?_
        exact g_iret (pc := 79) C hlk hr (Nat.le_refl _) (Nat.le_refl _) dX12_stays_79 h
    · replace h := h.1 z9
      refine g_iconst (pc := 41) C dX12_stays_41 (v := (-1)) rfl ?_
      exact g_iret (pc := 42) C hlk hr (Nat.le_refl _) (Nat.le_refl _) dX12_stays_42 h
  · replace h := h.1 z4
    refine g_aload_n (pc := 14) C dX12_stays_14 (q := 0) rfl ?_
    refine g_iconst (pc := 15) C dX12_stays_15 (v := 1) rfl ?_
    obtain ⟨k23, h⟩ := h
    refine miX12_230 (pc := 16) C k23 h (Nat.le_of_ble_eq_true rfl) (Nat.le_of_ble_eq_true rfl) ⟨Nat.le_refl _, Nat.le_refl _⟩ dX12_stays_16 (fun r24 w25 h => ?_)
    exact g_iret (pc := 19) C hlk hr (Nat.le_refl _) (Nat.le_refl _) dX12_stays_19 h
def l_X12_stillest_31  (K : Int32 → Wd → Prop) : Nat → Nat → Int32 → Int32 → Int32 → Int32 → Wd → Prop
  | 0, _, _, _, _, _, _ => False
  | n + 1, a0, a1, a2, a3, a4, w => ((a2 ≤ a4 → ((a1 = 0 → K a3 w) ∧ (¬ a1 = 0 → isK w a0 12 ∧ w_X12_upIn a0 a3 (fun r11 w12 => w_X12_size r11 (fun r13 w14 => K r13 w14) w12) w))) ∧ (¬ a2 ≤ a4 → isK w a0 12 ∧ w_X12_upIn a0 a4 (fun r16 w17 => w_X12_size r16 (fun r18 w19 => isK w19 a0 12 ∧ w_X12_upIn a0 a3 (fun r21 w22 => w_X12_size r21 (fun r23 w24 => ((r23 ≤ r18 → l_X12_stillest_31 K n a0 a1 a2 a3 (a4 + 1) w24) ∧ (¬ r23 ≤ r18 → l_X12_stillest_31 K n a0 a1 a2 a4 (a4 + 1) w24))) w22) w19) w17) w))
def w_X12_stillest (a0 : Nat) (a1 : Int32) (K : Int32 → Wd → Prop) (w : Wd) : Prop :=
  isK w a0 12 ∧ w_X12_within a1.toInt64 0 1 (fun r2 w3 => ((r2 = 0 → isK w3 a0 12 ∧ w_X12_fails a0 1 (fun r28 w29 => K r28 w29) w3) ∧ (¬ r2 = 0 → isK w3 a0 12 ∧ w_X12_jointOf a0 (fun r6 w7 => ∃ n26, l_X12_stillest_31  K n26 a0 a1 r6 0 1 w7) w3))) (uI w a0 4 0)
theorem t_X12_stillest_31 (C : xC x p s m c cX12_stillest 5 args RX12) (hlk : meth.locks = false) (hr : meth.sig.returnType = some .int) {K : Int32 → Wd → Prop}   : ∀ (n : Nat) (a0 : Nat) (a1 : Int32) (a2 : Int32) (a3 : Int32) (a4 : Int32) (w : Wd), l_X12_stillest_31 K n a0 a1 a2 a3 a4 w → GW x p l e (rmd 102 0 0) s m args below meth c 5 (QI x K below args s 0 0) 31 [(0, .ref (adr x a0)), (1, .int a1), (2, .int a2), (3, .int a3), (4, .int a4)] [] w 0 0 := by
  intro n
  induction n with
  | zero => intro _ _ _ _ _ _ h; exact False.elim h
  | succ n ih =>
    intro a0 a1 a2 a3 a4 w h
    refine g_iload (pc := 31) C dX12_stillest_31 (q := 4) rfl ?_
    refine g_iload_n (pc := 33) C dX12_stillest_33 (q := 2) rfl ?_
    refine g_icmp_ge (pc := 34) C dX12_stillest_34 (tgt := 66) rfl (fun z8 => ?_) (fun z8 => ?_)
    · replace h := h.1 z8
      refine g_iload_n (pc := 66) C dX12_stillest_66 (q := 1) rfl ?_
      refine g_if_ne (pc := 67) C dX12_stillest_67 (tgt := 74) rfl (fun z9 => ?_) (fun z9 => ?_)
      · replace h := h.2 z9
        refine g_aload_n (pc := 74) C dX12_stillest_74 (q := 0) rfl ?_
        refine g_iload_n (pc := 75) C dX12_stillest_75 (q := 3) rfl ?_
        obtain ⟨k10, h⟩ := h
        refine miX12_294 (pc := 76) C k10 h (Nat.le_of_ble_eq_true rfl) (Nat.le_of_ble_eq_true rfl) ⟨Nat.le_refl _, Nat.le_refl _⟩ dX12_stillest_76 (fun r11 w12 h => ?_)
        refine miX12_265 (pc := 79) C h (Nat.le_of_ble_eq_true rfl) (Nat.le_of_ble_eq_true rfl) ⟨Nat.le_refl _, Nat.le_refl _⟩ dX12_stillest_79 (fun r13 w14 h => ?_)
        exact g_iret (pc := 82) C hlk hr (Nat.le_refl _) (Nat.le_refl _) dX12_stillest_82 h
      · replace h := h.1 z9
        refine g_iload_n (pc := 70) C dX12_stillest_70 (q := 3) rfl ?_
        refine g_goto (pc := 71) C dX12_stillest_71 (tgt := 82) rfl ?_
        exact g_iret (pc := 82) C hlk hr (Nat.le_refl _) (Nat.le_refl _) dX12_stillest_82 h
    · replace h := h.2 z8
      refine g_aload_n (pc := 37) C dX12_stillest_37 (q := 0) rfl ?_
      refine g_iload (pc := 38) C dX12_stillest_38 (q := 4) rfl ?_
      obtain ⟨k15, h⟩ := h
      refine miX12_294 (pc := 40) C k15 h (Nat.le_of_ble_eq_true rfl) (Nat.le_of_ble_eq_true rfl) ⟨Nat.le_refl _, Nat.le_refl _⟩ dX12_stillest_40 (fun r16 w17 h => ?_)
      refine miX12_265 (pc := 43) C h (Nat.le_of_ble_eq_true rfl) (Nat.le_of_ble_eq_true rfl) ⟨Nat.le_refl _, Nat.le_refl _⟩ dX12_stillest_43 (fun r18 w19 h => ?_)
      refine g_aload_n (pc := 46) C dX12_stillest_46 (q := 0) rfl ?_
      refine g_iload_n (pc := 47) C dX12_stillest_47 (q := 3) rfl ?_
      obtain ⟨k20, h⟩ := h
      refine miX12_294 (pc := 48) C k20 h (Nat.le_of_ble_eq_true rfl) (Nat.le_of_ble_eq_true rfl) ⟨Nat.le_refl _, Nat.le_refl _⟩ dX12_stillest_48 (fun r21 w22 h => ?_)
      refine miX12_265 (pc := 51) C h (Nat.le_of_ble_eq_true rfl) (Nat.le_of_ble_eq_true rfl) ⟨Nat.le_refl _, Nat.le_refl _⟩ dX12_stillest_51 (fun r23 w24 h => ?_)
      refine g_icmp_ge (pc := 54) C dX12_stillest_54 (tgt := 60) rfl (fun z25 => ?_) (fun z25 => ?_)
      · replace h := h.1 z25
        refine g_iinc (pc := 60) C dX12_stillest_60 (q := 4) rfl (v2 := a4 + 1) rfl (Nat.le_of_ble_eq_true rfl) (lo' := [(4, .int (a4 + 1)), (0, .ref (adr x a0)), (1, .int a1), (2, .int a2), (3, .int a3)]) rfl ?_
        refine g_goto (pc := 63) C dX12_stillest_63 (tgt := 31) rfl ?_
        refine g_sub [1, 2, 3, 4, 0] rfl ?_
        exact ih _ _ _ _ _ _ h
      · replace h := h.2 z25
        refine g_iload (pc := 57) C dX12_stillest_57 (q := 4) rfl ?_
        refine g_istore_n (pc := 59) C dX12_stillest_59 (Nat.le_of_ble_eq_true rfl) (lo' := [(3, .int a4), (0, .ref (adr x a0)), (1, .int a1), (2, .int a2), (4, .int a4)]) rfl ?_
        refine g_iinc (pc := 60) C dX12_stillest_60 (q := 4) rfl (v2 := a4 + 1) rfl (Nat.le_of_ble_eq_true rfl) (lo' := [(4, .int (a4 + 1)), (3, .int a4), (0, .ref (adr x a0)), (1, .int a1), (2, .int a2)]) rfl ?_
        refine g_goto (pc := 63) C dX12_stillest_63 (tgt := 31) rfl ?_
        refine g_sub [2, 3, 4, 1, 0] rfl ?_
        exact ih _ _ _ _ _ _ h
theorem c_X12_stillest {x : xG} {l : Launch} {a0 : Nat} {a1 : Int32} {K : Int32 → Wd → Prop} {w : Wd} (h : w_X12_stillest a0 a1 K w) : Met l yX12_stillest (xws yX12_stillest cX12_stillest 5 (some .int)) (rmd 102 0 0) (xPc x [.ref (adr x a0), .int a1] w) (QcI x K) 0 0 (xA x) := by
  refine xMet (by decide) (Nat.le_of_ble_eq_true rfl) (fun p e s m below meth c C hlk hr _ => ?_)
  show GW x p l e (rmd 102 0 0) s m [.ref (adr x a0), .int a1].toArray below meth c 5 (QI x K below [.ref (adr x a0), .int a1].toArray s 0 0) 0 [(0, .ref (adr x a0)), (1, .int a1)] [] w 0 0
  refine g_aload_n (pc := 0) C dX12_stillest_0 (q := 0) rfl ?_
  refine g_iconst (pc := 1) C dX12_stillest_1 (v := 0) rfl ?_
  obtain ⟨k1, h⟩ := h
  refine pfX12_58 (pc := 2) C k1 dX12_stillest_2 ?_
  refine g_iload_n (pc := 5) C dX12_stillest_5 (q := 1) rfl ?_
  refine g_i2l (pc := 6) C dX12_stillest_6 ?_
  refine g_lconst (pc := 7) C dX12_stillest_7 (v := 0) rfl ?_
  refine g_lconst (pc := 8) C dX12_stillest_8 (v := 1) rfl ?_
  refine miX12_119 (pc := 9) (w := uI w a0 4 0) C h (Nat.le_of_ble_eq_true rfl) (Nat.le_of_ble_eq_true rfl) ⟨Nat.le_refl _, Nat.le_refl _⟩ dX12_stillest_9 (fun r2 w3 h => ?_)
  refine g_if_ne (pc := 12) C dX12_stillest_12 (tgt := 21) rfl (fun z4 => ?_) (fun z4 => ?_)
  · replace h := h.2 z4
    refine g_aload_n (pc := 21) C dX12_stillest_21 (q := 0) rfl ?_
    obtain ⟨k5, h⟩ := h
    refine miX12_399 (pc := 22) C k5 h (Nat.le_of_ble_eq_true rfl) (Nat.le_of_ble_eq_true rfl) ⟨Nat.le_refl _, Nat.le_refl _⟩ dX12_stillest_22 (fun r6 w7 h => ?_)
    refine g_istore_n (pc := 25) C dX12_stillest_25 (Nat.le_of_ble_eq_true rfl) (lo' := [(2, .int r6), (0, .ref (adr x a0)), (1, .int a1)]) rfl ?_
    refine g_iconst (pc := 26) C dX12_stillest_26 (v := 0) rfl ?_
    refine g_istore_n (pc := 27) C dX12_stillest_27 (Nat.le_of_ble_eq_true rfl) (lo' := [(3, .int 0), (2, .int r6), (0, .ref (adr x a0)), (1, .int a1)]) rfl ?_
    refine g_iconst (pc := 28) C dX12_stillest_28 (v := 1) rfl ?_
    refine g_istore (pc := 29) C dX12_stillest_29 (Nat.le_of_ble_eq_true rfl) (lo' := [(4, .int 1), (3, .int 0), (2, .int r6), (0, .ref (adr x a0)), (1, .int a1)]) rfl ?_
    obtain ⟨n26, h⟩ := h
    refine g_sub [3, 4, 2, 1, 0] rfl ?_
    refine t_X12_stillest_31 C hlk hr n26 _ _ _ _ _ _ h
  · replace h := h.1 z4
    refine g_aload_n (pc := 15) C dX12_stillest_15 (q := 0) rfl ?_
    refine g_iconst (pc := 16) C dX12_stillest_16 (v := 1) rfl ?_
    obtain ⟨k27, h⟩ := h
    refine miX12_230 (pc := 17) C k27 h (Nat.le_of_ble_eq_true rfl) (Nat.le_of_ble_eq_true rfl) ⟨Nat.le_refl _, Nat.le_refl _⟩ dX12_stillest_17 (fun r28 w29 h => ?_)
    exact g_iret (pc := 20) C hlk hr (Nat.le_refl _) (Nat.le_refl _) dX12_stillest_20 h
def w_X12_thrown (a0 : Nat) (K : Int32 → Wd → Prop) (w : Wd) : Prop :=
  isK w a0 12 ∧ K (wI w a0 4) w
theorem c_X12_thrown {x : xG} {l : Launch} {a0 : Nat} {K : Int32 → Wd → Prop} {w : Wd} (h : w_X12_thrown a0 K w) : Met l yX12_thrown (xws yX12_thrown cX12_thrown 1 (some .int)) (rmd 0 0 0) (xPc x [.ref (adr x a0)] w) (QcI x K) 0 0 (xA x) := by
  refine xMet (by decide) (Nat.le_of_ble_eq_true rfl) (fun p e s m below meth c C hlk hr _ => ?_)
  show GW x p l e (rmd 0 0 0) s m [.ref (adr x a0)].toArray below meth c 1 (QI x K below [.ref (adr x a0)].toArray s 0 0) 0 [(0, .ref (adr x a0))] [] w 0 0
  refine g_aload_n (pc := 0) C dX12_thrown_0 (q := 0) rfl ?_
  obtain ⟨k1, h⟩ := h
  refine gfX12_58 (pc := 1) C k1 dX12_thrown_1 ?_
  exact g_iret (pc := 4) C hlk hr (Nat.le_refl _) (Nat.le_refl _) dX12_thrown_4 h
def w_X12_thunder (a0 : Nat) (K : Int32 → Wd → Prop) (w : Wd) : Prop :=
  isK w a0 12 ∧ w_X12_keeps a0 (fun w2 => isK w2 a0 12 ∧ w_X12_thunders a0 (fun r4 w5 => K r4 w5) w2) (uI w a0 4 0)
theorem c_X12_thunder {x : xG} {l : Launch} {a0 : Nat} {K : Int32 → Wd → Prop} {w : Wd} (h : w_X12_thunder a0 K w) : Met l yX12_thunder (xws yX12_thunder cX12_thunder 1 (some .int)) (rmd 4 0 0) (xPc x [.ref (adr x a0)] w) (QcI x K) 0 0 (xA x) := by
  refine xMet (by decide) (Nat.le_of_ble_eq_true rfl) (fun p e s m below meth c C hlk hr _ => ?_)
  show GW x p l e (rmd 4 0 0) s m [.ref (adr x a0)].toArray below meth c 1 (QI x K below [.ref (adr x a0)].toArray s 0 0) 0 [(0, .ref (adr x a0))] [] w 0 0
  refine g_aload_n (pc := 0) C dX12_thunder_0 (q := 0) rfl ?_
  refine g_iconst (pc := 1) C dX12_thunder_1 (v := 0) rfl ?_
  obtain ⟨k1, h⟩ := h
  refine pfX12_58 (pc := 2) C k1 dX12_thunder_2 ?_
  refine g_aload_n (pc := 5) C dX12_thunder_5 (q := 0) rfl ?_
  refine miX12_329 (pc := 6) (w := uI w a0 4 0) C k1 h (Nat.le_of_ble_eq_true rfl) (Nat.le_of_ble_eq_true rfl) ⟨Nat.le_refl _, Nat.le_refl _⟩ dX12_thunder_6 (fun w2 h => ?_)
  refine g_aload_n (pc := 9) C dX12_thunder_9 (q := 0) rfl ?_
  obtain ⟨k3, h⟩ := h
  refine miX12_344 (pc := 10) C k3 h (Nat.le_of_ble_eq_true rfl) (Nat.le_of_ble_eq_true rfl) ⟨Nat.le_refl _, Nat.le_refl _⟩ dX12_thunder_10 (fun r4 w5 h => ?_)
  exact g_iret (pc := 13) C hlk hr (Nat.le_refl _) (Nat.le_refl _) dX12_thunder_13 h
def l_X12_together_30  (K : Int32 → Wd → Prop) : Nat → Nat → Int32 → Int32 → Int32 → Int32 → Wd → Prop
  | 0, _, _, _, _, _, _ => False
  | n + 1, a0, a1, a2, a3, a4, w => ((a3 ≤ a4 → K (-1) w) ∧ (¬ a3 ≤ a4 → isK w a0 12 ∧ w_X12_upIn a0 a4 (fun r10 w11 => ((a2 = 0 → (((r10 &&& a1) = 0 → K a4 w11) ∧ (¬ (r10 &&& a1) = 0 → l_X12_together_30 K n a0 a1 a2 a3 (a4 + 1) w11))) ∧ (¬ a2 = 0 → (((r10 &&& a1) = a1 → K a4 w11) ∧ (¬ (r10 &&& a1) = a1 → l_X12_together_30 K n a0 a1 a2 a3 (a4 + 1) w11))))) w))
def w_X12_together (a0 : Nat) (a1 : Int32) (a2 : Int32) (K : Int32 → Wd → Prop) (w : Wd) : Prop :=
  isK w a0 12 ∧ w_X12_allWells a0 (fun r2 w3 => (((a1 &&& (r2 ^^^ (-1))) = 0 → isK w3 a0 12 ∧ w_X12_jointOf a0 (fun r6 w7 => ∃ n15, l_X12_together_30  K n15 a0 a1 a2 r6 0 w7) w3) ∧ (¬ (a1 &&& (r2 ^^^ (-1))) = 0 → isK w3 a0 12 ∧ w_X12_fails a0 1 (fun r17 w18 => K r17 w18) w3))) (uI w a0 4 0)
theorem t_X12_together_30 (C : xC x p s m c cX12_together 5 args RX12) (hlk : meth.locks = false) (hr : meth.sig.returnType = some .int) {K : Int32 → Wd → Prop}   : ∀ (n : Nat) (a0 : Nat) (a1 : Int32) (a2 : Int32) (a3 : Int32) (a4 : Int32) (w : Wd), l_X12_together_30 K n a0 a1 a2 a3 a4 w → GW x p l e (rmd 102 0 0) s m args below meth c 5 (QI x K below args s 0 0) 30 [(0, .ref (adr x a0)), (1, .int a1), (2, .int a2), (3, .int a3), (4, .int a4)] [] w 0 0 := by
  intro n
  induction n with
  | zero => intro _ _ _ _ _ _ h; exact False.elim h
  | succ n ih =>
    intro a0 a1 a2 a3 a4 w h
    refine g_iload (pc := 30) C dX12_together_30 (q := 4) rfl ?_
    refine g_iload_n (pc := 32) C dX12_together_32 (q := 3) rfl ?_
    refine g_icmp_ge (pc := 33) C dX12_together_33 (tgt := 65) rfl (fun z8 => ?_) (fun z8 => ?_)
    · replace h := h.1 z8
      refine g_iconst (pc := 65) C dX12_together_65 (v := (-1)) rfl ?_
      exact g_iret (pc := 66) C hlk hr (Nat.le_refl _) (Nat.le_refl _) dX12_together_66 h
    · replace h := h.2 z8
      refine g_aload_n (pc := 36) C dX12_together_36 (q := 0) rfl ?_
      refine g_iload (pc := 37) C dX12_together_37 (q := 4) rfl ?_
      obtain ⟨k9, h⟩ := h
      refine miX12_294 (pc := 39) C k9 h (Nat.le_of_ble_eq_true rfl) (Nat.le_of_ble_eq_true rfl) ⟨Nat.le_refl _, Nat.le_refl _⟩ dX12_together_39 (fun r10 w11 h => ?_)
      refine g_iload_n (pc := 42) C dX12_together_42 (q := 1) rfl ?_
      refine g_iand (pc := 43) C dX12_together_43 ?_
      refine g_iload_n (pc := 44) C dX12_together_44 (q := 2) rfl ?_
      refine g_if_eq (pc := 45) C dX12_together_45 (tgt := 52) rfl (fun z12 => ?_) (fun z12 => ?_)
      · replace h := h.1 z12
        refine g_iconst (pc := 52) C dX12_together_52 (v := 0) rfl ?_
        refine g_icmp_ne (pc := 53) C dX12_together_53 (tgt := 59) rfl (fun z13 => ?_) (fun z13 => ?_)
        · replace h := h.2 z13
          refine g_iinc (pc := 59) C dX12_together_59 (q := 4) rfl (v2 := a4 + 1) rfl (Nat.le_of_ble_eq_true rfl) (lo' := [(4, .int (a4 + 1)), (0, .ref (adr x a0)), (1, .int a1), (2, .int a2), (3, .int a3)]) rfl ?_
          refine g_goto (pc := 62) C dX12_together_62 (tgt := 30) rfl ?_
          refine g_sub [1, 2, 3, 4, 0] rfl ?_
          exact ih _ _ _ _ _ _ h
        · replace h := h.1 z13
          refine g_iload (pc := 56) C dX12_together_56 (q := 4) rfl ?_
          exact g_iret (pc := 58) C hlk hr (Nat.le_refl _) (Nat.le_refl _) dX12_together_58 h
      · replace h := h.2 z12
        refine g_iload_n (pc := 48) C dX12_together_48 (q := 1) rfl ?_
        refine g_goto (pc := 49) C dX12_together_49 (tgt := 53) rfl ?_
        refine g_icmp_ne (pc := 53) C dX12_together_53 (tgt := 59) rfl (fun z14 => ?_) (fun z14 => ?_)
        · replace h := h.2 z14
          refine g_iinc (pc := 59) C dX12_together_59 (q := 4) rfl (v2 := a4 + 1) rfl (Nat.le_of_ble_eq_true rfl) (lo' := [(4, .int (a4 + 1)), (0, .ref (adr x a0)), (1, .int a1), (2, .int a2), (3, .int a3)]) rfl ?_
          refine g_goto (pc := 62) C dX12_together_62 (tgt := 30) rfl ?_
          refine g_sub [1, 2, 3, 4, 0] rfl ?_
          exact ih _ _ _ _ _ _ h
        · replace h := h.1 z14
          refine g_iload (pc := 56) C dX12_together_56 (q := 4) rfl ?_
          exact g_iret (pc := 58) C hlk hr (Nat.le_refl _) (Nat.le_refl _) dX12_together_58 h
theorem c_X12_together {x : xG} {l : Launch} {a0 : Nat} {a1 : Int32} {a2 : Int32} {K : Int32 → Wd → Prop} {w : Wd} (h : w_X12_together a0 a1 a2 K w) : Met l yX12_together (xws yX12_together cX12_together 5 (some .int)) (rmd 102 0 0) (xPc x [.ref (adr x a0), .int a1, .int a2] w) (QcI x K) 0 0 (xA x) := by
  refine xMet (by decide) (Nat.le_of_ble_eq_true rfl) (fun p e s m below meth c C hlk hr _ => ?_)
  show GW x p l e (rmd 102 0 0) s m [.ref (adr x a0), .int a1, .int a2].toArray below meth c 5 (QI x K below [.ref (adr x a0), .int a1, .int a2].toArray s 0 0) 0 [(0, .ref (adr x a0)), (1, .int a1), (2, .int a2)] [] w 0 0
  refine g_aload_n (pc := 0) C dX12_together_0 (q := 0) rfl ?_
  refine g_iconst (pc := 1) C dX12_together_1 (v := 0) rfl ?_
  obtain ⟨k1, h⟩ := h
  refine pfX12_58 (pc := 2) C k1 dX12_together_2 ?_
  refine g_iload_n (pc := 5) C dX12_together_5 (q := 1) rfl ?_
  refine g_aload_n (pc := 6) C dX12_together_6 (q := 0) rfl ?_
  refine miX12_322 (pc := 7) (w := uI w a0 4 0) C k1 h (Nat.le_of_ble_eq_true rfl) (Nat.le_of_ble_eq_true rfl) ⟨Nat.le_refl _, Nat.le_refl _⟩ dX12_together_7 (fun r2 w3 h => ?_)
  refine g_iconst (pc := 10) C dX12_together_10 (v := (-1)) rfl ?_
  refine g_ixor (pc := 11) C dX12_together_11 ?_
  refine g_iand (pc := 12) C dX12_together_12 ?_
  refine g_if_eq (pc := 13) C dX12_together_13 (tgt := 22) rfl (fun z4 => ?_) (fun z4 => ?_)
  · replace h := h.1 z4
    refine g_aload_n (pc := 22) C dX12_together_22 (q := 0) rfl ?_
    obtain ⟨k5, h⟩ := h
    refine miX12_399 (pc := 23) C k5 h (Nat.le_of_ble_eq_true rfl) (Nat.le_of_ble_eq_true rfl) ⟨Nat.le_refl _, Nat.le_refl _⟩ dX12_together_23 (fun r6 w7 h => ?_)
    refine g_istore_n (pc := 26) C dX12_together_26 (Nat.le_of_ble_eq_true rfl) (lo' := [(3, .int r6), (0, .ref (adr x a0)), (1, .int a1), (2, .int a2)]) rfl ?_
    refine g_iconst (pc := 27) C dX12_together_27 (v := 0) rfl ?_
    refine g_istore (pc := 28) C dX12_together_28 (Nat.le_of_ble_eq_true rfl) (lo' := [(4, .int 0), (3, .int r6), (0, .ref (adr x a0)), (1, .int a1), (2, .int a2)]) rfl ?_
    obtain ⟨n15, h⟩ := h
    refine g_sub [2, 3, 4, 1, 0] rfl ?_
    refine t_X12_together_30 C hlk hr n15 _ _ _ _ _ _ h
  · replace h := h.2 z4
    refine g_aload_n (pc := 16) C dX12_together_16 (q := 0) rfl ?_
    refine g_iconst (pc := 17) C dX12_together_17 (v := 1) rfl ?_
    obtain ⟨k16, h⟩ := h
    refine miX12_230 (pc := 18) C k16 h (Nat.le_of_ble_eq_true rfl) (Nat.le_of_ble_eq_true rfl) ⟨Nat.le_refl _, Nat.le_refl _⟩ dX12_together_18 (fun r17 w18 h => ?_)
    exact g_iret (pc := 21) C hlk hr (Nat.le_refl _) (Nat.le_refl _) dX12_together_21 h
def l_X12_tray_69  (K : Wd → Prop) : Nat → Nat → Int32 → Int32 → Wd → Prop
  | 0, _, _, _, _ => False
  | n + 1, a0, a1, a4, w => ((30 ≤ a4 → K w) ∧ (¬ 30 ≤ a4 → isK w a0 12 ∧ isK w (wR w a0 28) 21 ∧ vp_in ((30 * a1) + a4) (wn w (wR w a0 28)) ∧ l_X12_tray_69 K n a0 a1 (a4 + 1) (uL w (wR w a0 28) ((30 * a1) + a4).toNatClampNeg 0)))
def j_X12_tray_41  (K : Wd → Prop) (a0 : Nat) (a1 : Int32) (a2 : Int32) (a3 : Int32) (s0 : Int32) (s1 : Nat) (w : Wd) : Prop :=
  isK w s1 12 ∧ isK w a0 12 ∧ (((wI (uI w s1 4 s0) a0 4) ≤ 0 → isK w (wR w a0 26) 20 ∧ vp_in a1 (wn w (wR w a0 26)) ∧ isK w (wR w a0 27) 20 ∧ vp_in a1 (wn w (wR w a0 27)) ∧ ∃ n18, l_X12_tray_69  K n18 a0 a1 0 (uI (uI (uI w s1 4 s0) (wR w a0 26) a1.toNatClampNeg a2) (wR w a0 27) a1.toNatClampNeg a3)) ∧ (¬ (wI (uI w s1 4 s0) a0 4) ≤ 0 → K (uI w s1 4 s0)))
def w_X12_tray (a0 : Nat) (a1 : Int32) (a2 : Int32) (a3 : Int32) (K : Wd → Prop) (w : Wd) : Prop :=
  w_X12_isTray a1 (fun r1 w2 => ((r1 = 0 → j_X12_tray_41 K a0 a1 a2 a3 1 a0 w2) ∧ (¬ r1 = 0 → w_X12_within a2.toInt64 0 3 (fun r4 w5 => ((r4 = 0 → j_X12_tray_41 K a0 a1 a2 a3 2 a0 w5) ∧ (¬ r4 = 0 → w_X12_within a3.toInt64 0 30 (fun r19 w20 => ((r19 = 0 → j_X12_tray_41 K a0 a1 a2 a3 2 a0 w20) ∧ (¬ r19 = 0 → j_X12_tray_41 K a0 a1 a2 a3 0 a0 w20))) w5))) w2))) w
theorem t_X12_tray_69 (C : xC x p s m c cX12_tray 5 args RX12) (hlk : meth.locks = false) (hr : meth.sig.returnType = none) {K : Wd → Prop}   : ∀ (n : Nat) (a0 : Nat) (a1 : Int32) (a4 : Int32) (w : Wd), l_X12_tray_69 K n a0 a1 a4 w → GW x p l e (rmd 2 0 0) s m args below meth c 5 (QV x K below args s 0 0) 69 [(0, .ref (adr x a0)), (1, .int a1), (4, .int a4)] [] w 0 0 := by
  intro n
  induction n with
  | zero => intro _ _ _ _ h; exact False.elim h
  | succ n ih =>
    intro a0 a1 a4 w h
    refine g_iload (pc := 69) C dX12_tray_69 (q := 2) rfl ?_
    refine g_bipush (pc := 71) C dX12_tray_71 (v := 30) rfl ?_
    refine g_icmp_ge (pc := 73) C dX12_tray_73 (tgt := 95) rfl (fun z14 => ?_) (fun z14 => ?_)
    · replace h := h.1 z14
      exact g_vret (pc := 95) C hlk hr (Nat.le_refl _) (Nat.le_refl _) dX12_tray_95 h
    · replace h := h.2 z14
      refine g_aload_n (pc := 76) C dX12_tray_76 (q := 0) rfl ?_
      obtain ⟨k15, h⟩ := h
      obtain ⟨k16, h⟩ := h
      refine gfX12_55 (pc := 77) C k15 (isK_ne k16) dX12_tray_77 ?_
      refine g_bipush (pc := 80) C dX12_tray_80 (v := 30) rfl ?_
      refine g_iload_n (pc := 82) C dX12_tray_82 (q := 1) rfl ?_
      refine g_imul (pc := 83) C dX12_tray_83 ?_
      refine g_iload (pc := 84) C dX12_tray_84 (q := 2) rfl ?_
      refine g_iadd (pc := 86) C dX12_tray_86 ?_
      refine g_lconst (pc := 87) C dX12_tray_87 (v := 0) rfl ?_
      obtain ⟨k17, h⟩ := h
      refine g_last (pc := 88) C k16 k17 dX12_tray_88 ?_
      refine g_iinc (pc := 89) C dX12_tray_89 (q := 2) rfl (v2 := a4 + 1) rfl (Nat.le_of_ble_eq_true rfl) (lo' := [(4, .int (a4 + 1)), (0, .ref (adr x a0)), (1, .int a1)]) rfl ?_
      refine g_goto (pc := 92) C dX12_tray_92 (tgt := 69) rfl ?_
      refine g_sub [1, 2, 0] rfl ?_
      exact ih _ _ _ _ h
theorem t_X12_tray_41 (C : xC x p s m c cX12_tray 5 args RX12) (hlk : meth.locks = false) (hr : meth.sig.returnType = none) {K : Wd → Prop}   (a0 : Nat) (a1 : Int32) (a2 : Int32) (a3 : Int32) (s0 : Int32) (s1 : Nat) (w : Wd) (h : j_X12_tray_41 K a0 a1 a2 a3 s0 s1 w) : GW x p l e (rmd 2 0 0) s m args below meth c 5 (QV x K below args s 0 0) 41 [(0, .ref (adr x a0)), (1, .int a1), (2, .int a2), (3, .int a3)] [.int s0, .ref (adr x s1)] w 0 0 := by
  obtain ⟨k7, h⟩ := h
  refine pfX12_58 (pc := 41) C k7 dX12_tray_41 ?_
  refine g_aload_n (pc := 44) C dX12_tray_44 (q := 0) rfl ?_
  obtain ⟨k8, h⟩ := h
  refine gfX12_58 (pc := 45) (w := uI w s1 4 s0) C k8 dX12_tray_45 ?_
  refine g_if_le (pc := 48) C dX12_tray_48 (tgt := 52) rfl (fun z9 => ?_) (fun z9 => ?_)
  · replace h := h.1 z9
    refine g_aload_n (pc := 52) C dX12_tray_52 (q := 0) rfl ?_
    obtain ⟨k10, h⟩ := h
    refine gfX12_49 (pc := 53) (w := uI w s1 4 s0) C k8 (isK_ne k10) dX12_tray_53 ?_
    refine g_iload_n (pc := 56) C dX12_tray_56 (q := 1) rfl ?_
    refine g_iload_n (pc := 57) C dX12_tray_57 (q := 2) rfl ?_
    obtain ⟨k11, h⟩ := h
    refine g_iast (pc := 58) (w := uI w s1 4 s0) C k10 k11 dX12_tray_58 ?_
    refine g_aload_n (pc := 59) C dX12_tray_59 (q := 0) rfl ?_
    obtain ⟨k12, h⟩ := h
    refine gfX12_52 (pc := 60) (w := uI (uI w s1 4 s0) (wR w a0 26) a1.toNatClampNeg a2) C k8 (isK_ne k12) dX12_tray_60 ?_
    refine g_iload_n (pc := 63) C dX12_tray_63 (q := 1) rfl ?_
    refine g_iload_n (pc := 64) C dX12_tray_64 (q := 3) rfl ?_
    obtain ⟨k13, h⟩ := h
    refine g_iast (pc := 65) (w := uI (uI w s1 4 s0) (wR w a0 26) a1.toNatClampNeg a2) C k12 k13 dX12_tray_65 ?_
    refine g_iconst (pc := 66) C dX12_tray_66 (v := 0) rfl ?_
    refine g_istore (pc := 67) C dX12_tray_67 (Nat.le_of_ble_eq_true rfl) (lo' := [(4, .int 0), (0, .ref (adr x a0)), (1, .int a1), (2, .int a2), (3, .int a3)]) rfl ?_
    obtain ⟨n18, h⟩ := h
    refine g_sub [1, 2, 0] rfl ?_
    refine t_X12_tray_69 C hlk hr n18 _ _ _ _ h
  · replace h := h.2 z9
    exact g_vret (pc := 51) C hlk hr (Nat.le_refl _) (Nat.le_refl _) dX12_tray_51 h
theorem c_X12_tray {x : xG} {l : Launch} {a0 : Nat} {a1 : Int32} {a2 : Int32} {a3 : Int32} {K : Wd → Prop} {w : Wd} (h : w_X12_tray a0 a1 a2 a3 K w) : Met l yX12_tray (xws yX12_tray cX12_tray 5 none) (rmd 2 0 0) (xPc x [.ref (adr x a0), .int a1, .int a2, .int a3] w) (QcV x K) 0 0 (xA x) := by
  refine xMet (by decide) (Nat.le_of_ble_eq_true rfl) (fun p e s m below meth c C hlk hr _ => ?_)
  show GW x p l e (rmd 2 0 0) s m [.ref (adr x a0), .int a1, .int a2, .int a3].toArray below meth c 5 (QV x K below [.ref (adr x a0), .int a1, .int a2, .int a3].toArray s 0 0) 0 [(0, .ref (adr x a0)), (1, .int a1), (2, .int a2), (3, .int a3)] [] w 0 0
  refine g_aload_n (pc := 0) C dX12_tray_0 (q := 0) rfl ?_
  refine g_iload_n (pc := 1) C dX12_tray_1 (q := 1) rfl ?_
  refine miX12_351 (pc := 2) C h (Nat.le_of_ble_eq_true rfl) (Nat.le_of_ble_eq_true rfl) ⟨Nat.le_refl _, Nat.le_refl _⟩ dX12_tray_2 (fun r1 w2 h => ?_)
  refine g_if_ne (pc := 5) C dX12_tray_5 (tgt := 12) rfl (fun z3 => ?_) (fun z3 => ?_)
  · replace h := h.2 z3
    refine g_iload_n (pc := 12) C dX12_tray_12 (q := 2) rfl ?_
    refine g_i2l (pc := 13) C dX12_tray_13 ?_
    refine g_lconst (pc := 14) C dX12_tray_14 (v := 0) rfl ?_
    refine g_ldc2 (pc := 15) C LCX12_373 dX12_tray_15 ?_
    refine miX12_119 (pc := 18) C h (Nat.le_of_ble_eq_true rfl) (Nat.le_of_ble_eq_true rfl) ⟨Nat.le_refl _, Nat.le_refl _⟩ dX12_tray_18 (fun r4 w5 h => ?_)
    refine g_if_eq (pc := 21) C dX12_tray_21 (tgt := 36) rfl (fun z6 => ?_) (fun z6 => ?_)
    · replace h := h.1 z6
      refine g_iconst (pc := 36) C dX12_tray_36 (v := 2) rfl ?_
      refine g_goto (pc := 37) C dX12_tray_37 (tgt := 41) rfl ?_
      exact t_X12_tray_41 C hlk hr  _ _ _ _ _ _ _ h
    · replace h := h.2 z6
      refine g_iload_n (pc := 24) C dX12_tray_24 (q := 3) rfl ?_
      refine g_i2l (pc := 25) C dX12_tray_25 ?_
      refine g_lconst (pc := 26) C dX12_tray_26 (v := 0) rfl ?_
      refine g_ldc2 (pc := 27) C LCX12_391 dX12_tray_27 ?_
      refine miX12_119 (pc := 30) C h (Nat.le_of_ble_eq_true rfl) (Nat.le_of_ble_eq_true rfl) ⟨Nat.le_refl _, Nat.le_refl _⟩ dX12_tray_30 (fun r19 w20 h => ?_)
      refine g_if_ne (pc := 33) C dX12_tray_33 (tgt := 40) rfl (fun z21 => ?_) (fun z21 => ?_)
      · replace h := h.2 z21
        refine g_iconst (pc := 40) C dX12_tray_40 (v := 0) rfl ?_
        exact t_X12_tray_41 C hlk hr  _ _ _ _ _ _ _ h
      · replace h := h.1 z21
        refine g_iconst (pc := 36) C dX12_tray_36 (v := 2) rfl ?_
        refine g_goto (pc := 37) C dX12_tray_37 (tgt := 41) rfl ?_
        exact t_X12_tray_41 C hlk hr  _ _ _ _ _ _ _ h
  · replace h := h.1 z3
    refine g_iconst (pc := 8) C dX12_tray_8 (v := 1) rfl ?_
    refine g_goto (pc := 9) C dX12_tray_9 (tgt := 41) rfl ?_
    exact t_X12_tray_41 C hlk hr  _ _ _ _ _ _ _ h
def l_X12_undo_45  (K : Int32 → Wd → Prop) : Nat → Nat → Int32 → Wd → Prop
  | 0, _, _, _ => False
  | n + 1, a0, a2, w => ((22 ≤ a2 → isK w a0 12 ∧ isK w (wR w a0 0) 20 ∧ vp_in 4 (wn w (wR w a0 0)) ∧ K (wI w (wR w a0 0) (4 : Int32).toNatClampNeg) w) ∧ (¬ 22 ≤ a2 → isK w a0 12 ∧ isK w (wR w a0 0) 20 ∧ vp_in 4 (wn w (wR w a0 0)) ∧ vp_in ((79 + (22 * (wI w (wR w a0 0) (4 : Int32).toNatClampNeg))) + a2) (wn w (wR w a0 0)) ∧ vp_in (5 + a2) (wn w (wR w a0 0)) ∧ l_X12_undo_45 K n a0 (a2 + 1) (uI w (wR w a0 0) (5 + a2).toNatClampNeg (wI w (wR w a0 0) ((79 + (22 * (wI w (wR w a0 0) (4 : Int32).toNatClampNeg))) + a2).toNatClampNeg))))
def w_X12_undo (a0 : Nat) (a1 : Int32) (K : Int32 → Wd → Prop) (w : Wd) : Prop :=
  isK w a0 12 ∧ w_X12_within a1.toInt64 1 10 (fun r2 w3 => ((r2 = 0 → isK w3 a0 12 ∧ w_X12_fails a0 1 (fun r6 w7 => K r6 w7) w3) ∧ (¬ r2 = 0 → isK w3 a0 12 ∧ isK w3 (wR w3 a0 0) 20 ∧ vp_in 4 (wn w3 (wR w3 a0 0)) ∧ ((a1 ≤ (wI w3 (wR w3 a0 0) (4 : Int32).toNatClampNeg) → vp_in 4 (wn w3 (wR w3 a0 0)) ∧ vp_in 4 (wn w3 (wR w3 a0 0)) ∧ ∃ n23, l_X12_undo_45  K n23 a0 0 (uI w3 (wR w3 a0 0) (4 : Int32).toNatClampNeg ((wI w3 (wR w3 a0 0) (4 : Int32).toNatClampNeg) - a1))) ∧ (¬ a1 ≤ (wI w3 (wR w3 a0 0) (4 : Int32).toNatClampNeg) → w_X12_fails a0 1 (fun r24 w25 => K r24 w25) w3))))) (uI w a0 4 0)
theorem t_X12_undo_45 (C : xC x p s m c cX12_undo 3 args RX12) (hlk : meth.locks = false) (hr : meth.sig.returnType = some .int) {K : Int32 → Wd → Prop}   : ∀ (n : Nat) (a0 : Nat) (a2 : Int32) (w : Wd), l_X12_undo_45 K n a0 a2 w → GW x p l e (rmd 1 0 0) s m args below meth c 3 (QI x K below args s 0 0) 45 [(0, .ref (adr x a0)), (2, .int a2)] [] w 0 0 := by
  intro n
  induction n with
  | zero => intro _ _ _ h; exact False.elim h
  | succ n ih =>
    intro a0 a2 w h
    refine g_iload_n (pc := 45) C dX12_undo_45 (q := 1) rfl ?_
    refine g_bipush (pc := 46) C dX12_undo_46 (v := 22) rfl ?_
    refine g_icmp_ge (pc := 48) C dX12_undo_48 (tgt := 84) rfl (fun z14 => ?_) (fun z14 => ?_)
    · replace h := h.1 z14
      refine g_aload_n (pc := 84) C dX12_undo_84 (q := 0) rfl ?_
      obtain ⟨k15, h⟩ := h
      obtain ⟨k16, h⟩ := h
      refine gfX12_9 (pc := 85) C k15 (isK_ne k16) dX12_undo_85 ?_
      refine g_iconst (pc := 88) C dX12_undo_88 (v := 4) rfl ?_
      obtain ⟨k17, h⟩ := h
      refine g_iald (pc := 89) C k16 k17 dX12_undo_89 ?_
      exact g_iret (pc := 90) C hlk hr (Nat.le_refl _) (Nat.le_refl _) dX12_undo_90 h
    · replace h := h.2 z14
      refine g_aload_n (pc := 51) C dX12_undo_51 (q := 0) rfl ?_
      obtain ⟨k18, h⟩ := h
      obtain ⟨k19, h⟩ := h
      refine gfX12_9 (pc := 52) C k18 (isK_ne k19) dX12_undo_52 ?_
      refine g_iconst (pc := 55) C dX12_undo_55 (v := 5) rfl ?_
      refine g_iload_n (pc := 56) C dX12_undo_56 (q := 1) rfl ?_
      refine g_iadd (pc := 57) C dX12_undo_57 ?_
      refine g_aload_n (pc := 58) C dX12_undo_58 (q := 0) rfl ?_
      refine gfX12_9 (pc := 59) C k18 (isK_ne k19) dX12_undo_59 ?_
      refine g_bipush (pc := 62) C dX12_undo_62 (v := 79) rfl ?_
      refine g_bipush (pc := 64) C dX12_undo_64 (v := 22) rfl ?_
      refine g_aload_n (pc := 66) C dX12_undo_66 (q := 0) rfl ?_
      refine gfX12_9 (pc := 67) C k18 (isK_ne k19) dX12_undo_67 ?_
      refine g_iconst (pc := 70) C dX12_undo_70 (v := 4) rfl ?_
      obtain ⟨k20, h⟩ := h
      refine g_iald (pc := 71) C k19 k20 dX12_undo_71 ?_
      refine g_imul (pc := 72) C dX12_undo_72 ?_
      refine g_iadd (pc := 73) C dX12_undo_73 ?_
      refine g_iload_n (pc := 74) C dX12_undo_74 (q := 1) rfl ?_
      refine g_iadd (pc := 75) C dX12_undo_75 ?_
      obtain ⟨k21, h⟩ := h
      refine g_iald (pc := 76) C k19 k21 dX12_undo_76 ?_
      obtain ⟨k22, h⟩ := h
      refine g_iast (pc := 77) C k19 k22 dX12_undo_77 ?_
      refine g_iinc (pc := 78) C dX12_undo_78 (q := 1) rfl (v2 := a2 + 1) rfl (Nat.le_of_ble_eq_true rfl) (lo' := [(2, .int (a2 + 1)), (0, .ref (adr x a0))]) rfl ?_
      refine g_goto (pc := 81) C dX12_undo_81 (tgt := 45) rfl ?_
      refine g_sub [1, 0] rfl ?_
      exact ih _ _ _ h
theorem c_X12_undo {x : xG} {l : Launch} {a0 : Nat} {a1 : Int32} {K : Int32 → Wd → Prop} {w : Wd} (h : w_X12_undo a0 a1 K w) : Met l yX12_undo (xws yX12_undo cX12_undo 3 (some .int)) (rmd 1 0 0) (xPc x [.ref (adr x a0), .int a1] w) (QcI x K) 0 0 (xA x) := by
  refine xMet (by decide) (Nat.le_of_ble_eq_true rfl) (fun p e s m below meth c C hlk hr _ => ?_)
  show GW x p l e (rmd 1 0 0) s m [.ref (adr x a0), .int a1].toArray below meth c 3 (QI x K below [.ref (adr x a0), .int a1].toArray s 0 0) 0 [(0, .ref (adr x a0)), (1, .int a1)] [] w 0 0
  refine g_aload_n (pc := 0) C dX12_undo_0 (q := 0) rfl ?_
  refine g_iconst (pc := 1) C dX12_undo_1 (v := 0) rfl ?_
  obtain ⟨k1, h⟩ := h
  refine pfX12_58 (pc := 2) C k1 dX12_undo_2 ?_
  refine g_iload_n (pc := 5) C dX12_undo_5 (q := 1) rfl ?_
  refine g_i2l (pc := 6) C dX12_undo_6 ?_
  refine g_lconst (pc := 7) C dX12_undo_7 (v := 1) rfl ?_
  refine g_ldc2 (pc := 8) C LCX12_349 dX12_undo_8 ?_
  refine miX12_119 (pc := 11) (w := uI w a0 4 0) C h (Nat.le_of_ble_eq_true rfl) (Nat.le_of_ble_eq_true rfl) ⟨Nat.le_refl _, Nat.le_refl _⟩ dX12_undo_11 (fun r2 w3 h => ?_)
  refine g_if_eq (pc := 14) C dX12_undo_14 (tgt := 27) rfl (fun z4 => ?_) (fun z4 => ?_)
  · replace h := h.1 z4
    refine g_aload_n (pc := 27) C dX12_undo_27 (q := 0) rfl ?_
    refine g_iconst (pc := 28) C dX12_undo_28 (v := 1) rfl ?_
    obtain ⟨k5, h⟩ := h
    refine miX12_230 (pc := 29) C k5 h (Nat.le_of_ble_eq_true rfl) (Nat.le_of_ble_eq_true rfl) ⟨Nat.le_refl _, Nat.le_refl _⟩ dX12_undo_29 (fun r6 w7 h => ?_)
    exact g_iret (pc := 32) C hlk hr (Nat.le_refl _) (Nat.le_refl _) dX12_undo_32 h
  · replace h := h.2 z4
    refine g_iload_n (pc := 17) C dX12_undo_17 (q := 1) rfl ?_
    refine g_aload_n (pc := 18) C dX12_undo_18 (q := 0) rfl ?_
    obtain ⟨k8, h⟩ := h
    obtain ⟨k9, h⟩ := h
    refine gfX12_9 (pc := 19) C k8 (isK_ne k9) dX12_undo_19 ?_
    refine g_iconst (pc := 22) C dX12_undo_22 (v := 4) rfl ?_
    obtain ⟨k10, h⟩ := h
    refine g_iald (pc := 23) C k9 k10 dX12_undo_23 ?_
    refine g_icmp_le (pc := 24) C dX12_undo_24 (tgt := 33) rfl (fun z11 => ?_) (fun z11 => ?_)
    · replace h := h.1 z11
      refine g_aload_n (pc := 33) C dX12_undo_33 (q := 0) rfl ?_
      refine gfX12_9 (pc := 34) C k8 (isK_ne k9) dX12_undo_34 ?_
      refine g_iconst (pc := 37) C dX12_undo_37 (v := 4) rfl ?_
      refine g_dup2 (pc := 38) C dX12_undo_38 rfl rfl ?_
      obtain ⟨k12, h⟩ := h
      refine g_iald (pc := 39) C k9 k12 dX12_undo_39 ?_
      refine g_iload_n (pc := 40) C dX12_undo_40 (q := 1) rfl ?_
      refine g_isub (pc := 41) C dX12_undo_41 ?_
      obtain ⟨k13, h⟩ := h
      refine g_iast (pc := 42) C k9 k13 dX12_undo_42 ?_
      refine g_iconst (pc := 43) C dX12_undo_43 (v := 0) rfl ?_
      refine g_istore_n (pc := 44) C dX12_undo_44 (Nat.le_of_ble_eq_true rfl) (lo' := [(2, .int 0), (0, .ref (adr x a0)), (1, .int a1)]) rfl ?_
      obtain ⟨n23, h⟩ := h
      refine g_sub [1, 0] rfl ?_
      refine t_X12_undo_45 C hlk hr n23 _ _ _ h
    · replace h := h.2 z11
      refine g_aload_n (pc := 27) C dX12_undo_27 (q := 0) rfl ?_
      refine g_iconst (pc := 28) C dX12_undo_28 (v := 1) rfl ?_
      refine miX12_230 (pc := 29) C k8 h (Nat.le_of_ble_eq_true rfl) (Nat.le_of_ble_eq_true rfl) ⟨Nat.le_refl _, Nat.le_refl _⟩ dX12_undo_29 (fun r24 w25 h => ?_)
      exact g_iret (pc := 32) C hlk hr (Nat.le_refl _) (Nat.le_refl _) dX12_undo_32 h
def w_X12_wakers (a0 : Nat) (a1 : Int32) (a2 : Int32) (K : Int32 → Wd → Prop) (w : Wd) : Prop :=
  isK w a0 12 ∧ w_X12_isWell a0 a1.toInt64 (fun r2 w3 => ((r2 = 0 → isK w3 a0 12 ∧ (((wI (uI w3 a0 4 1) a0 4) ≤ 0 → w_X12_wakersOf a0 a1 a2 (fun r18 w19 => K r18 w19) (uI w3 a0 4 1)) ∧ (¬ (wI (uI w3 a0 4 1) a0 4) ≤ 0 → K 0 (uI w3 a0 4 1)))) ∧ (¬ r2 = 0 → w_X12_isNoise a2 (fun r5 w6 => ((r5 = 0 → isK w6 a0 12 ∧ (((wI (uI w6 a0 4 2) a0 4) ≤ 0 → w_X12_wakersOf a0 a1 a2 (fun r10 w11 => K r10 w11) (uI w6 a0 4 2)) ∧ (¬ (wI (uI w6 a0 4 2) a0 4) ≤ 0 → K 0 (uI w6 a0 4 2)))) ∧ (¬ r5 = 0 → isK w6 a0 12 ∧ (((wI (uI w6 a0 4 0) a0 4) ≤ 0 → w_X12_wakersOf a0 a1 a2 (fun r14 w15 => K r14 w15) (uI w6 a0 4 0)) ∧ (¬ (wI (uI w6 a0 4 0) a0 4) ≤ 0 → K 0 (uI w6 a0 4 0)))))) w3))) w
theorem c_X12_wakers {x : xG} {l : Launch} {a0 : Nat} {a1 : Int32} {a2 : Int32} {K : Int32 → Wd → Prop} {w : Wd} (h : w_X12_wakers a0 a1 a2 K w) : Met l yX12_wakers (xws yX12_wakers cX12_wakers 3 (some .int)) (rmd 7 0 0) (xPc x [.ref (adr x a0), .int a1, .int a2] w) (QcI x K) 0 0 (xA x) := by
  refine xMet (by decide) (Nat.le_of_ble_eq_true rfl) (fun p e s m below meth c C hlk hr _ => ?_)
  show GW x p l e (rmd 7 0 0) s m [.ref (adr x a0), .int a1, .int a2].toArray below meth c 3 (QI x K below [.ref (adr x a0), .int a1, .int a2].toArray s 0 0) 0 [(0, .ref (adr x a0)), (1, .int a1), (2, .int a2)] [] w 0 0
  refine g_aload_n (pc := 0) C dX12_wakers_0 (q := 0) rfl ?_
  refine g_aload_n (pc := 1) C dX12_wakers_1 (q := 0) rfl ?_
  refine g_iload_n (pc := 2) C dX12_wakers_2 (q := 1) rfl ?_
  refine g_i2l (pc := 3) C dX12_wakers_3 ?_
  obtain ⟨k1, h⟩ := h
  refine miX12_302 (pc := 4) C k1 h (Nat.le_of_ble_eq_true rfl) (Nat.le_of_ble_eq_true rfl) ⟨Nat.le_refl _, Nat.le_refl _⟩ dX12_wakers_4 (fun r2 w3 h => ?_)
  refine g_if_ne (pc := 7) C dX12_wakers_7 (tgt := 14) rfl (fun z4 => ?_) (fun z4 => ?_)
  · replace h := h.2 z4
    refine g_iload_n (pc := 14) C dX12_wakers_14 (q := 2) rfl ?_
    refine miX12_402 (pc := 15) C h (Nat.le_of_ble_eq_true rfl) (Nat.le_of_ble_eq_true rfl) ⟨Nat.le_refl _, Nat.le_refl _⟩ dX12_wakers_15 (fun r5 w6 h => ?_)
    refine g_if_eq (pc := 18) C dX12_wakers_18 (tgt := 25) rfl (fun z7 => ?_) (fun z7 => ?_)
    · replace h := h.1 z7
      refine g_iconst (pc := 25) C dX12_wakers_25 (v := 2) rfl ?_
      obtain ⟨k8, h⟩ := h
      refine pfX12_58 (pc := 26) C k8 dX12_wakers_26 ?_
      refine g_aload_n (pc := 29) C dX12_wakers_29 (q := 0) rfl ?_
      refine gfX12_58 (pc := 30) (w := uI w6 a0 4 2) C k8 dX12_wakers_30 ?_
      refine g_if_le (pc := 33) C dX12_wakers_33 (tgt := 40) rfl (fun z9 => ?_) (fun z9 => ?_)
      · replace h := h.1 z9
        refine g_aload_n (pc := 40) C dX12_wakers_40 (q := 0) rfl ?_
        refine g_iload_n (pc := 41) C dX12_wakers_41 (q := 1) rfl ?_
        refine g_iload_n (pc := 42) C dX12_wakers_42 (q := 2) rfl ?_
        refine miX12_408 (pc := 43) (w := uI w6 a0 4 2) C k8 h (Nat.le_of_ble_eq_true rfl) (Nat.le_of_ble_eq_true rfl) ⟨Nat.le_refl _, Nat.le_refl _⟩ dX12_wakers_43 (fun r10 w11 h => ?_)
        exact g_iret (pc := 46) C hlk hr (Nat.le_refl _) (Nat.le_refl _) dX12_wakers_46 h
      · replace h := h.2 z9
        refine g_iconst (pc := 36) C dX12_wakers_36 (v := 0) rfl ?_
        refine g_goto (pc := 37) C dX12_wakers_37 (tgt := 46) rfl ?_
        exact g_iret (pc := 46) C hlk hr (Nat.le_refl _) (Nat.le_refl _) dX12_wakers_46 h
    · replace h := h.2 z7
      refine g_iconst (pc := 21) C dX12_wakers_21 (v := 0) rfl ?_
      refine g_goto (pc := 22) C dX12_wakers_22 (tgt := 26) rfl ?_
      obtain ⟨k12, h⟩ := h
      refine pfX12_58 (pc := 26) C k12 dX12_wakers_26 ?_
      refine g_aload_n (pc := 29) C dX12_wakers_29 (q := 0) rfl ?_
      refine gfX12_58 (pc := 30) (w := uI w6 a0 4 0) C k12 dX12_wakers_30 ?_
      refine g_if_le (pc := 33) C dX12_wakers_33 (tgt := 40) rfl (fun z13 => ?_) (fun z13 => ?_)
      · replace h := h.1 z13
        refine g_aload_n (pc := 40) C dX12_wakers_40 (q := 0) rfl ?_
        refine g_iload_n (pc := 41) C dX12_wakers_41 (q := 1) rfl ?_
        refine g_iload_n (pc := 42) C dX12_wakers_42 (q := 2) rfl ?_
        refine miX12_408 (pc := 43) (w := uI w6 a0 4 0) C k12 h (Nat.le_of_ble_eq_true rfl) (Nat.le_of_ble_eq_true rfl) ⟨Nat.le_refl _, Nat.le_refl _⟩ dX12_wakers_43 (fun r14 w15 h => ?_)
        exact g_iret (pc := 46) C hlk hr (Nat.le_refl _) (Nat.le_refl _) dX12_wakers_46 h
      · replace h := h.2 z13
        refine g_iconst (pc := 36) C dX12_wakers_36 (v := 0) rfl ?_
        refine g_goto (pc := 37) C dX12_wakers_37 (tgt := 46) rfl ?_
        exact g_iret (pc := 46) C hlk hr (Nat.le_refl _) (Nat.le_refl _) dX12_wakers_46 h
  · replace h := h.1 z4
    refine g_iconst (pc := 10) C dX12_wakers_10 (v := 1) rfl ?_
    refine g_goto (pc := 11) C dX12_wakers_11 (tgt := 26) rfl ?_
    obtain ⟨k16, h⟩ := h
    refine pfX12_58 (pc := 26) C k16 dX12_wakers_26 ?_
    refine g_aload_n (pc := 29) C dX12_wakers_29 (q := 0) rfl ?_
    refine gfX12_58 (pc := 30) (w := uI w3 a0 4 1) C k16 dX12_wakers_30 ?_
    refine g_if_le (pc := 33) C dX12_wakers_33 (tgt := 40) rfl (fun z17 => ?_) (fun z17 => ?_)
    · replace h := h.1 z17
      refine g_aload_n (pc := 40) C dX12_wakers_40 (q := 0) rfl ?_
      refine g_iload_n (pc := 41) C dX12_wakers_41 (q := 1) rfl ?_
      refine g_iload_n (pc := 42) C dX12_wakers_42 (q := 2) rfl ?_
      refine miX12_408 (pc := 43) (w := uI w3 a0 4 1) C k16 h (Nat.le_of_ble_eq_true rfl) (Nat.le_of_ble_eq_true rfl) ⟨Nat.le_refl _, Nat.le_refl _⟩ dX12_wakers_43 (fun r18 w19 h => ?_)
      exact g_iret (pc := 46) C hlk hr (Nat.le_refl _) (Nat.le_refl _) dX12_wakers_46 h
    · replace h := h.2 z17
      refine g_iconst (pc := 36) C dX12_wakers_36 (v := 0) rfl ?_
      refine g_goto (pc := 37) C dX12_wakers_37 (tgt := 46) rfl ?_
      exact g_iret (pc := 46) C hlk hr (Nat.le_refl _) (Nat.le_refl _) dX12_wakers_46 h
def j_X12_wakes_40  (K : Int32 → Wd → Prop) (a0 : Nat) (a1 : Int32) (a2 : Int32) (a3 : Int32) (s0 : Int32) (s1 : Nat) (w : Wd) : Prop :=
  isK w s1 12 ∧ isK w a0 12 ∧ (((wI (uI w s1 4 s0) a0 4) = 0 → w_X12_isWoken a0 a1 a2 a3 (fun r8 w9 => ((r8 = 0 → K 0 w9) ∧ (¬ r8 = 0 → K 1 w9))) (uI w s1 4 s0)) ∧ (¬ (wI (uI w s1 4 s0) a0 4) = 0 → K 0 (uI w s1 4 s0)))
def w_X12_wakes (a0 : Nat) (a1 : Int32) (a2 : Int32) (a3 : Int32) (K : Int32 → Wd → Prop) (w : Wd) : Prop :=
  isK w a0 12 ∧ w_X12_isWell a0 a1.toInt64 (fun r2 w3 => ((r2 = 0 → j_X12_wakes_40 K a0 a1 a2 a3 1 a0 w3) ∧ (¬ r2 = 0 → isK w3 a0 12 ∧ w_X12_isWell a0 a2.toInt64 (fun r12 w13 => ((r12 = 0 → j_X12_wakes_40 K a0 a1 a2 a3 1 a0 w13) ∧ (¬ r12 = 0 → ((a1 = a2 → j_X12_wakes_40 K a0 a1 a2 a3 2 a0 w13) ∧ (¬ a1 = a2 → w_X12_isNoise a3 (fun r16 w17 => ((r16 = 0 → j_X12_wakes_40 K a0 a1 a2 a3 2 a0 w17) ∧ (¬ r16 = 0 → j_X12_wakes_40 K a0 a1 a2 a3 0 a0 w17))) w13))))) w3))) w
theorem t_X12_wakes_40 (C : xC x p s m c cX12_wakes 4 args RX12) (hlk : meth.locks = false) (hr : meth.sig.returnType = some .boolean) {K : Int32 → Wd → Prop}   (a0 : Nat) (a1 : Int32) (a2 : Int32) (a3 : Int32) (s0 : Int32) (s1 : Nat) (w : Wd) (h : j_X12_wakes_40 K a0 a1 a2 a3 s0 s1 w) : GW x p l e (rmd 4 0 0) s m args below meth c 4 (QI x K below args s 0 0) 40 [(0, .ref (adr x a0)), (1, .int a1), (2, .int a2), (3, .int a3)] [.int s0, .ref (adr x s1)] w 0 0 := by
  obtain ⟨k5, h⟩ := h
  refine pfX12_58 (pc := 40) C k5 dX12_wakes_40 ?_
  refine g_aload_n (pc := 43) C dX12_wakes_43 (q := 0) rfl ?_
  obtain ⟨k6, h⟩ := h
  refine gfX12_58 (pc := 44) (w := uI w s1 4 s0) C k6 dX12_wakes_44 ?_
  refine g_if_ne (pc := 47) C dX12_wakes_47 (tgt := 64) rfl (fun z7 => ?_) (fun z7 => ?_)
  · replace h := h.2 z7
    refine g_iconst (pc := 64) C dX12_wakes_64 (v := 0) rfl ?_
    exact g_zret (pc := 65) C hlk hr (Nat.le_refl _) (Nat.le_refl _) dX12_wakes_65 (Or.inl rfl) h
  · replace h := h.1 z7
    refine g_aload_n (pc := 50) C dX12_wakes_50 (q := 0) rfl ?_
    refine g_iload_n (pc := 51) C dX12_wakes_51 (q := 1) rfl ?_
    refine g_iload_n (pc := 52) C dX12_wakes_52 (q := 2) rfl ?_
    refine g_iload_n (pc := 53) C dX12_wakes_53 (q := 3) rfl ?_
    refine miX12_282 (pc := 54) (w := uI w s1 4 s0) C k6 h (Nat.le_of_ble_eq_true rfl) (Nat.le_of_ble_eq_true rfl) ⟨Nat.le_refl _, Nat.le_refl _⟩ dX12_wakes_54 (fun r8 w9 h => ?_)
    refine g_if_eq (pc := 57) C dX12_wakes_57 (tgt := 64) rfl (fun z10 => ?_) (fun z10 => ?_)
    · replace h := h.1 z10
      refine g_iconst (pc := 64) C dX12_wakes_64 (v := 0) rfl ?_
      exact g_zret (pc := 65) C hlk hr (Nat.le_refl _) (Nat.le_refl _) dX12_wakes_65 (Or.inl rfl) h
    · replace h := h.2 z10
      refine g_iconst (pc := 60) C dX12_wakes_60 (v := 1) rfl ?_
      refine g_goto (pc := 61) C dX12_wakes_61 (tgt := 65) rfl ?_
      exact g_zret (pc := 65) C hlk hr (Nat.le_refl _) (Nat.le_refl _) dX12_wakes_65 (Or.inr rfl) h
theorem c_X12_wakes {x : xG} {l : Launch} {a0 : Nat} {a1 : Int32} {a2 : Int32} {a3 : Int32} {K : Int32 → Wd → Prop} {w : Wd} (h : w_X12_wakes a0 a1 a2 a3 K w) : Met l yX12_wakes (xws yX12_wakes cX12_wakes 4 (some .boolean)) (rmd 4 0 0) (xPc x [.ref (adr x a0), .int a1, .int a2, .int a3] w) (QcI x K) 0 0 (xA x) := by
  refine xMet (by decide) (Nat.le_of_ble_eq_true rfl) (fun p e s m below meth c C hlk hr _ => ?_)
  show GW x p l e (rmd 4 0 0) s m [.ref (adr x a0), .int a1, .int a2, .int a3].toArray below meth c 4 (QI x K below [.ref (adr x a0), .int a1, .int a2, .int a3].toArray s 0 0) 0 [(0, .ref (adr x a0)), (1, .int a1), (2, .int a2), (3, .int a3)] [] w 0 0
  refine g_aload_n (pc := 0) C dX12_wakes_0 (q := 0) rfl ?_
  refine g_aload_n (pc := 1) C dX12_wakes_1 (q := 0) rfl ?_
  refine g_iload_n (pc := 2) C dX12_wakes_2 (q := 1) rfl ?_
  refine g_i2l (pc := 3) C dX12_wakes_3 ?_
  obtain ⟨k1, h⟩ := h
  refine miX12_302 (pc := 4) C k1 h (Nat.le_of_ble_eq_true rfl) (Nat.le_of_ble_eq_true rfl) ⟨Nat.le_refl _, Nat.le_refl _⟩ dX12_wakes_4 (fun r2 w3 h => ?_)
  refine g_if_eq (pc := 7) C dX12_wakes_7 (tgt := 19) rfl (fun z4 => ?_) (fun z4 => ?_)
  · replace h := h.1 z4
    refine g_iconst (pc := 19) C dX12_wakes_19 (v := 1) rfl ?_
    refine g_goto (pc := 20) C dX12_wakes_20 (tgt := 40) rfl ?_
    exact t_X12_wakes_40 C hlk hr  _ _ _ _ _ _ _ h
  · replace h := h.2 z4
    refine g_aload_n (pc := 10) C dX12_wakes_10 (q := 0) rfl ?_
    refine g_iload_n (pc := 11) C dX12_wakes_11 (q := 2) rfl ?_
    refine g_i2l (pc := 12) C dX12_wakes_12 ?_
    obtain ⟨k11, h⟩ := h
    refine miX12_302 (pc := 13) C k11 h (Nat.le_of_ble_eq_true rfl) (Nat.le_of_ble_eq_true rfl) ⟨Nat.le_refl _, Nat.le_refl _⟩ dX12_wakes_13 (fun r12 w13 h => ?_)
    refine g_if_ne (pc := 16) C dX12_wakes_16 (tgt := 23) rfl (fun z14 => ?_) (fun z14 => ?_)
    · replace h := h.2 z14
      refine g_iload_n (pc := 23) C dX12_wakes_23 (q := 1) rfl ?_
      refine g_iload_n (pc := 24) C dX12_wakes_24 (q := 2) rfl ?_
      refine g_icmp_eq (pc := 25) C dX12_wakes_25 (tgt := 35) rfl (fun z15 => ?_) (fun z15 => ?_)
      · replace h := h.1 z15
        refine g_iconst (pc := 35) C dX12_wakes_35 (v := 2) rfl ?_
        refine g_goto (pc := 36) C dX12_wakes_36 (tgt := 40) rfl ?_
        exact t_X12_wakes_40 C hlk hr  _ _ _ _ _ _ _ h
      · replace h := h.2 z15
        refine g_iload_n (pc := 28) C dX12_wakes_28 (q := 3) rfl ?_
        refine miX12_402 (pc := 29) C h (Nat.le_of_ble_eq_true rfl) (Nat.le_of_ble_eq_true rfl) ⟨Nat.le_refl _, Nat.le_refl _⟩ dX12_wakes_29 (fun r16 w17 h => ?_)
        refine g_if_ne (pc := 32) C dX12_wakes_32 (tgt := 39) rfl (fun z18 => ?_) (fun z18 => ?_)
        · replace h := h.2 z18
          refine g_iconst (pc := 39) C dX12_wakes_39 (v := 0) rfl ?_
          exact t_X12_wakes_40 C hlk hr  _ _ _ _ _ _ _ h
        · replace h := h.1 z18
          refine g_iconst (pc := 35) C dX12_wakes_35 (v := 2) rfl ?_
          refine g_goto (pc := 36) C dX12_wakes_36 (tgt := 40) rfl ?_
          exact t_X12_wakes_40 C hlk hr  _ _ _ _ _ _ _ h
    · replace h := h.1 z14
      refine g_iconst (pc := 19) C dX12_wakes_19 (v := 1) rfl ?_
      refine g_goto (pc := 20) C dX12_wakes_20 (tgt := 40) rfl ?_
      exact t_X12_wakes_40 C hlk hr  _ _ _ _ _ _ _ h
def w_X12_wakesIn (a0 : Nat) (a1 : Int32) (K : Int32 → Wd → Prop) (w : Wd) : Prop :=
  isK w a0 12 ∧ w_X12_isWell a0 a1.toInt64 (fun r2 w3 => ((r2 = 0 → isK w3 a0 12 ∧ w_X12_fails a0 1 (fun r15 w16 => K r15 w16) w3) ∧ (¬ r2 = 0 → isK w3 a0 12 ∧ w_X12_isUp a0 a1 (fun r6 w7 => ((r6 = 0 → isK w7 a0 12 ∧ isK w7 (wR w7 a0 0) 20 ∧ vp_in (27 + a1) (wn w7 (wR w7 a0 0)) ∧ w_X12_phaseIn a0 a1 0 (fun r12 w13 => K ((wI w7 (wR w7 a0 0) (27 + a1).toNatClampNeg) - r12) w13) w7) ∧ (¬ r6 = 0 → K 0 w7))) w3))) (uI w a0 4 0)
theorem c_X12_wakesIn {x : xG} {l : Launch} {a0 : Nat} {a1 : Int32} {K : Int32 → Wd → Prop} {w : Wd} (h : w_X12_wakesIn a0 a1 K w) : Met l yX12_wakesIn (xws yX12_wakesIn cX12_wakesIn 2 (some .int)) (rmd 3 0 0) (xPc x [.ref (adr x a0), .int a1] w) (QcI x K) 0 0 (xA x) := by
  refine xMet (by decide) (Nat.le_of_ble_eq_true rfl) (fun p e s m below meth c C hlk hr _ => ?_)
  show GW x p l e (rmd 3 0 0) s m [.ref (adr x a0), .int a1].toArray below meth c 2 (QI x K below [.ref (adr x a0), .int a1].toArray s 0 0) 0 [(0, .ref (adr x a0)), (1, .int a1)] [] w 0 0
  refine g_aload_n (pc := 0) C dX12_wakesIn_0 (q := 0) rfl ?_
  refine g_iconst (pc := 1) C dX12_wakesIn_1 (v := 0) rfl ?_
  obtain ⟨k1, h⟩ := h
  refine pfX12_58 (pc := 2) C k1 dX12_wakesIn_2 ?_
  refine g_aload_n (pc := 5) C dX12_wakesIn_5 (q := 0) rfl ?_
  refine g_iload_n (pc := 6) C dX12_wakesIn_6 (q := 1) rfl ?_
  refine g_i2l (pc := 7) C dX12_wakesIn_7 ?_
  refine miX12_302 (pc := 8) (w := uI w a0 4 0) C k1 h (Nat.le_of_ble_eq_true rfl) (Nat.le_of_ble_eq_true rfl) ⟨Nat.le_refl _, Nat.le_refl _⟩ dX12_wakesIn_8 (fun r2 w3 h => ?_)
  refine g_if_ne (pc := 11) C dX12_wakesIn_11 (tgt := 20) rfl (fun z4 => ?_) (fun z4 => ?_)
  · replace h := h.2 z4
    refine g_aload_n (pc := 20) C dX12_wakesIn_20 (q := 0) rfl ?_
    refine g_iload_n (pc := 21) C dX12_wakesIn_21 (q := 1) rfl ?_
    obtain ⟨k5, h⟩ := h
    refine miX12_271 (pc := 22) C k5 h (Nat.le_of_ble_eq_true rfl) (Nat.le_of_ble_eq_true rfl) ⟨Nat.le_refl _, Nat.le_refl _⟩ dX12_wakesIn_22 (fun r6 w7 h => ?_)
    refine g_if_eq (pc := 25) C dX12_wakesIn_25 (tgt := 32) rfl (fun z8 => ?_) (fun z8 => ?_)
    · replace h := h.1 z8
      refine g_aload_n (pc := 32) C dX12_wakesIn_32 (q := 0) rfl ?_
      obtain ⟨k9, h⟩ := h
      obtain ⟨k10, h⟩ := h
      refine gfX12_9 (pc := 33) C k9 (isK_ne k10) dX12_wakesIn_33 ?_
      refine g_bipush (pc := 36) C dX12_wakesIn_36 (v := 27) rfl ?_
      refine g_iload_n (pc := 38) C dX12_wakesIn_38 (q := 1) rfl ?_
      refine g_iadd (pc := 39) C dX12_wakesIn_39 ?_
      obtain ⟨k11, h⟩ := h
      refine g_iald (pc := 40) C k10 k11 dX12_wakesIn_40 ?_
      refine g_aload_n (pc := 41) C dX12_wakesIn_41 (q := 0) rfl ?_
      refine g_iload_n (pc := 42) C dX12_wakesIn_42 (q := 1) rfl ?_
      refine g_iconst (pc := 43) C dX12_wakesIn_43 (v := 0) rfl ?_
      refine miX12_242 (pc := 44) C k9 h (Nat.le_of_ble_eq_true rfl) (Nat.le_of_ble_eq_true rfl) ⟨Nat.le_refl _, Nat.le_refl _⟩ dX12_wakesIn_44 (fun r12 w13 h => ?_)
      refine g_isub (pc := 47) C dX12_wakesIn_47 ?_
      exact g_iret (pc := 48) C hlk hr (Nat.le_refl _) (Nat.le_refl _) dX12_wakesIn_48 h
    · replace h := h.2 z8
      refine g_iconst (pc := 28) C dX12_wakesIn_28 (v := 0) rfl ?_
      refine g_goto (pc := 29) C dX12_wakesIn_29 (tgt := 48) rfl ?_
      exact g_iret (pc := 48) C hlk hr (Nat.le_refl _) (Nat.le_refl _) dX12_wakesIn_48 h
  · replace h := h.1 z4
    refine g_aload_n (pc := 14) C dX12_wakesIn_14 (q := 0) rfl ?_
    refine g_iconst (pc := 15) C dX12_wakesIn_15 (v := 1) rfl ?_
    obtain ⟨k14, h⟩ := h
    refine miX12_230 (pc := 16) C k14 h (Nat.le_of_ble_eq_true rfl) (Nat.le_of_ble_eq_true rfl) ⟨Nat.le_refl _, Nat.le_refl _⟩ dX12_wakesIn_16 (fun r15 w16 h => ?_)
    exact g_iret (pc := 19) C hlk hr (Nat.le_refl _) (Nat.le_refl _) dX12_wakesIn_19 h
def w_X12_water (a0 : Nat) (K : Int32 → Wd → Prop) (w : Wd) : Prop :=
  isK w a0 12 ∧ w_X12_waterAll a0 (fun r2 w3 => K r2 w3) (uI w a0 4 0)
theorem c_X12_water {x : xG} {l : Launch} {a0 : Nat} {K : Int32 → Wd → Prop} {w : Wd} (h : w_X12_water a0 K w) : Met l yX12_water (xws yX12_water cX12_water 1 (some .int)) (rmd 2 0 0) (xPc x [.ref (adr x a0)] w) (QcI x K) 0 0 (xA x) := by
  refine xMet (by decide) (Nat.le_of_ble_eq_true rfl) (fun p e s m below meth c C hlk hr _ => ?_)
  show GW x p l e (rmd 2 0 0) s m [.ref (adr x a0)].toArray below meth c 1 (QI x K below [.ref (adr x a0)].toArray s 0 0) 0 [(0, .ref (adr x a0))] [] w 0 0
  refine g_aload_n (pc := 0) C dX12_water_0 (q := 0) rfl ?_
  refine g_iconst (pc := 1) C dX12_water_1 (v := 0) rfl ?_
  obtain ⟨k1, h⟩ := h
  refine pfX12_58 (pc := 2) C k1 dX12_water_2 ?_
  refine g_aload_n (pc := 5) C dX12_water_5 (q := 0) rfl ?_
  refine miX12_311 (pc := 6) (w := uI w a0 4 0) C k1 h (Nat.le_of_ble_eq_true rfl) (Nat.le_of_ble_eq_true rfl) ⟨Nat.le_refl _, Nat.le_refl _⟩ dX12_water_6 (fun r2 w3 h => ?_)
  exact g_iret (pc := 9) C hlk hr (Nat.le_refl _) (Nat.le_refl _) dX12_water_9 h
def l_X12_waterIn_49 (E64 : Nat → Int32 → Wd → Prop) (K : Int32 → Wd → Prop) : Nat → Nat → Int32 → Int32 → Int32 → Wd → Prop
  | 0, _, _, _, _, _ => False
  | n + 1, a0, a1, a2, a3, w => ((a2 ≤ a3 → E64 a0 a1 w) ∧ (¬ a2 ≤ a3 → isK w a0 12 ∧ w_X12_hour a0 (fun w13 => l_X12_waterIn_49 E64 K n a0 a1 a2 (a3 + 1) w13) w))
def w_X12_waterIn (a0 : Nat) (a1 : Int32) (a2 : Int32) (K : Int32 → Wd → Prop) (w : Wd) : Prop :=
  isK w a0 12 ∧ w_X12_isWell a0 a1.toInt64 (fun r2 w3 => ((r2 = 0 → isK w3 a0 12 ∧ (((wI (uI w3 a0 4 1) a0 4) ≤ 0 → w_X12_putsAside a0 (fun w35 => ∃ n43, l_X12_waterIn_49 (fun b36 b37 w38 => isK w38 b36 12 ∧ isK w38 (wR w38 b36 0) 20 ∧ vp_in (15 + b37) (wn w38 (wR w38 b36 0)) ∧ w_X12_putsBack b36 (fun w42 => K (wI w38 (wR w38 b36 0) (15 + b37).toNatClampNeg) w42) w38) K n43 a0 a1 a2 0 w35) (uI w3 a0 4 1)) ∧ (¬ (wI (uI w3 a0 4 1) a0 4) ≤ 0 → K 0 (uI w3 a0 4 1)))) ∧ (¬ r2 = 0 → w_X12_within a2.toInt64 0 200 (fun r5 w6 => ((r5 = 0 → isK w6 a0 12 ∧ (((wI (uI w6 a0 4 2) a0 4) ≤ 0 → w_X12_putsAside a0 (fun w10 => ∃ n21, l_X12_waterIn_49 (fun b14 b15 w16 => isK w16 b14 12 ∧ isK w16 (wR w16 b14 0) 20 ∧ vp_in (15 + b15) (wn w16 (wR w16 b14 0)) ∧ w_X12_putsBack b14 (fun w20 => K (wI w16 (wR w16 b14 0) (15 + b15).toNatClampNeg) w20) w16) K n21 a0 a1 a2 0 w10) (uI w6 a0 4 2)) ∧ (¬ (wI (uI w6 a0 4 2) a0 4) ≤ 0 → K 0 (uI w6 a0 4 2)))) ∧ (¬ r5 = 0 → isK w6 a0 12 ∧ (((wI (uI w6 a0 4 0) a0 4) ≤ 0 → w_X12_putsAside a0 (fun w24 => ∃ n32, l_X12_waterIn_49 (fun b25 b26 w27 => isK w27 b25 12 ∧ isK w27 (wR w27 b25 0) 20 ∧ vp_in (15 + b26) (wn w27 (wR w27 b25 0)) ∧ w_X12_putsBack b25 (fun w31 => K (wI w27 (wR w27 b25 0) (15 + b26).toNatClampNeg) w31) w27) K n32 a0 a1 a2 0 w24) (uI w6 a0 4 0)) ∧ (¬ (wI (uI w6 a0 4 0) a0 4) ≤ 0 → K 0 (uI w6 a0 4 0)))))) w3))) w
theorem t_X12_waterIn_49 (C : xC x p s m c cX12_waterIn 4 args RX12) (hlk : meth.locks = false) (hr : meth.sig.returnType = some .int) {K : Int32 → Wd → Prop} {E64 : Nat → Int32 → Wd → Prop} (hE64 : ∀ (b0 : Nat) (b1 : Int32) (w : Wd), E64 b0 b1 w → GW x p l e (rmd 4 0 0) s m args below meth c 4 (QI x K below args s 0 0) 64 [(0, .ref (adr x b0)), (1, .int b1)] [] w 0 0) : ∀ (n : Nat) (a0 : Nat) (a1 : Int32) (a2 : Int32) (a3 : Int32) (w : Wd), l_X12_waterIn_49 E64 K n a0 a1 a2 a3 w → GW x p l e (rmd 4 0 0) s m args below meth c 4 (QI x K below args s 0 0) 49 [(0, .ref (adr x a0)), (1, .int a1), (2, .int a2), (3, .int a3)] [] w 0 0 := by
  intro n
  induction n with
  | zero => intro _ _ _ _ _ h; exact False.elim h
  | succ n ih =>
    intro a0 a1 a2 a3 w h
    refine g_iload_n (pc := 49) C dX12_waterIn_49 (q := 3) rfl ?_
    refine g_iload_n (pc := 50) C dX12_waterIn_50 (q := 2) rfl ?_
    refine g_icmp_ge (pc := 51) C dX12_waterIn_51 (tgt := 64) rfl (fun z11 => ?_) (fun z11 => ?_)
    · replace h := h.1 z11
      refine g_sub [0, 1] rfl ?_
      exact hE64 _ _ _ h
    · replace h := h.2 z11
      refine g_aload_n (pc := 54) C dX12_waterIn_54 (q := 0) rfl ?_
      obtain ⟨k12, h⟩ := h
      refine miX12_347 (pc := 55) C k12 h (Nat.le_of_ble_eq_true rfl) (Nat.le_of_ble_eq_true rfl) ⟨Nat.le_refl _, Nat.le_refl _⟩ dX12_waterIn_55 (fun w13 h => ?_)
      refine g_iinc (pc := 58) C dX12_waterIn_58 (q := 3) rfl (v2 := a3 + 1) rfl (Nat.le_of_ble_eq_true rfl) (lo' := [(3, .int (a3 + 1)), (0, .ref (adr x a0)), (1, .int a1), (2, .int a2)]) rfl ?_
      refine g_goto (pc := 61) C dX12_waterIn_61 (tgt := 49) rfl ?_
      refine g_sub [1, 2, 3, 0] rfl ?_
      exact ih _ _ _ _ _ h
theorem c_X12_waterIn {x : xG} {l : Launch} {a0 : Nat} {a1 : Int32} {a2 : Int32} {K : Int32 → Wd → Prop} {w : Wd} (h : w_X12_waterIn a0 a1 a2 K w) : Met l yX12_waterIn (xws yX12_waterIn cX12_waterIn 4 (some .int)) (rmd 4 0 0) (xPc x [.ref (adr x a0), .int a1, .int a2] w) (QcI x K) 0 0 (xA x) := by
  refine xMet (by decide) (Nat.le_of_ble_eq_true rfl) (fun p e s m below meth c C hlk hr _ => ?_)
  show GW x p l e (rmd 4 0 0) s m [.ref (adr x a0), .int a1, .int a2].toArray below meth c 4 (QI x K below [.ref (adr x a0), .int a1, .int a2].toArray s 0 0) 0 [(0, .ref (adr x a0)), (1, .int a1), (2, .int a2)] [] w 0 0
  refine g_aload_n (pc := 0) C dX12_waterIn_0 (q := 0) rfl ?_
  refine g_aload_n (pc := 1) C dX12_waterIn_1 (q := 0) rfl ?_
  refine g_iload_n (pc := 2) C dX12_waterIn_2 (q := 1) rfl ?_
  refine g_i2l (pc := 3) C dX12_waterIn_3 ?_
  obtain ⟨k1, h⟩ := h
  refine miX12_302 (pc := 4) C k1 h (Nat.le_of_ble_eq_true rfl) (Nat.le_of_ble_eq_true rfl) ⟨Nat.le_refl _, Nat.le_refl _⟩ dX12_waterIn_4 (fun r2 w3 h => ?_)
  refine g_if_ne (pc := 7) C dX12_waterIn_7 (tgt := 14) rfl (fun z4 => ?_) (fun z4 => ?_)
  · replace h := h.2 z4
    refine g_iload_n (pc := 14) C dX12_waterIn_14 (q := 2) rfl ?_
    refine g_i2l (pc := 15) C dX12_waterIn_15 ?_
    refine g_lconst (pc := 16) C dX12_waterIn_16 (v := 0) rfl ?_
    refine g_ldc2 (pc := 17) C LCX12_443 dX12_waterIn_17 ?_
    refine miX12_119 (pc := 20) C h (Nat.le_of_ble_eq_true rfl) (Nat.le_of_ble_eq_true rfl) ⟨Nat.le_refl _, Nat.le_refl _⟩ dX12_waterIn_20 (fun r5 w6 h => ?_)
    refine g_if_eq (pc := 23) C dX12_waterIn_23 (tgt := 30) rfl (fun z7 => ?_) (fun z7 => ?_)
    · replace h := h.1 z7
      refine g_iconst (pc := 30) C dX12_waterIn_30 (v := 2) rfl ?_
      obtain ⟨k8, h⟩ := h
      refine pfX12_58 (pc := 31) C k8 dX12_waterIn_31 ?_
      refine g_aload_n (pc := 34) C dX12_waterIn_34 (q := 0) rfl ?_
      refine gfX12_58 (pc := 35) (w := uI w6 a0 4 2) C k8 dX12_waterIn_35 ?_
      refine g_if_le (pc := 38) C dX12_waterIn_38 (tgt := 43) rfl (fun z9 => ?_) (fun z9 => ?_)
      · replace h := h.1 z9
        refine g_aload_n (pc := 43) C dX12_waterIn_43 (q := 0) rfl ?_
        refine miX12_375 (pc := 44) (w := uI w6 a0 4 2) C k8 h (Nat.le_of_ble_eq_true rfl) (Nat.le_of_ble_eq_true rfl) ⟨Nat.le_refl _, Nat.le_refl _⟩ dX12_waterIn_44 (fun w10 h => ?_)
        refine g_iconst (pc := 47) C dX12_waterIn_47 (v := 0) rfl ?_
        refine g_istore_n (pc := 48) C dX12_waterIn_48 (Nat.le_of_ble_eq_true rfl) (lo' := [(3, .int 0), (0, .ref (adr x a0)), (1, .int a1), (2, .int a2)]) rfl ?_
        obtain ⟨n21, h⟩ := h
        refine g_sub [1, 2, 3, 0] rfl ?_
        refine t_X12_waterIn_49 C hlk hr ?_ n21 _ _ _ _ _ h
        · intro b14 b15 w16 h
          refine g_aload_n (pc := 64) C dX12_waterIn_64 (q := 0) rfl ?_
          obtain ⟨k17, h⟩ := h
          obtain ⟨k18, h⟩ := h
          refine gfX12_9 (pc := 65) C k17 (isK_ne k18) dX12_waterIn_65 ?_
          refine g_bipush (pc := 68) C dX12_waterIn_68 (v := 15) rfl ?_
          refine g_iload_n (pc := 70) C dX12_waterIn_70 (q := 1) rfl ?_
          refine g_iadd (pc := 71) C dX12_waterIn_71 ?_
          obtain ⟨k19, h⟩ := h
          refine g_iald (pc := 72) C k18 k19 dX12_waterIn_72 ?_
          refine g_istore_n (pc := 73) C dX12_waterIn_73 (Nat.le_of_ble_eq_true rfl) (lo' := [(3, .int (wI w16 (wR w16 b14 0) (15 + b15).toNatClampNeg)), (0, .ref (adr x b14)), (1, .int b15)]) rfl ?_
          refine g_aload_n (pc := 74) C dX12_waterIn_74 (q := 1) rfl ?_
          refine miX12_384 (pc := 75) C k17 h (Nat.le_of_ble_eq_true rfl) (Nat.le_of_ble_eq_true rfl) ⟨Nat.le_refl _, Nat.le_refl _⟩ dX12_waterIn_75 (fun w20 h => ?_)
          refine g_iload_n (pc := 78) C dX12_waterIn_78 (q := 0) rfl ?_
          exact g_iret (pc := 79) C hlk hr (Nat.le_refl _) (Nat.le_refl _) dX12_waterIn_79 h
      · replace h := h.2 z9
        refine g_iconst (pc := 41) C dX12_waterIn_41 (v := 0) rfl ?_
        exact g_iret (pc := 42) C hlk hr (Nat.le_refl _) (Nat.le_refl _) dX12_waterIn_42 h
    · replace h := h.2 z7
      refine g_iconst (pc := 26) C dX12_waterIn_26 (v := 0) rfl ?_
      refine g_goto (pc := 27) C dX12_waterIn_27 (tgt := 31) rfl ?_
      obtain ⟨k22, h⟩ := h
      refine pfX12_58 (pc := 31) C k22 dX12_waterIn_31 ?_
      refine g_aload_n (pc := 34) C dX12_waterIn_34 (q := 0) rfl ?_
      refine gfX12_58 (pc := 35) (w := uI w6 a0 4 0) C k22 dX12_waterIn_35 ?_
      refine g_if_le (pc := 38) C dX12_waterIn_38 (tgt := 43) rfl (fun z23 => ?_) (fun z23 => ?_)
      · replace h := h.1 z23
        refine g_aload_n (pc := 43) C dX12_waterIn_43 (q := 0) rfl ?_
        refine miX12_375 (pc := 44) (w := uI w6 a0 4 0) C k22 h (Nat.le_of_ble_eq_true rfl) (Nat.le_of_ble_eq_true rfl) ⟨Nat.le_refl _, Nat.le_refl _⟩ dX12_waterIn_44 (fun w24 h => ?_)
        refine g_iconst (pc := 47) C dX12_waterIn_47 (v := 0) rfl ?_
        refine g_istore_n (pc := 48) C dX12_waterIn_48 (Nat.le_of_ble_eq_true rfl) (lo' := [(3, .int 0), (0, .ref (adr x a0)), (1, .int a1), (2, .int a2)]) rfl ?_
        obtain ⟨n32, h⟩ := h
        refine g_sub [1, 2, 3, 0] rfl ?_
        refine t_X12_waterIn_49 C hlk hr ?_ n32 _ _ _ _ _ h
        · intro b25 b26 w27 h
          refine g_aload_n (pc := 64) C dX12_waterIn_64 (q := 0) rfl ?_
          obtain ⟨k28, h⟩ := h
          obtain ⟨k29, h⟩ := h
          refine gfX12_9 (pc := 65) C k28 (isK_ne k29) dX12_waterIn_65 ?_
          refine g_bipush (pc := 68) C dX12_waterIn_68 (v := 15) rfl ?_
          refine g_iload_n (pc := 70) C dX12_waterIn_70 (q := 1) rfl ?_
          refine g_iadd (pc := 71) C dX12_waterIn_71 ?_
          obtain ⟨k30, h⟩ := h
          refine g_iald (pc := 72) C k29 k30 dX12_waterIn_72 ?_
          refine g_istore_n (pc := 73) C dX12_waterIn_73 (Nat.le_of_ble_eq_true rfl) (lo' := [(3, .int (wI w27 (wR w27 b25 0) (15 + b26).toNatClampNeg)), (0, .ref (adr x b25)), (1, .int b26)]) rfl ?_
          refine g_aload_n (pc := 74) C dX12_waterIn_74 (q := 1) rfl ?_
          refine miX12_384 (pc := 75) C k28 h (Nat.le_of_ble_eq_true rfl) (Nat.le_of_ble_eq_true rfl) ⟨Nat.le_refl _, Nat.le_refl _⟩ dX12_waterIn_75 (fun w31 h => ?_)
          refine g_iload_n (pc := 78) C dX12_waterIn_78 (q := 0) rfl ?_
          exact g_iret (pc := 79) C hlk hr (Nat.le_refl _) (Nat.le_refl _) dX12_waterIn_79 h
      · replace h := h.2 z23
        refine g_iconst (pc := 41) C dX12_waterIn_41 (v := 0) rfl ?_
        exact g_iret (pc := 42) C hlk hr (Nat.le_refl _) (Nat.le_refl _) dX12_waterIn_42 h
  · replace h := h.1 z4
    refine g_iconst (pc := 10) C dX12_waterIn_10 (v := 1) rfl ?_
    refine g_goto (pc := 11) C dX12_waterIn_11 (tgt := 31) rfl ?_
    obtain ⟨k33, h⟩ := h
    refine pfX12_58 (pc := 31) C k33 dX12_waterIn_31 ?_
    refine g_aload_n (pc := 34) C dX12_waterIn_34 (q := 0) rfl ?_
    refine gfX12_58 (pc := 35) (w := uI w3 a0 4 1) C k33 dX12_waterIn_35 ?_
    refine g_if_le (pc := 38) C dX12_waterIn_38 (tgt := 43) rfl (fun z34 => ?_) (fun z34 => ?_)
    · replace h := h.1 z34
      refine g_aload_n (pc := 43) C dX12_waterIn_43 (q := 0) rfl ?_
      refine miX12_375 (pc := 44) (w := uI w3 a0 4 1) C k33 h (Nat.le_of_ble_eq_true rfl) (Nat.le_of_ble_eq_true rfl) ⟨Nat.le_refl _, Nat.le_refl _⟩ dX12_waterIn_44 (fun w35 h => ?_)
      refine g_iconst (pc := 47) C dX12_waterIn_47 (v := 0) rfl ?_
      refine g_istore_n (pc := 48) C dX12_waterIn_48 (Nat.le_of_ble_eq_true rfl) (lo' := [(3, .int 0), (0, .ref (adr x a0)), (1, .int a1), (2, .int a2)]) rfl ?_
      obtain ⟨n43, h⟩ := h
      refine g_sub [1, 2, 3, 0] rfl ?_
      refine t_X12_waterIn_49 C hlk hr ?_ n43 _ _ _ _ _ h
      · intro b36 b37 w38 h
        refine g_aload_n (pc := 64) C dX12_waterIn_64 (q := 0) rfl ?_
        obtain ⟨k39, h⟩ := h
        obtain ⟨k40, h⟩ := h
        refine gfX12_9 (pc := 65) C k39 (isK_ne k40) dX12_waterIn_65 ?_
        refine g_bipush (pc := 68) C dX12_waterIn_68 (v := 15) rfl ?_
        refine g_iload_n (pc := 70) C dX12_waterIn_70 (q := 1) rfl ?_
        refine g_iadd (pc := 71) C dX12_waterIn_71 ?_
        obtain ⟨k41, h⟩ := h
        refine g_iald (pc := 72) C k40 k41 dX12_waterIn_72 ?_
        refine g_istore_n (pc := 73) C dX12_waterIn_73 (Nat.le_of_ble_eq_true rfl) (lo' := [(3, .int (wI w38 (wR w38 b36 0) (15 + b37).toNatClampNeg)), (0, .ref (adr x b36)), (1, .int b37)]) rfl ?_
        refine g_aload_n (pc := 74) C dX12_waterIn_74 (q := 1) rfl ?_
        refine miX12_384 (pc := 75) C k39 h (Nat.le_of_ble_eq_true rfl) (Nat.le_of_ble_eq_true rfl) ⟨Nat.le_refl _, Nat.le_refl _⟩ dX12_waterIn_75 (fun w42 h => ?_)
        refine g_iload_n (pc := 78) C dX12_waterIn_78 (q := 0) rfl ?_
        exact g_iret (pc := 79) C hlk hr (Nat.le_refl _) (Nat.le_refl _) dX12_waterIn_79 h
    · replace h := h.2 z34
      refine g_iconst (pc := 41) C dX12_waterIn_41 (v := 0) rfl ?_
      exact g_iret (pc := 42) C hlk hr (Nat.le_refl _) (Nat.le_refl _) dX12_waterIn_42 h
def j_X12_well_31  (K : Int32 → Wd → Prop) (a0 : Nat) (a1 : Int32) (a2 : Int32) (s0 : Int32) (s1 : Nat) (w : Wd) : Prop :=
  isK w s1 12 ∧ isK w a0 12 ∧ (((wI (uI w s1 4 s0) a0 4) ≤ 0 → ((a2 = 0 → isK w (wR w a0 0) 20 ∧ vp_in (27 + a1) (wn w (wR w a0 0)) ∧ K (wI (uI w s1 4 s0) (wR w a0 0) (27 + a1).toNatClampNeg) (uI w s1 4 s0)) ∧ (¬ a2 = 0 → ((a2 = 1 → isK w (wR w a0 0) 20 ∧ vp_in (37 + a1) (wn w (wR w a0 0)) ∧ K (wI (uI w s1 4 s0) (wR w a0 0) (37 + a1).toNatClampNeg) (uI w s1 4 s0)) ∧ (¬ a2 = 1 → ((a2 = 2 → isK w (wR w a0 0) 20 ∧ vp_in (5 + a1) (wn w (wR w a0 0)) ∧ K (wI (uI w s1 4 s0) (wR w a0 0) (5 + a1).toNatClampNeg) (uI w s1 4 s0)) ∧ (¬ a2 = 2 → ((a2 = 3 → isK w (wR w a0 0) 20 ∧ vp_in (47 + a1) (wn w (wR w a0 0)) ∧ K (wI (uI w s1 4 s0) (wR w a0 0) (47 + a1).toNatClampNeg) (uI w s1 4 s0)) ∧ (¬ a2 = 3 → ((a2 = 4 → isK w (wR w a0 0) 20 ∧ vp_in (15 + a1) (wn w (wR w a0 0)) ∧ K (wI (uI w s1 4 s0) (wR w a0 0) (15 + a1).toNatClampNeg) (uI w s1 4 s0)) ∧ (¬ a2 = 4 → ((a2 = 5 → w_X12_phaseIn a0 a1 0 (fun r29 w30 => K r29 w30) (uI w s1 4 s0)) ∧ (¬ a2 = 5 → ((a2 = 6 → w_X12_isUp a0 a1 (fun r31 w32 => ((r31 = 0 → K 0 w32) ∧ (¬ r31 = 0 → K 1 w32))) (uI w s1 4 s0)) ∧ (¬ a2 = 6 → ((a2 = 7 → isK w (wR w a0 0) 20 ∧ vp_in 25 (wn w (wR w a0 0)) ∧ w_X12_has (wI (uI w s1 4 s0) (wR w a0 0) (25 : Int32).toNatClampNeg) a1 (fun r36 w37 => ((r36 = 0 → K 0 w37) ∧ (¬ r36 = 0 → K 1 w37))) (uI w s1 4 s0)) ∧ (¬ a2 = 7 → isK w (wR w a0 0) 20 ∧ vp_in (57 + a1) (wn w (wR w a0 0)) ∧ K (wI (uI w s1 4 s0) (wR w a0 0) (57 + a1).toNatClampNeg) (uI w s1 4 s0)))))))))))))))))) ∧ (¬ (wI (uI w s1 4 s0) a0 4) ≤ 0 → K 0 (uI w s1 4 s0)))
def w_X12_well (a0 : Nat) (a1 : Int32) (a2 : Int32) (K : Int32 → Wd → Prop) (w : Wd) : Prop :=
  isK w a0 12 ∧ w_X12_isWell a0 a1.toInt64 (fun r2 w3 => ((r2 = 0 → j_X12_well_31 K a0 a1 a2 1 a0 w3) ∧ (¬ r2 = 0 → w_X12_within a2.toInt64 0 8 (fun r5 w6 => ((r5 = 0 → j_X12_well_31 K a0 a1 a2 2 a0 w6) ∧ (¬ r5 = 0 → j_X12_well_31 K a0 a1 a2 0 a0 w6))) w3))) w
theorem t_X12_well_31 (C : xC x p s m c cX12_well 3 args RX12) (hlk : meth.locks = false) (hr : meth.sig.returnType = some .int) {K : Int32 → Wd → Prop}   (a0 : Nat) (a1 : Int32) (a2 : Int32) (s0 : Int32) (s1 : Nat) (w : Wd) (h : j_X12_well_31 K a0 a1 a2 s0 s1 w) : GW x p l e (rmd 3 0 0) s m args below meth c 3 (QI x K below args s 0 0) 31 [(0, .ref (adr x a0)), (1, .int a1), (2, .int a2)] [.int s0, .ref (adr x s1)] w 0 0 := by
  obtain ⟨k8, h⟩ := h
  refine pfX12_58 (pc := 31) C k8 dX12_well_31 ?_
  refine g_aload_n (pc := 34) C dX12_well_34 (q := 0) rfl ?_
  obtain ⟨k9, h⟩ := h
  refine gfX12_58 (pc := 35) (w := uI w s1 4 s0) C k9 dX12_well_35 ?_
  refine g_if_le (pc := 38) C dX12_well_38 (tgt := 43) rfl (fun z10 => ?_) (fun z10 => ?_)
  · replace h := h.1 z10
    refine g_iload_n (pc := 43) C dX12_well_43 (q := 2) rfl ?_
    by_cases z11 : a2 = 0
    · replace h := h.1 z11
      refine g_tabIn (pc := 44) C dX12_well_44 (by rw [z11]; decide) (by rw [z11]; decide) (off := 48) (by rw [z11]; rfl) (tgt := 92) rfl ?_
      refine g_aload_n (pc := 92) C dX12_well_92 (q := 0) rfl ?_
      obtain ⟨k19, h⟩ := h
      refine gfX12_9 (pc := 93) (w := uI w s1 4 s0) C k9 (isK_ne k19) dX12_well_93 ?_
      refine g_bipush (pc := 96) C dX12_well_96 (v := 27) rfl ?_
      refine g_iload_n (pc := 98) C dX12_well_98 (q := 1) rfl ?_
      refine g_iadd (pc := 99) C dX12_well_99 ?_
      obtain ⟨k20, h⟩ := h
      refine g_iald (pc := 100) (w := uI w s1 4 s0) C k19 k20 dX12_well_100 ?_
      exact g_iret (pc := 101) C hlk hr (Nat.le_refl _) (Nat.le_refl _) dX12_well_101 h
    replace h := h.2 z11
    by_cases z12 : a2 = 1
    · replace h := h.1 z12
      refine g_tabIn (pc := 44) C dX12_well_44 (by rw [z12]; decide) (by rw [z12]; decide) (off := 58) (by rw [z12]; rfl) (tgt := 102) rfl ?_
      refine g_aload_n (pc := 102) C dX12_well_102 (q := 0) rfl ?_
      obtain ⟨k21, h⟩ := h
      refine gfX12_9 (pc := 103) (w := uI w s1 4 s0) C k9 (isK_ne k21) dX12_well_103 ?_
      refine g_bipush (pc := 106) C dX12_well_106 (v := 37) rfl ?_
      refine g_iload_n (pc := 108) C dX12_well_108 (q := 1) rfl ?_
      refine g_iadd (pc := 109) C dX12_well_109 ?_
      obtain ⟨k22, h⟩ := h
      refine g_iald (pc := 110) (w := uI w s1 4 s0) C k21 k22 dX12_well_110 ?_
      exact g_iret (pc := 111) C hlk hr (Nat.le_refl _) (Nat.le_refl _) dX12_well_111 h
    replace h := h.2 z12
    by_cases z13 : a2 = 2
    · replace h := h.1 z13
      refine g_tabIn (pc := 44) C dX12_well_44 (by rw [z13]; decide) (by rw [z13]; decide) (off := 68) (by rw [z13]; rfl) (tgt := 112) rfl ?_
      refine g_aload_n (pc := 112) C dX12_well_112 (q := 0) rfl ?_
      obtain ⟨k23, h⟩ := h
      refine gfX12_9 (pc := 113) (w := uI w s1 4 s0) C k9 (isK_ne k23) dX12_well_113 ?_
      refine g_iconst (pc := 116) C dX12_well_116 (v := 5) rfl ?_
      refine g_iload_n (pc := 117) C dX12_well_117 (q := 1) rfl ?_
      refine g_iadd (pc := 118) C dX12_well_118 ?_
      obtain ⟨k24, h⟩ := h
      refine g_iald (pc := 119) (w := uI w s1 4 s0) C k23 k24 dX12_well_119 ?_
      exact g_iret (pc := 120) C hlk hr (Nat.le_refl _) (Nat.le_refl _) dX12_well_120 h
    replace h := h.2 z13
    by_cases z14 : a2 = 3
    · replace h := h.1 z14
      refine g_tabIn (pc := 44) C dX12_well_44 (by rw [z14]; decide) (by rw [z14]; decide) (off := 77) (by rw [z14]; rfl) (tgt := 121) rfl ?_
      refine g_aload_n (pc := 121) C dX12_well_121 (q := 0) rfl ?_
      obtain ⟨k25, h⟩ := h
      refine gfX12_9 (pc := 122) (w := uI w s1 4 s0) C k9 (isK_ne k25) dX12_well_122 ?_
      refine g_bipush (pc := 125) C dX12_well_125 (v := 47) rfl ?_
      refine g_iload_n (pc := 127) C dX12_well_127 (q := 1) rfl ?_
      refine g_iadd (pc := 128) C dX12_well_128 ?_
      obtain ⟨k26, h⟩ := h
      refine g_iald (pc := 129) (w := uI w s1 4 s0) C k25 k26 dX12_well_129 ?_
      exact g_iret (pc := 130) C hlk hr (Nat.le_refl _) (Nat.le_refl _) dX12_well_130 h
    replace h := h.2 z14
    by_cases z15 : a2 = 4
    · replace h := h.1 z15
      refine g_tabIn (pc := 44) C dX12_well_44 (by rw [z15]; decide) (by rw [z15]; decide) (off := 87) (by rw [z15]; rfl) (tgt := 131) rfl ?_
      refine g_aload_n (pc := 131) C dX12_well_131 (q := 0) rfl ?_
      obtain ⟨k27, h⟩ := h
      refine gfX12_9 (pc := 132) (w := uI w s1 4 s0) C k9 (isK_ne k27) dX12_well_132 ?_
      refine g_bipush (pc := 135) C dX12_well_135 (v := 15) rfl ?_
      refine g_iload_n (pc := 137) C dX12_well_137 (q := 1) rfl ?_
      refine g_iadd (pc := 138) C dX12_well_138 ?_
      obtain ⟨k28, h⟩ := h
      refine g_iald (pc := 139) (w := uI w s1 4 s0) C k27 k28 dX12_well_139 ?_
      exact g_iret (pc := 140) C hlk hr (Nat.le_refl _) (Nat.le_refl _) dX12_well_140 h
    replace h := h.2 z15
    by_cases z16 : a2 = 5
    · replace h := h.1 z16
      refine g_tabIn (pc := 44) C dX12_well_44 (by rw [z16]; decide) (by rw [z16]; decide) (off := 97) (by rw [z16]; rfl) (tgt := 141) rfl ?_
      refine g_aload_n (pc := 141) C dX12_well_141 (q := 0) rfl ?_
      refine g_iload_n (pc := 142) C dX12_well_142 (q := 1) rfl ?_
      refine g_iconst (pc := 143) C dX12_well_143 (v := 0) rfl ?_
      refine miX12_242 (pc := 144) (w := uI w s1 4 s0) C k9 h (Nat.le_of_ble_eq_true rfl) (Nat.le_of_ble_eq_true rfl) ⟨Nat.le_refl _, Nat.le_refl _⟩ dX12_well_144 (fun r29 w30 h => ?_)
      exact g_iret (pc := 147) C hlk hr (Nat.le_refl _) (Nat.le_refl _) dX12_well_147 h
    replace h := h.2 z16
    by_cases z17 : a2 = 6
    · replace h := h.1 z17
      refine g_tabIn (pc := 44) C dX12_well_44 (by rw [z17]; decide) (by rw [z17]; decide) (off := 104) (by rw [z17]; rfl) (tgt := 148) rfl ?_
      refine g_aload_n (pc := 148) C dX12_well_148 (q := 0) rfl ?_
      refine g_iload_n (pc := 149) C dX12_well_149 (q := 1) rfl ?_
      refine miX12_271 (pc := 150) (w := uI w s1 4 s0) C k9 h (Nat.le_of_ble_eq_true rfl) (Nat.le_of_ble_eq_true rfl) ⟨Nat.le_refl _, Nat.le_refl _⟩ dX12_well_150 (fun r31 w32 h => ?_)
      refine g_if_eq (pc := 153) C dX12_well_153 (tgt := 160) rfl (fun z33 => ?_) (fun z33 => ?_)
      · replace h := h.1 z33
        refine g_iconst (pc := 160) C dX12_well_160 (v := 0) rfl ?_
        exact g_iret (pc := 161) C hlk hr (Nat.le_refl _) (Nat.le_refl _) dX12_well_161 h
      · replace h := h.2 z33
        refine g_iconst (pc := 156) C dX12_well_156 (v := 1) rfl ?_
        refine g_goto (pc := 157) C dX12_well_157 (tgt := 161) rfl ?_
        exact g_iret (pc := 161) C hlk hr (Nat.le_refl _) (Nat.le_refl _) dX12_well_161 h
    replace h := h.2 z17
    by_cases z18 : a2 = 7
    · replace h := h.1 z18
      refine g_tabIn (pc := 44) C dX12_well_44 (by rw [z18]; decide) (by rw [z18]; decide) (off := 118) (by rw [z18]; rfl) (tgt := 162) rfl ?_
      refine g_aload_n (pc := 162) C dX12_well_162 (q := 0) rfl ?_
      obtain ⟨k34, h⟩ := h
      refine gfX12_9 (pc := 163) (w := uI w s1 4 s0) C k9 (isK_ne k34) dX12_well_163 ?_
      refine g_bipush (pc := 166) C dX12_well_166 (v := 25) rfl ?_
      obtain ⟨k35, h⟩ := h
      refine g_iald (pc := 168) (w := uI w s1 4 s0) C k34 k35 dX12_well_168 ?_
      refine g_iload_n (pc := 169) C dX12_well_169 (q := 1) rfl ?_
      refine miX12_268 (pc := 170) (w := uI w s1 4 s0) C h (Nat.le_of_ble_eq_true rfl) (Nat.le_of_ble_eq_true rfl) ⟨Nat.le_refl _, Nat.le_refl _⟩ dX12_well_170 (fun r36 w37 h => ?_)
      refine g_if_eq (pc := 173) C dX12_well_173 (tgt := 180) rfl (fun z38 => ?_) (fun z38 => ?_)
      · replace h := h.1 z38
        refine g_iconst (pc := 180) C dX12_well_180 (v := 0) rfl ?_
        exact g_iret (pc := 181) C hlk hr (Nat.le_refl _) (Nat.le_refl _) dX12_well_181 h
      · replace h := h.2 z38
        refine g_iconst (pc := 176) C dX12_well_176 (v := 1) rfl ?_
        refine g_goto (pc := 177) C dX12_well_177 (tgt := 181) rfl ?_
        exact g_iret (pc := 181) C hlk hr (Nat.le_refl _) (Nat.le_refl _) dX12_well_181 h
    replace h := h.2 z18
    have y41 := ne_toInt (n := 0) z11 (by decide)
    have y42 := ne_toInt (n := 1) z12 (by decide)
    have y43 := ne_toInt (n := 2) z13 (by decide)
    have y44 := ne_toInt (n := 3) z14 (by decide)
    have y45 := ne_toInt (n := 4) z15 (by decide)
    have y46 := ne_toInt (n := 5) z16 (by decide)
    have y47 := ne_toInt (n := 6) z17 (by decide)
    have y48 := ne_toInt (n := 7) z18 (by decide)
    refine g_tabOut (pc := 44) C dX12_well_44 (by omega) (tgt := 182) rfl ?_
    refine g_aload_n (pc := 182) C dX12_well_182 (q := 0) rfl ?_
    obtain ⟨k39, h⟩ := h
    refine gfX12_9 (pc := 183) (w := uI w s1 4 s0) C k9 (isK_ne k39) dX12_well_183 ?_
    refine g_bipush (pc := 186) C dX12_well_186 (v := 57) rfl ?_
    refine g_iload_n (pc := 188) C dX12_well_188 (q := 1) rfl ?_
    refine g_iadd (pc := 189) C dX12_well_189 ?_
    obtain ⟨k40, h⟩ := h
    refine g_iald (pc := 190) (w := uI w s1 4 s0) C k39 k40 dX12_well_190 ?_
    exact g_iret (pc := 191) C hlk hr (Nat.le_refl _) (Nat.le_refl _) dX12_well_191 h
  · replace h := h.2 z10
    refine g_iconst (pc := 41) C dX12_well_41 (v := 0) rfl ?_
    exact g_iret (pc := 42) C hlk hr (Nat.le_refl _) (Nat.le_refl _) dX12_well_42 h
theorem c_X12_well {x : xG} {l : Launch} {a0 : Nat} {a1 : Int32} {a2 : Int32} {K : Int32 → Wd → Prop} {w : Wd} (h : w_X12_well a0 a1 a2 K w) : Met l yX12_well (xws yX12_well cX12_well 3 (some .int)) (rmd 3 0 0) (xPc x [.ref (adr x a0), .int a1, .int a2] w) (QcI x K) 0 0 (xA x) := by
  refine xMet (by decide) (Nat.le_of_ble_eq_true rfl) (fun p e s m below meth c C hlk hr _ => ?_)
  show GW x p l e (rmd 3 0 0) s m [.ref (adr x a0), .int a1, .int a2].toArray below meth c 3 (QI x K below [.ref (adr x a0), .int a1, .int a2].toArray s 0 0) 0 [(0, .ref (adr x a0)), (1, .int a1), (2, .int a2)] [] w 0 0
  refine g_aload_n (pc := 0) C dX12_well_0 (q := 0) rfl ?_
  refine g_aload_n (pc := 1) C dX12_well_1 (q := 0) rfl ?_
  refine g_iload_n (pc := 2) C dX12_well_2 (q := 1) rfl ?_
  refine g_i2l (pc := 3) C dX12_well_3 ?_
  obtain ⟨k1, h⟩ := h
  refine miX12_302 (pc := 4) C k1 h (Nat.le_of_ble_eq_true rfl) (Nat.le_of_ble_eq_true rfl) ⟨Nat.le_refl _, Nat.le_refl _⟩ dX12_well_4 (fun r2 w3 h => ?_)
  refine g_if_ne (pc := 7) C dX12_well_7 (tgt := 14) rfl (fun z4 => ?_) (fun z4 => ?_)
  · replace h := h.2 z4
    refine g_iload_n (pc := 14) C dX12_well_14 (q := 2) rfl ?_
    refine g_i2l (pc := 15) C dX12_well_15 ?_
    refine g_lconst (pc := 16) C dX12_well_16 (v := 0) rfl ?_
    refine g_ldc2 (pc := 17) C LCX12_306 dX12_well_17 ?_
    refine miX12_119 (pc := 20) C h (Nat.le_of_ble_eq_true rfl) (Nat.le_of_ble_eq_true rfl) ⟨Nat.le_refl _, Nat.le_refl _⟩ dX12_well_20 (fun r5 w6 h => ?_)
    refine g_if_eq (pc := 23) C dX12_well_23 (tgt := 30) rfl (fun z7 => ?_) (fun z7 => ?_)
    · replace h := h.1 z7
      refine g_iconst (pc := 30) C dX12_well_30 (v := 2) rfl ?_
      exact t_X12_well_31 C hlk hr  _ _ _ _ _ _ h
    · replace h := h.2 z7
      refine g_iconst (pc := 26) C dX12_well_26 (v := 0) rfl ?_
      refine g_goto (pc := 27) C dX12_well_27 (tgt := 31) rfl ?_
      exact t_X12_well_31 C hlk hr  _ _ _ _ _ _ h
  · replace h := h.1 z4
    refine g_iconst (pc := 10) C dX12_well_10 (v := 1) rfl ?_
    refine g_goto (pc := 11) C dX12_well_11 (tgt := 31) rfl ?_
    exact t_X12_well_31 C hlk hr  _ _ _ _ _ _ h
def l_X12_whose_22  (K : Int32 → Wd → Prop) : Nat → Nat → Int32 → Int32 → Int32 → Wd → Prop
  | 0, _, _, _, _, _ => False
  | n + 1, a0, a1, a2, a3, w => isK w a0 12 ∧ w_X12_wells a0 (fun r7 w8 => ((r7 ≤ a3 → K a2 w8) ∧ (¬ r7 ≤ a3 → isK w8 a0 12 ∧ isK w8 (wR w8 a0 0) 20 ∧ vp_in (27 + a3) (wn w8 (wR w8 a0 0)) ∧ vp_in (37 + a3) (wn w8 (wR w8 a0 0)) ∧ w_X12_phaseIn a0 a3 0 (fun r14 w15 => isK w15 a0 12 ∧ w_X12_fitsSeen a0 a1 (wI w8 (wR w8 a0 0) (27 + a3).toNatClampNeg) (wI w8 (wR w8 a0 0) (37 + a3).toNatClampNeg) r14 (fun r17 w18 => ((r17 = 0 → l_X12_whose_22 K n a0 a1 (a2 ||| 0) (a3 + 1) w18) ∧ (¬ r17 = 0 → l_X12_whose_22 K n a0 a1 (a2 ||| (x_ishl 1 a3)) (a3 + 1) w18))) w15) w8))) w
def w_X12_whose (a0 : Nat) (a1 : Int32) (K : Int32 → Wd → Prop) (w : Wd) : Prop :=
  isK w a0 12 ∧ w_X12_seenFault a0 a1 (fun r2 w3 => isK w3 a0 12 ∧ (((wI (uI w3 a0 4 r2) a0 4) ≤ 0 → ∃ n20, l_X12_whose_22  K n20 a0 a1 0 0 (uI w3 a0 4 r2)) ∧ (¬ (wI (uI w3 a0 4 r2) a0 4) ≤ 0 → K 0 (uI w3 a0 4 r2)))) w
theorem t_X12_whose_22 (C : xC x p s m c cX12_whose 4 args RX12) (hlk : meth.locks = false) (hr : meth.sig.returnType = some .int) {K : Int32 → Wd → Prop}   : ∀ (n : Nat) (a0 : Nat) (a1 : Int32) (a2 : Int32) (a3 : Int32) (w : Wd), l_X12_whose_22 K n a0 a1 a2 a3 w → GW x p l e (rmd 4 0 0) s m args below meth c 4 (QI x K below args s 0 0) 22 [(0, .ref (adr x a0)), (1, .int a1), (2, .int a2), (3, .int a3)] [] w 0 0 := by
  intro n
  induction n with
  | zero => intro _ _ _ _ _ h; exact False.elim h
  | succ n ih =>
    intro a0 a1 a2 a3 w h
    refine g_iload_n (pc := 22) C dX12_whose_22 (q := 3) rfl ?_
    refine g_aload_n (pc := 23) C dX12_whose_23 (q := 0) rfl ?_
    obtain ⟨k6, h⟩ := h
    refine miX12_239 (pc := 24) C k6 h (Nat.le_of_ble_eq_true rfl) (Nat.le_of_ble_eq_true rfl) ⟨Nat.le_refl _, Nat.le_refl _⟩ dX12_whose_24 (fun r7 w8 h => ?_)
    refine g_icmp_ge (pc := 27) C dX12_whose_27 (tgt := 78) rfl (fun z9 => ?_) (fun z9 => ?_)
    · replace h := h.1 z9
      refine g_iload_n (pc := 78) C dX12_whose_78 (q := 2) rfl ?_
      exact g_iret (pc := 79) C hlk hr (Nat.le_refl _) (Nat.le_refl _) dX12_whose_79 h
    · replace h := h.2 z9
      refine g_iload_n (pc := 30) C dX12_whose_30 (q := 2) rfl ?_
      refine g_aload_n (pc := 31) C dX12_whose_31 (q := 0) rfl ?_
      refine g_iload_n (pc := 32) C dX12_whose_32 (q := 1) rfl ?_
      refine g_aload_n (pc := 33) C dX12_whose_33 (q := 0) rfl ?_
      obtain ⟨k10, h⟩ := h
      obtain ⟨k11, h⟩ := h
      refine gfX12_9 (pc := 34) C k10 (isK_ne k11) dX12_whose_34 ?_
      refine g_bipush (pc := 37) C dX12_whose_37 (v := 27) rfl ?_
      refine g_iload_n (pc := 39) C dX12_whose_39 (q := 3) rfl ?_
      refine g_iadd (pc := 40) C dX12_whose_40 ?_
      obtain ⟨k12, h⟩ := h
      refine g_iald (pc := 41) C k11 k12 dX12_whose_41 ?_
      refine g_aload_n (pc := 42) C dX12_whose_42 (q := 0) rfl ?_
      refine gfX12_9 (pc := 43) C k10 (isK_ne k11) dX12_whose_43 ?_
      refine g_bipush (pc := 46) C dX12_whose_46 (v := 37) rfl ?_
      refine g_iload_n (pc := 48) C dX12_whose_48 (q := 3) rfl ?_
      refine g_iadd (pc := 49) C dX12_whose_49 ?_
      obtain ⟨k13, h⟩ := h
      refine g_iald (pc := 50) C k11 k13 dX12_whose_50 ?_
      refine g_aload_n (pc := 51) C dX12_whose_51 (q := 0) rfl ?_
      refine g_iload_n (pc := 52) C dX12_whose_52 (q := 3) rfl ?_
      refine g_iconst (pc := 53) C dX12_whose_53 (v := 0) rfl ?_
      refine miX12_242 (pc := 54) C k10 h (Nat.le_of_ble_eq_true rfl) (Nat.le_of_ble_eq_true rfl) ⟨Nat.le_refl _, Nat.le_refl _⟩ dX12_whose_54 (fun r14 w15 h => ?_)
      obtain ⟨k16, h⟩ := h
      refine miX12_453 (pc := 57) C k16 h (Nat.le_of_ble_eq_true rfl) (Nat.le_of_ble_eq_true rfl) ⟨Nat.le_refl _, Nat.le_refl _⟩ dX12_whose_57 (fun r17 w18 h => ?_)
      refine g_if_eq (pc := 60) C dX12_whose_60 (tgt := 69) rfl (fun z19 => ?_) (fun z19 => ?_)
      · replace h := h.1 z19
        refine g_iconst (pc := 69) C dX12_whose_69 (v := 0) rfl ?_
        refine g_ior (pc := 70) C dX12_whose_70 ?_
        refine g_istore_n (pc := 71) C dX12_whose_71 (Nat.le_of_ble_eq_true rfl) (lo' := [(2, .int (a2 ||| 0)), (0, .ref (adr x a0)), (1, .int a1), (3, .int a3)]) rfl ?_
        refine g_iinc (pc := 72) C dX12_whose_72 (q := 3) rfl (v2 := a3 + 1) rfl (Nat.le_of_ble_eq_true rfl) (lo' := [(3, .int (a3 + 1)), (2, .int (a2 ||| 0)), (0, .ref (adr x a0)), (1, .int a1)]) rfl ?_
        refine g_goto (pc := 75) C dX12_whose_75 (tgt := 22) rfl ?_
        refine g_sub [2, 3, 1, 0] rfl ?_
        exact ih _ _ _ _ _ h
      · replace h := h.2 z19
        refine g_iconst (pc := 63) C dX12_whose_63 (v := 1) rfl ?_
        refine g_iload_n (pc := 64) C dX12_whose_64 (q := 3) rfl ?_
        refine h_ishl (pc := 65) C dX12_whose_65 ?_
        refine g_goto (pc := 66) C dX12_whose_66 (tgt := 70) rfl ?_
        refine g_ior (pc := 70) C dX12_whose_70 ?_
        refine g_istore_n (pc := 71) C dX12_whose_71 (Nat.le_of_ble_eq_true rfl) (lo' := [(2, .int (a2 ||| (x_ishl 1 a3))), (0, .ref (adr x a0)), (1, .int a1), (3, .int a3)]) rfl ?_
        refine g_iinc (pc := 72) C dX12_whose_72 (q := 3) rfl (v2 := a3 + 1) rfl (Nat.le_of_ble_eq_true rfl) (lo' := [(3, .int (a3 + 1)), (2, .int (a2 ||| (x_ishl 1 a3))), (0, .ref (adr x a0)), (1, .int a1)]) rfl ?_
        refine g_goto (pc := 75) C dX12_whose_75 (tgt := 22) rfl ?_
        refine g_sub [2, 3, 1, 0] rfl ?_
        exact ih _ _ _ _ _ h
theorem c_X12_whose {x : xG} {l : Launch} {a0 : Nat} {a1 : Int32} {K : Int32 → Wd → Prop} {w : Wd} (h : w_X12_whose a0 a1 K w) : Met l yX12_whose (xws yX12_whose cX12_whose 4 (some .int)) (rmd 4 0 0) (xPc x [.ref (adr x a0), .int a1] w) (QcI x K) 0 0 (xA x) := by
  refine xMet (by decide) (Nat.le_of_ble_eq_true rfl) (fun p e s m below meth c C hlk hr _ => ?_)
  show GW x p l e (rmd 4 0 0) s m [.ref (adr x a0), .int a1].toArray below meth c 4 (QI x K below [.ref (adr x a0), .int a1].toArray s 0 0) 0 [(0, .ref (adr x a0)), (1, .int a1)] [] w 0 0
  refine g_aload_n (pc := 0) C dX12_whose_0 (q := 0) rfl ?_
  refine g_aload_n (pc := 1) C dX12_whose_1 (q := 0) rfl ?_
  refine g_iload_n (pc := 2) C dX12_whose_2 (q := 1) rfl ?_
  obtain ⟨k1, h⟩ := h
  refine miX12_457 (pc := 3) C k1 h (Nat.le_of_ble_eq_true rfl) (Nat.le_of_ble_eq_true rfl) ⟨Nat.le_refl _, Nat.le_refl _⟩ dX12_whose_3 (fun r2 w3 h => ?_)
  obtain ⟨k4, h⟩ := h
  refine pfX12_58 (pc := 6) C k4 dX12_whose_6 ?_
  refine g_aload_n (pc := 9) C dX12_whose_9 (q := 0) rfl ?_
  refine gfX12_58 (pc := 10) (w := uI w3 a0 4 r2) C k4 dX12_whose_10 ?_
  refine g_if_le (pc := 13) C dX12_whose_13 (tgt := 18) rfl (fun z5 => ?_) (fun z5 => ?_)
  · replace h := h.1 z5
    refine g_iconst (pc := 18) C dX12_whose_18 (v := 0) rfl ?_
    refine g_istore_n (pc := 19) C dX12_whose_19 (Nat.le_of_ble_eq_true rfl) (lo' := [(2, .int 0), (0, .ref (adr x a0)), (1, .int a1)]) rfl ?_
    refine g_iconst (pc := 20) C dX12_whose_20 (v := 0) rfl ?_
    refine g_istore_n (pc := 21) C dX12_whose_21 (Nat.le_of_ble_eq_true rfl) (lo' := [(3, .int 0), (2, .int 0), (0, .ref (adr x a0)), (1, .int a1)]) rfl ?_
    obtain ⟨n20, h⟩ := h
    refine g_sub [2, 3, 1, 0] rfl ?_
    refine t_X12_whose_22 C hlk hr n20 _ _ _ _ _ h
  · replace h := h.2 z5
    refine g_iconst (pc := 16) C dX12_whose_16 (v := 0) rfl ?_
    exact g_iret (pc := 17) C hlk hr (Nat.le_refl _) (Nat.le_refl _) dX12_whose_17 h
def l_X12_withAwake_35  (K : Int32 → Wd → Prop) : Nat → Nat → Int32 → Int32 → Int32 → Int32 → Wd → Prop
  | 0, _, _, _, _, _, _ => False
  | n + 1, a0, a1, a2, a3, a4, w => ((a2 ≤ a4 → K a3 w) ∧ (¬ a2 ≤ a4 → isK w a0 12 ∧ w_X12_upIn a0 a4 (fun r12 w13 => w_X12_size r12 (fun r14 w15 => ((r14 = a1 → l_X12_withAwake_35 K n a0 a1 a2 (a3 + 1) (a4 + 1) w15) ∧ (¬ r14 = a1 → l_X12_withAwake_35 K n a0 a1 a2 (a3 + 0) (a4 + 1) w15))) w13) w))
def w_X12_withAwake (a0 : Nat) (a1 : Int32) (K : Int32 → Wd → Prop) (w : Wd) : Prop :=
  isK w a0 12 ∧ w_X12_wells a0 (fun r2 w3 => w_X12_within a1.toInt64 0 r2.toInt64 (fun r4 w5 => ((r4 = 0 → isK w5 a0 12 ∧ w_X12_fails a0 1 (fun r19 w20 => K r19 w20) w5) ∧ (¬ r4 = 0 → isK w5 a0 12 ∧ w_X12_jointOf a0 (fun r8 w9 => ∃ n17, l_X12_withAwake_35  K n17 a0 a1 r8 0 0 w9) w5))) w3) (uI w a0 4 0)
theorem t_X12_withAwake_35 (C : xC x p s m c cX12_withAwake 5 args RX12) (hlk : meth.locks = false) (hr : meth.sig.returnType = some .int) {K : Int32 → Wd → Prop}   : ∀ (n : Nat) (a0 : Nat) (a1 : Int32) (a2 : Int32) (a3 : Int32) (a4 : Int32) (w : Wd), l_X12_withAwake_35 K n a0 a1 a2 a3 a4 w → GW x p l e (rmd 102 0 0) s m args below meth c 5 (QI x K below args s 0 0) 35 [(0, .ref (adr x a0)), (1, .int a1), (2, .int a2), (3, .int a3), (4, .int a4)] [] w 0 0 := by
  intro n
  induction n with
  | zero => intro _ _ _ _ _ _ h; exact False.elim h
  | succ n ih =>
    intro a0 a1 a2 a3 a4 w h
    refine g_iload (pc := 35) C dX12_withAwake_35 (q := 4) rfl ?_
    refine g_iload_n (pc := 37) C dX12_withAwake_37 (q := 2) rfl ?_
    refine g_icmp_ge (pc := 38) C dX12_withAwake_38 (tgt := 68) rfl (fun z10 => ?_) (fun z10 => ?_)
    · replace h := h.1 z10
      refine g_iload_n (pc := 68) C dX12_withAwake_68 (q := 3) rfl ?_
      exact g_iret (pc := 69) C hlk hr (Nat.le_refl _) (Nat.le_refl _) dX12_withAwake_69 h
    · replace h := h.2 z10
      refine g_iload_n (pc := 41) C dX12_withAwake_41 (q := 3) rfl ?_
      refine g_aload_n (pc := 42) C dX12_withAwake_42 (q := 0) rfl ?_
      refine g_iload (pc := 43) C dX12_withAwake_43 (q := 4) rfl ?_
      obtain ⟨k11, h⟩ := h
      refine miX12_294 (pc := 45) C k11 h (Nat.le_of_ble_eq_true rfl) (Nat.le_of_ble_eq_true rfl) ⟨Nat.le_refl _, Nat.le_refl _⟩ dX12_withAwake_45 (fun r12 w13 h => ?_)
      refine miX12_265 (pc := 48) C h (Nat.le_of_ble_eq_true rfl) (Nat.le_of_ble_eq_true rfl) ⟨Nat.le_refl _, Nat.le_refl _⟩ dX12_withAwake_48 (fun r14 w15 h => ?_)
      refine g_iload_n (pc := 51) C dX12_withAwake_51 (q := 1) rfl ?_
      refine g_icmp_ne (pc := 52) C dX12_withAwake_52 (tgt := 59) rfl (fun z16 => ?_) (fun z16 => ?_)
      · replace h := h.2 z16
        refine g_iconst (pc := 59) C dX12_withAwake_59 (v := 0) rfl ?_
        refine g_iadd (pc := 60) C dX12_withAwake_60 ?_
        refine g_istore_n (pc := 61) C dX12_withAwake_61 (Nat.le_of_ble_eq_true rfl) (lo' := [(3, .int (a3 + 0)), (0, .ref (adr x a0)), (1, .int a1), (2, .int a2), (4, .int a4)]) rfl ?_
        refine g_iinc (pc := 62) C dX12_withAwake_62 (q := 4) rfl (v2 := a4 + 1) rfl (Nat.le_of_ble_eq_true rfl) (lo' := [(4, .int (a4 + 1)), (3, .int (a3 + 0)), (0, .ref (adr x a0)), (1, .int a1), (2, .int a2)]) rfl ?_
        refine g_goto (pc := 65) C dX12_withAwake_65 (tgt := 35) rfl ?_
        refine g_sub [2, 3, 4, 1, 0] rfl ?_
        exact ih _ _ _ _ _ _ h
      · replace h := h.1 z16
        refine g_iconst (pc := 55) C dX12_withAwake_55 (v := 1) rfl ?_
        refine g_goto (pc := 56) C dX12_withAwake_56 (tgt := 60) rfl ?_
        refine g_iadd (pc := 60) C dX12_withAwake_60 ?_
        refine g_istore_n (pc := 61) C dX12_withAwake_61 (Nat.le_of_ble_eq_true rfl) (lo' := [(3, .int (a3 + 1)), (0, .ref (adr x a0)), (1, .int a1), (2, .int a2), (4, .int a4)]) rfl ?_
        refine g_iinc (pc := 62) C dX12_withAwake_62 (q := 4) rfl (v2 := a4 + 1) rfl (Nat.le_of_ble_eq_true rfl) (lo' := [(4, .int (a4 + 1)), (3, .int (a3 + 1)), (0, .ref (adr x a0)), (1, .int a1), (2, .int a2)]) rfl ?_
        refine g_goto (pc := 65) C dX12_withAwake_65 (tgt := 35) rfl ?_
        refine g_sub [2, 3, 4, 1, 0] rfl ?_
        exact ih _ _ _ _ _ _ h
theorem c_X12_withAwake {x : xG} {l : Launch} {a0 : Nat} {a1 : Int32} {K : Int32 → Wd → Prop} {w : Wd} (h : w_X12_withAwake a0 a1 K w) : Met l yX12_withAwake (xws yX12_withAwake cX12_withAwake 5 (some .int)) (rmd 102 0 0) (xPc x [.ref (adr x a0), .int a1] w) (QcI x K) 0 0 (xA x) := by
  refine xMet (by decide) (Nat.le_of_ble_eq_true rfl) (fun p e s m below meth c C hlk hr _ => ?_)
  show GW x p l e (rmd 102 0 0) s m [.ref (adr x a0), .int a1].toArray below meth c 5 (QI x K below [.ref (adr x a0), .int a1].toArray s 0 0) 0 [(0, .ref (adr x a0)), (1, .int a1)] [] w 0 0
  refine g_aload_n (pc := 0) C dX12_withAwake_0 (q := 0) rfl ?_
  refine g_iconst (pc := 1) C dX12_withAwake_1 (v := 0) rfl ?_
  obtain ⟨k1, h⟩ := h
  refine pfX12_58 (pc := 2) C k1 dX12_withAwake_2 ?_
  refine g_iload_n (pc := 5) C dX12_withAwake_5 (q := 1) rfl ?_
  refine g_i2l (pc := 6) C dX12_withAwake_6 ?_
  refine g_lconst (pc := 7) C dX12_withAwake_7 (v := 0) rfl ?_
  refine g_aload_n (pc := 8) C dX12_withAwake_8 (q := 0) rfl ?_
  refine miX12_239 (pc := 9) (w := uI w a0 4 0) C k1 h (Nat.le_of_ble_eq_true rfl) (Nat.le_of_ble_eq_true rfl) ⟨Nat.le_refl _, Nat.le_refl _⟩ dX12_withAwake_9 (fun r2 w3 h => ?_)
  refine g_i2l (pc := 12) C dX12_withAwake_12 ?_
  refine miX12_119 (pc := 13) C h (Nat.le_of_ble_eq_true rfl) (Nat.le_of_ble_eq_true rfl) ⟨Nat.le_refl _, Nat.le_refl _⟩ dX12_withAwake_13 (fun r4 w5 h => ?_)
  refine g_if_ne (pc := 16) C dX12_withAwake_16 (tgt := 25) rfl (fun z6 => ?_) (fun z6 => ?_)
  · replace h := h.2 z6
    refine g_aload_n (pc := 25) C dX12_withAwake_25 (q := 0) rfl ?_
    obtain ⟨k7, h⟩ := h
    refine miX12_399 (pc := 26) C k7 h (Nat.le_of_ble_eq_true rfl) (Nat.le_of_ble_eq_true rfl) ⟨Nat.le_refl _, Nat.le_refl _⟩ dX12_withAwake_26 (fun r8 w9 h => ?_)
    refine g_istore_n (pc := 29) C dX12_withAwake_29 (Nat.le_of_ble_eq_true rfl) (lo' := [(2, .int r8), (0, .ref (adr x a0)), (1, .int a1)]) rfl ?_
    refine g_iconst (pc := 30) C dX12_withAwake_30 (v := 0) rfl ?_
    refine g_istore_n (pc := 31) C dX12_withAwake_31 (Nat.le_of_ble_eq_true rfl) (lo' := [(3, .int 0), (2, .int r8), (0, .ref (adr x a0)), (1, .int a1)]) rfl ?_
    refine g_iconst (pc := 32) C dX12_withAwake_32 (v := 0) rfl ?_
    refine g_istore (pc := 33) C dX12_withAwake_33 (Nat.le_of_ble_eq_true rfl) (lo' := [(4, .int 0), (3, .int 0), (2, .int r8), (0, .ref (adr x a0)), (1, .int a1)]) rfl ?_
    obtain ⟨n17, h⟩ := h
    refine g_sub [3, 4, 2, 1, 0] rfl ?_
    refine t_X12_withAwake_35 C hlk hr n17 _ _ _ _ _ _ h
  · replace h := h.1 z6
    refine g_aload_n (pc := 19) C dX12_withAwake_19 (q := 0) rfl ?_
    refine g_iconst (pc := 20) C dX12_withAwake_20 (v := 1) rfl ?_
    obtain ⟨k18, h⟩ := h
    refine miX12_230 (pc := 21) C k18 h (Nat.le_of_ble_eq_true rfl) (Nat.le_of_ble_eq_true rfl) ⟨Nat.le_refl _, Nat.le_refl _⟩ dX12_withAwake_21 (fun r19 w20 h => ?_)
    exact g_iret (pc := 24) C hlk hr (Nat.le_refl _) (Nat.le_refl _) dX12_withAwake_24 h
def w_X12_write (a0 : Nat) (a1 : Int32) (a2 : Int32) (a3 : Int64) (K : Int64 → Wd → Prop) (w : Wd) : Prop :=
  isK w a0 12 ∧ w_X12_trayFault a0 a1 (fun r2 w3 => isK w3 a0 12 ∧ (((wI (uI w3 a0 4 r2) a0 4) ≤ 0 → isK w3 (wR w3 a0 27) 20 ∧ vp_in a1 (wn w3 (wR w3 a0 27)) ∧ w_X12_within a2.toInt64 0 (((wI (uI w3 a0 4 r2) (wR w3 a0 27) a1.toNatClampNeg) - 1).toInt64) (fun r8 w9 => ((r8 = 0 → isK w9 a0 12 ∧ w_X12_fails a0 3 (fun r12 w13 => K r12.toInt64 w13) w9) ∧ (¬ r8 = 0 → isK w9 a0 12 ∧ w_X12_cut a0 a1 a2 a3 (fun r15 w16 => K r15 w16) w9))) (uI w3 a0 4 r2)) ∧ (¬ (wI (uI w3 a0 4 r2) a0 4) ≤ 0 → K 0 (uI w3 a0 4 r2)))) w
theorem c_X12_write {x : xG} {l : Launch} {a0 : Nat} {a1 : Int32} {a2 : Int32} {a3 : Int64} {K : Int64 → Wd → Prop} {w : Wd} (h : w_X12_write a0 a1 a2 a3 K w) : Met l yX12_write (xws yX12_write cX12_write 5 (some .long)) (rmd 3 0 0) (xPc x [.ref (adr x a0), .int a1, .int a2, .long a3] w) (QcL x K) 0 0 (xA x) := by
  refine xMet (by decide) (Nat.le_of_ble_eq_true rfl) (fun p e s m below meth c C hlk hr _ => ?_)
  show GW x p l e (rmd 3 0 0) s m [.ref (adr x a0), .int a1, .int a2, .long a3].toArray below meth c 5 (QL x K below [.ref (adr x a0), .int a1, .int a2, .long a3].toArray s 0 0) 0 [(0, .ref (adr x a0)), (1, .int a1), (2, .int a2), (3, .long a3)] [] w 0 0
  refine g_aload_n (pc := 0) C dX12_write_0 (q := 0) rfl ?_
  refine g_aload_n (pc := 1) C dX12_write_1 (q := 0) rfl ?_
  refine g_iload_n (pc := 2) C dX12_write_2 (q := 1) rfl ?_
  obtain ⟨k1, h⟩ := h
  refine miX12_370 (pc := 3) C k1 h (Nat.le_of_ble_eq_true rfl) (Nat.le_of_ble_eq_true rfl) ⟨Nat.le_refl _, Nat.le_refl _⟩ dX12_write_3 (fun r2 w3 h => ?_)
  obtain ⟨k4, h⟩ := h
  refine pfX12_58 (pc := 6) C k4 dX12_write_6 ?_
  refine g_aload_n (pc := 9) C dX12_write_9 (q := 0) rfl ?_
  refine gfX12_58 (pc := 10) (w := uI w3 a0 4 r2) C k4 dX12_write_10 ?_
  refine g_if_le (pc := 13) C dX12_write_13 (tgt := 18) rfl (fun z5 => ?_) (fun z5 => ?_)
  · replace h := h.1 z5
    refine g_iload_n (pc := 18) C dX12_write_18 (q := 2) rfl ?_
    refine g_i2l (pc := 19) C dX12_write_19 ?_
    refine g_lconst (pc := 20) C dX12_write_20 (v := 0) rfl ?_
    refine g_aload_n (pc := 21) C dX12_write_21 (q := 0) rfl ?_
    obtain ⟨k6, h⟩ := h
    refine gfX12_52 (pc := 22) (w := uI w3 a0 4 r2) C k4 (isK_ne k6) dX12_write_22 ?_
    refine g_iload_n (pc := 25) C dX12_write_25 (q := 1) rfl ?_
    obtain ⟨k7, h⟩ := h
    refine g_iald (pc := 26) (w := uI w3 a0 4 r2) C k6 k7 dX12_write_26 ?_
    refine g_iconst (pc := 27) C dX12_write_27 (v := 1) rfl ?_
    refine g_isub (pc := 28) C dX12_write_28 ?_
    refine g_i2l (pc := 29) C dX12_write_29 ?_
    refine miX12_119 (pc := 30) (w := uI w3 a0 4 r2) C h (Nat.le_of_ble_eq_true rfl) (Nat.le_of_ble_eq_true rfl) ⟨Nat.le_refl _, Nat.le_refl _⟩ dX12_write_30 (fun r8 w9 h => ?_)
    refine g_if_eq (pc := 33) C dX12_write_33 (tgt := 46) rfl (fun z10 => ?_) (fun z10 => ?_)
    · replace h := h.1 z10
      refine g_aload_n (pc := 46) C dX12_write_46 (q := 0) rfl ?_
      refine g_iconst (pc := 47) C dX12_write_47 (v := 3) rfl ?_
      obtain ⟨k11, h⟩ := h
      refine miX12_230 (pc := 48) C k11 h (Nat.le_of_ble_eq_true rfl) (Nat.le_of_ble_eq_true rfl) ⟨Nat.le_refl _, Nat.le_refl _⟩ dX12_write_48 (fun r12 w13 h => ?_)
      refine g_i2l (pc := 51) C dX12_write_51 ?_
      exact g_lret (pc := 52) C hlk hr (Nat.le_refl _) (Nat.le_refl _) dX12_write_52 h
    · replace h := h.2 z10
      refine g_aload_n (pc := 36) C dX12_write_36 (q := 0) rfl ?_
      refine g_iload_n (pc := 37) C dX12_write_37 (q := 1) rfl ?_
      refine g_iload_n (pc := 38) C dX12_write_38 (q := 2) rfl ?_
      refine g_lload_n (pc := 39) C dX12_write_39 (q := 3) rfl ?_
      obtain ⟨k14, h⟩ := h
      refine miX12_463 (pc := 40) C k14 h (Nat.le_of_ble_eq_true rfl) (Nat.le_of_ble_eq_true rfl) ⟨Nat.le_refl _, Nat.le_refl _⟩ dX12_write_40 (fun r15 w16 h => ?_)
      refine g_goto (pc := 43) C dX12_write_43 (tgt := 52) rfl ?_
      exact g_lret (pc := 52) C hlk hr (Nat.le_refl _) (Nat.le_refl _) dX12_write_52 h
  · replace h := h.2 z5
    refine g_lconst (pc := 16) C dX12_write_16 (v := 0) rfl ?_
    exact g_lret (pc := 17) C hlk hr (Nat.le_refl _) (Nat.le_refl _) dX12_write_17 h
theorem miX12_417 (C : xC x p s m c cc nL args RX12) {a0 : Nat} {a1 : Int32} {K : Int32 → Wd → Prop} {D MC MS : Nat} (hq : isK w a0 12) (h : w_X12_reachedBy a0 a1 K w) (hD : 4 + 1 ≤ D) (hW : (st.map fun v => v.category).sum ≤ 8) (hij : i ≤ MC ∧ j ≤ MS) (hd : decode cc pc = .ok (.invokevirtual 417, 3)) (k : ∀ (r : Int32) (u : Wd), K r u → GW x p l e (rmd D MC MS) s m args below meth c nL Q (pc + 3) lo (.int r :: st) u i j) : GW x p l e (rmd D MC MS) s m args below meth c nL Q pc lo (.int a1 :: .ref (adr x a0) :: st) w i j := g_callVi0 C (As := [.int a1]) (ci := 12) (c_X12_reachedBy h) (x_cwV C 1 LMX12_417 ⟨rfl, by decide, by decide, rfl⟩ hD (by decide)) rfl hq (by decide) rfl rfl hW hd hij k
def l_X12_yawns_66 (E111 : Nat → Int32 → Int32 → Int32 → Wd → Prop) (K : Int32 → Wd → Prop) : Nat → Nat → Int32 → Int32 → Int32 → Int32 → Int32 → Wd → Prop
  | 0, _, _, _, _, _, _, _ => False
  | n + 1, a0, a1, a2, a3, a4, a5, w => isK w a0 12 ∧ w_X12_wells a0 (fun r14 w15 => ((r14 ≤ a5 → E111 a0 a1 a3 a4 w15) ∧ (¬ r14 ≤ a5 → ((a5 = a1 → l_X12_yawns_66 E111 K n a0 a1 a2 a3 (a4 ||| 0) (a5 + 1) w15) ∧ (¬ a5 = a1 → isK w15 a0 12 ∧ w_X12_isWoken a0 a1 a5 a2 (fun r19 w20 => ((r19 = 0 → l_X12_yawns_66 E111 K n a0 a1 a2 a3 (a4 ||| 0) (a5 + 1) w20) ∧ (¬ r19 = 0 → l_X12_yawns_66 E111 K n a0 a1 a2 a3 (a4 ||| (x_ishl 1 a5)) (a5 + 1) w20))) w15))))) w
def l_X12_yawns_114  (K : Int32 → Wd → Prop) : Nat → Nat → Int32 → Int32 → Int32 → Int32 → Wd → Prop
  | 0, _, _, _, _, _, _ => False
  | n + 1, a0, a1, a3, a4, a5, w => w_X12_has a4 a3 (fun r27 w28 => ((r27 = 0 → isK w28 a0 12 ∧ w_X12_reachedBy a0 a4 (fun r31 w32 => l_X12_yawns_114 K n a0 a1 a3 (a4 ||| (r31 &&& ((x_ishl 1 a1) ^^^ (-1)))) (a5 + 1) w32) w28) ∧ (¬ r27 = 0 → K a5 w28))) w
def j_X12_yawns_35  (K : Int32 → Wd → Prop) (a0 : Nat) (a1 : Int32) (a2 : Int32) (a3 : Int32) (s0 : Int32) (s1 : Nat) (w : Wd) : Prop :=
  isK w s1 12 ∧ isK w a0 12 ∧ ((0 < (wI (uI w s1 4 s0) a0 4) → K 0 (uI w s1 4 s0)) ∧ (¬ 0 < (wI (uI w s1 4 s0) a0 4) → w_X12_chainOf a0 a1 a2 (fun r8 w9 => w_X12_has r8 a3 (fun r10 w11 => ((r10 = 0 → K 0 w11) ∧ (¬ r10 = 0 → ∃ n34, l_X12_yawns_66 (fun b22 b23 b24 b25 w26 => ∃ n33, l_X12_yawns_114  K n33 b22 b23 b24 b25 1 w26) K n34 a0 a1 a2 a3 0 0 w11))) w9) (uI w s1 4 s0)))
def w_X12_yawns (a0 : Nat) (a1 : Int32) (a2 : Int32) (a3 : Int32) (K : Int32 → Wd → Prop) (w : Wd) : Prop :=
  isK w a0 12 ∧ w_X12_isWell a0 a1.toInt64 (fun r2 w3 => ((r2 = 0 → j_X12_yawns_35 K a0 a1 a2 a3 1 a0 w3) ∧ (¬ r2 = 0 → isK w3 a0 12 ∧ w_X12_isWell a0 a3.toInt64 (fun r36 w37 => ((r36 = 0 → j_X12_yawns_35 K a0 a1 a2 a3 1 a0 w37) ∧ (¬ r36 = 0 → w_X12_isNoise a2 (fun r39 w40 => ((r39 = 0 → j_X12_yawns_35 K a0 a1 a2 a3 2 a0 w40) ∧ (¬ r39 = 0 → j_X12_yawns_35 K a0 a1 a2 a3 0 a0 w40))) w37))) w3))) w
theorem t_X12_yawns_66 (C : xC x p s m c cX12_yawns 6 args RX12) (hlk : meth.locks = false) (hr : meth.sig.returnType = some .int) {K : Int32 → Wd → Prop} {E111 : Nat → Int32 → Int32 → Int32 → Wd → Prop} (hE111 : ∀ (b0 : Nat) (b1 : Int32) (b3 : Int32) (b4 : Int32) (w : Wd), E111 b0 b1 b3 b4 w → GW x p l e (rmd 6 0 0) s m args below meth c 6 (QI x K below args s 0 0) 111 [(0, .ref (adr x b0)), (1, .int b1), (3, .int b3), (4, .int b4)] [] w 0 0) : ∀ (n : Nat) (a0 : Nat) (a1 : Int32) (a2 : Int32) (a3 : Int32) (a4 : Int32) (a5 : Int32) (w : Wd), l_X12_yawns_66 E111 K n a0 a1 a2 a3 a4 a5 w → GW x p l e (rmd 6 0 0) s m args below meth c 6 (QI x K below args s 0 0) 66 [(0, .ref (adr x a0)), (1, .int a1), (2, .int a2), (3, .int a3), (4, .int a4), (5, .int a5)] [] w 0 0 := by
  intro n
  induction n with
  | zero => intro _ _ _ _ _ _ _ h; exact False.elim h
  | succ n ih =>
    intro a0 a1 a2 a3 a4 a5 w h
    refine g_iload (pc := 66) C dX12_yawns_66 (q := 5) rfl ?_
    refine g_aload_n (pc := 68) C dX12_yawns_68 (q := 0) rfl ?_
    obtain ⟨k13, h⟩ := h
    refine miX12_239 (pc := 69) C k13 h (Nat.le_of_ble_eq_true rfl) (Nat.le_of_ble_eq_true rfl) ⟨Nat.le_refl _, Nat.le_refl _⟩ dX12_yawns_69 (fun r14 w15 h => ?_)
    refine g_icmp_ge (pc := 72) C dX12_yawns_72 (tgt := 111) rfl (fun z16 => ?_) (fun z16 => ?_)
    · replace h := h.1 z16
      refine g_sub [0, 1, 3, 4] rfl ?_
      exact hE111 _ _ _ _ _ h
    · replace h := h.2 z16
      refine g_iload (pc := 75) C dX12_yawns_75 (q := 4) rfl ?_
      refine g_iload (pc := 77) C dX12_yawns_77 (q := 5) rfl ?_
      refine g_iload_n (pc := 79) C dX12_yawns_79 (q := 1) rfl ?_
      refine g_icmp_eq (pc := 80) C dX12_yawns_80 (tgt := 101) rfl (fun z17 => ?_) (fun z17 => ?_)
      · replace h := h.1 z17
        refine g_iconst (pc := 101) C dX12_yawns_101 (v := 0) rfl ?_
        refine g_ior (pc := 102) C dX12_yawns_102 ?_
        refine g_istore (pc := 103) C dX12_yawns_103 (Nat.le_of_ble_eq_true rfl) (lo' := [(4, .int (a4 ||| 0)), (0, .ref (adr x a0)), (1, .int a1), (2, .int a2), (3, .int a3), (5, .int a5)]) rfl ?_
        refine g_iinc (pc := 105) C dX12_yawns_105 (q := 5) rfl (v2 := a5 + 1) rfl (Nat.le_of_ble_eq_true rfl) (lo' := [(5, .int (a5 + 1)), (4, .int (a4 ||| 0)), (0, .ref (adr x a0)), (1, .int a1), (2, .int a2), (3, .int a3)]) rfl ?_
        refine g_goto (pc := 108) C dX12_yawns_108 (tgt := 66) rfl ?_
        refine g_sub [2, 3, 4, 5, 1, 0] rfl ?_
        exact ih _ _ _ _ _ _ _ h
      · replace h := h.2 z17
        refine g_aload_n (pc := 83) C dX12_yawns_83 (q := 0) rfl ?_
        refine g_iload_n (pc := 84) C dX12_yawns_84 (q := 1) rfl ?_
        refine g_iload (pc := 85) C dX12_yawns_85 (q := 5) rfl ?_
        refine g_iload_n (pc := 87) C dX12_yawns_87 (q := 2) rfl ?_
        obtain ⟨k18, h⟩ := h
        refine miX12_282 (pc := 88) C k18 h (Nat.le_of_ble_eq_true rfl) (Nat.le_of_ble_eq_true rfl) ⟨Nat.le_refl _, Nat.le_refl _⟩ dX12_yawns_88 (fun r19 w20 h => ?_)
        refine g_if_eq (pc := 91) C dX12_yawns_91 (tgt := 101) rfl (fun z21 => ?_) (fun z21 => ?_)
        · replace h := h.1 z21
          refine g_iconst (pc := 101) C dX12_yawns_101 (v := 0) rfl ?_
          refine g_ior (pc := 102) C dX12_yawns_102 ?_
          refine g_istore (pc := 103) C dX12_yawns_103 (Nat.le_of_ble_eq_true rfl) (lo' := [(4, .int (a4 ||| 0)), (0, .ref (adr x a0)), (1, .int a1), (2, .int a2), (3, .int a3), (5, .int a5)]) rfl ?_
          refine g_iinc (pc := 105) C dX12_yawns_105 (q := 5) rfl (v2 := a5 + 1) rfl (Nat.le_of_ble_eq_true rfl) (lo' := [(5, .int (a5 + 1)), (4, .int (a4 ||| 0)), (0, .ref (adr x a0)), (1, .int a1), (2, .int a2), (3, .int a3)]) rfl ?_
          refine g_goto (pc := 108) C dX12_yawns_108 (tgt := 66) rfl ?_
          refine g_sub [2, 3, 4, 5, 1, 0] rfl ?_
          exact ih _ _ _ _ _ _ _ h
        · replace h := h.2 z21
          refine g_iconst (pc := 94) C dX12_yawns_94 (v := 1) rfl ?_
          refine g_iload (pc := 95) C dX12_yawns_95 (q := 5) rfl ?_
          refine h_ishl (pc := 97) C dX12_yawns_97 ?_
          refine g_goto (pc := 98) C dX12_yawns_98 (tgt := 102) rfl ?_
          refine g_ior (pc := 102) C dX12_yawns_102 ?_
          refine g_istore (pc := 103) C dX12_yawns_103 (Nat.le_of_ble_eq_true rfl) (lo' := [(4, .int (a4 ||| (x_ishl 1 a5))), (0, .ref (adr x a0)), (1, .int a1), (2, .int a2), (3, .int a3), (5, .int a5)]) rfl ?_
          refine g_iinc (pc := 105) C dX12_yawns_105 (q := 5) rfl (v2 := a5 + 1) rfl (Nat.le_of_ble_eq_true rfl) (lo' := [(5, .int (a5 + 1)), (4, .int (a4 ||| (x_ishl 1 a5))), (0, .ref (adr x a0)), (1, .int a1), (2, .int a2), (3, .int a3)]) rfl ?_
          refine g_goto (pc := 108) C dX12_yawns_108 (tgt := 66) rfl ?_
          refine g_sub [2, 3, 4, 5, 1, 0] rfl ?_
          exact ih _ _ _ _ _ _ _ h
theorem t_X12_yawns_114 (C : xC x p s m c cX12_yawns 6 args RX12) (hlk : meth.locks = false) (hr : meth.sig.returnType = some .int) {K : Int32 → Wd → Prop}   : ∀ (n : Nat) (a0 : Nat) (a1 : Int32) (a3 : Int32) (a4 : Int32) (a5 : Int32) (w : Wd), l_X12_yawns_114 K n a0 a1 a3 a4 a5 w → GW x p l e (rmd 6 0 0) s m args below meth c 6 (QI x K below args s 0 0) 114 [(0, .ref (adr x a0)), (1, .int a1), (3, .int a3), (4, .int a4), (5, .int a5)] [] w 0 0 := by
  intro n
  induction n with
  | zero => intro _ _ _ _ _ _ h; exact False.elim h
  | succ n ih =>
    intro a0 a1 a3 a4 a5 w h
    refine g_iload (pc := 114) C dX12_yawns_114 (q := 3) rfl ?_
    refine g_iload_n (pc := 116) C dX12_yawns_116 (q := 2) rfl ?_
    refine miX12_268 (pc := 117) C h (Nat.le_of_ble_eq_true rfl) (Nat.le_of_ble_eq_true rfl) ⟨Nat.le_refl _, Nat.le_refl _⟩ dX12_yawns_117 (fun r27 w28 h => ?_)
    refine g_if_ne (pc := 120) C dX12_yawns_120 (tgt := 146) rfl (fun z29 => ?_) (fun z29 => ?_)
    · replace h := h.2 z29
      refine g_iload (pc := 146) C dX12_yawns_146 (q := 4) rfl ?_
      exact g_iret (pc := 148) C hlk hr (Nat.le_refl _) (Nat.le_refl _) dX12_yawns_148 h
    · replace h := h.1 z29
      refine g_iload (pc := 123) C dX12_yawns_123 (q := 3) rfl ?_
      refine g_aload_n (pc := 125) C dX12_yawns_125 (q := 0) rfl ?_
      refine g_iload (pc := 126) C dX12_yawns_126 (q := 3) rfl ?_
      obtain ⟨k30, h⟩ := h
      refine miX12_417 (pc := 128) C k30 h (Nat.le_of_ble_eq_true rfl) (Nat.le_of_ble_eq_true rfl) ⟨Nat.le_refl _, Nat.le_refl _⟩ dX12_yawns_128 (fun r31 w32 h => ?_)
      refine g_iconst (pc := 131) C dX12_yawns_131 (v := 1) rfl ?_
      refine g_iload_n (pc := 132) C dX12_yawns_132 (q := 1) rfl ?_
      refine h_ishl (pc := 133) C dX12_yawns_133 ?_
      refine g_iconst (pc := 134) C dX12_yawns_134 (v := (-1)) rfl ?_
      refine g_ixor (pc := 135) C dX12_yawns_135 ?_
      refine g_iand (pc := 136) C dX12_yawns_136 ?_
      refine g_ior (pc := 137) C dX12_yawns_137 ?_
      refine g_istore (pc := 138) C dX12_yawns_138 (Nat.le_of_ble_eq_true rfl) (lo' := [(4, .int (a4 ||| (r31 &&& ((x_ishl 1 a1) ^^^ (-1))))), (0, .ref (adr x a0)), (1, .int a1), (3, .int a3), (5, .int a5)]) rfl ?_
      refine g_iinc (pc := 140) C dX12_yawns_140 (q := 4) rfl (v2 := a5 + 1) rfl (Nat.le_of_ble_eq_true rfl) (lo' := [(5, .int (a5 + 1)), (4, .int (a4 ||| (r31 &&& ((x_ishl 1 a1) ^^^ (-1))))), (0, .ref (adr x a0)), (1, .int a1), (3, .int a3)]) rfl ?_
      refine g_goto (pc := 143) C dX12_yawns_143 (tgt := 114) rfl ?_
      refine g_sub [2, 3, 4, 1, 0] rfl ?_
      exact ih _ _ _ _ _ _ h
theorem t_X12_yawns_35 (C : xC x p s m c cX12_yawns 6 args RX12) (hlk : meth.locks = false) (hr : meth.sig.returnType = some .int) {K : Int32 → Wd → Prop}   (a0 : Nat) (a1 : Int32) (a2 : Int32) (a3 : Int32) (s0 : Int32) (s1 : Nat) (w : Wd) (h : j_X12_yawns_35 K a0 a1 a2 a3 s0 s1 w) : GW x p l e (rmd 6 0 0) s m args below meth c 6 (QI x K below args s 0 0) 35 [(0, .ref (adr x a0)), (1, .int a1), (2, .int a2), (3, .int a3)] [.int s0, .ref (adr x s1)] w 0 0 := by
  obtain ⟨k5, h⟩ := h
  refine pfX12_58 (pc := 35) C k5 dX12_yawns_35 ?_
  refine g_aload_n (pc := 38) C dX12_yawns_38 (q := 0) rfl ?_
  obtain ⟨k6, h⟩ := h
  refine gfX12_58 (pc := 39) (w := uI w s1 4 s0) C k6 dX12_yawns_39 ?_
  refine g_if_gt (pc := 42) C dX12_yawns_42 (tgt := 58) rfl (fun z7 => ?_) (fun z7 => ?_)
  · replace h := h.1 z7
    refine g_iconst (pc := 58) C dX12_yawns_58 (v := 0) rfl ?_
    exact g_iret (pc := 59) C hlk hr (Nat.le_refl _) (Nat.le_refl _) dX12_yawns_59 h
  · replace h := h.2 z7
    refine g_aload_n (pc := 45) C dX12_yawns_45 (q := 0) rfl ?_
    refine g_iload_n (pc := 46) C dX12_yawns_46 (q := 1) rfl ?_
    refine g_iload_n (pc := 47) C dX12_yawns_47 (q := 2) rfl ?_
    refine miX12_316 (pc := 48) (w := uI w s1 4 s0) C k6 h (Nat.le_of_ble_eq_true rfl) (Nat.le_of_ble_eq_true rfl) ⟨Nat.le_refl _, Nat.le_refl _⟩ dX12_yawns_48 (fun r8 w9 h => ?_)
    refine g_iload_n (pc := 51) C dX12_yawns_51 (q := 3) rfl ?_
    refine miX12_268 (pc := 52) C h (Nat.le_of_ble_eq_true rfl) (Nat.le_of_ble_eq_true rfl) ⟨Nat.le_refl _, Nat.le_refl _⟩ dX12_yawns_52 (fun r10 w11 h => ?_)
    refine g_if_ne (pc := 55) C dX12_yawns_55 (tgt := 60) rfl (fun z12 => ?_) (fun z12 => ?_)
    · replace h := h.2 z12
      refine g_iconst (pc := 60) C dX12_yawns_60 (v := 0) rfl ?_
      refine g_istore (pc := 61) C dX12_yawns_61 (Nat.le_of_ble_eq_true rfl) (lo' := [(4, .int 0), (0, .ref (adr x a0)), (1, .int a1), (2, .int a2), (3, .int a3)]) rfl ?_
      refine g_iconst (pc := 63) C dX12_yawns_63 (v := 0) rfl ?_
      refine g_istore (pc := 64) C dX12_yawns_64 (Nat.le_of_ble_eq_true rfl) (lo' := [(5, .int 0), (4, .int 0), (0, .ref (adr x a0)), (1, .int a1), (2, .int a2), (3, .int a3)]) rfl ?_
      obtain ⟨n34, h⟩ := h
      refine g_sub [2, 3, 4, 5, 1, 0] rfl ?_
      refine t_X12_yawns_66 C hlk hr ?_ n34 _ _ _ _ _ _ _ h
      · intro b22 b23 b24 b25 w26 h
        refine g_iconst (pc := 111) C dX12_yawns_111 (v := 1) rfl ?_
        refine g_istore (pc := 112) C dX12_yawns_112 (Nat.le_of_ble_eq_true rfl) (lo' := [(5, .int 1), (0, .ref (adr x b22)), (1, .int b23), (3, .int b24), (4, .int b25)]) rfl ?_
        obtain ⟨n33, h⟩ := h
        refine g_sub [1, 2, 3, 4, 0] rfl ?_
        refine t_X12_yawns_114 C hlk hr n33 _ _ _ _ _ _ h
    · replace h := h.1 z12
      refine g_iconst (pc := 58) C dX12_yawns_58 (v := 0) rfl ?_
      exact g_iret (pc := 59) C hlk hr (Nat.le_refl _) (Nat.le_refl _) dX12_yawns_59 h
theorem c_X12_yawns {x : xG} {l : Launch} {a0 : Nat} {a1 : Int32} {a2 : Int32} {a3 : Int32} {K : Int32 → Wd → Prop} {w : Wd} (h : w_X12_yawns a0 a1 a2 a3 K w) : Met l yX12_yawns (xws yX12_yawns cX12_yawns 6 (some .int)) (rmd 6 0 0) (xPc x [.ref (adr x a0), .int a1, .int a2, .int a3] w) (QcI x K) 0 0 (xA x) := by
  refine xMet (by decide) (Nat.le_of_ble_eq_true rfl) (fun p e s m below meth c C hlk hr _ => ?_)
  show GW x p l e (rmd 6 0 0) s m [.ref (adr x a0), .int a1, .int a2, .int a3].toArray below meth c 6 (QI x K below [.ref (adr x a0), .int a1, .int a2, .int a3].toArray s 0 0) 0 [(0, .ref (adr x a0)), (1, .int a1), (2, .int a2), (3, .int a3)] [] w 0 0
  refine g_aload_n (pc := 0) C dX12_yawns_0 (q := 0) rfl ?_
  refine g_aload_n (pc := 1) C dX12_yawns_1 (q := 0) rfl ?_
  refine g_iload_n (pc := 2) C dX12_yawns_2 (q := 1) rfl ?_
  refine g_i2l (pc := 3) C dX12_yawns_3 ?_
  obtain ⟨k1, h⟩ := h
  refine miX12_302 (pc := 4) C k1 h (Nat.le_of_ble_eq_true rfl) (Nat.le_of_ble_eq_true rfl) ⟨Nat.le_refl _, Nat.le_refl _⟩ dX12_yawns_4 (fun r2 w3 h => ?_)
  refine g_if_eq (pc := 7) C dX12_yawns_7 (tgt := 19) rfl (fun z4 => ?_) (fun z4 => ?_)
  · replace h := h.1 z4
    refine g_iconst (pc := 19) C dX12_yawns_19 (v := 1) rfl ?_
    refine g_goto (pc := 20) C dX12_yawns_20 (tgt := 35) rfl ?_
    exact t_X12_yawns_35 C hlk hr  _ _ _ _ _ _ _ h
  · replace h := h.2 z4
    refine g_aload_n (pc := 10) C dX12_yawns_10 (q := 0) rfl ?_
    refine g_iload_n (pc := 11) C dX12_yawns_11 (q := 3) rfl ?_
    refine g_i2l (pc := 12) C dX12_yawns_12 ?_
    obtain ⟨k35, h⟩ := h
    refine miX12_302 (pc := 13) C k35 h (Nat.le_of_ble_eq_true rfl) (Nat.le_of_ble_eq_true rfl) ⟨Nat.le_refl _, Nat.le_refl _⟩ dX12_yawns_13 (fun r36 w37 h => ?_)
    refine g_if_ne (pc := 16) C dX12_yawns_16 (tgt := 23) rfl (fun z38 => ?_) (fun z38 => ?_)
    · replace h := h.2 z38
      refine g_iload_n (pc := 23) C dX12_yawns_23 (q := 2) rfl ?_
      refine miX12_402 (pc := 24) C h (Nat.le_of_ble_eq_true rfl) (Nat.le_of_ble_eq_true rfl) ⟨Nat.le_refl _, Nat.le_refl _⟩ dX12_yawns_24 (fun r39 w40 h => ?_)
      refine g_if_eq (pc := 27) C dX12_yawns_27 (tgt := 34) rfl (fun z41 => ?_) (fun z41 => ?_)
      · replace h := h.1 z41
        refine g_iconst (pc := 34) C dX12_yawns_34 (v := 2) rfl ?_
        exact t_X12_yawns_35 C hlk hr  _ _ _ _ _ _ _ h
      · replace h := h.2 z41
        refine g_iconst (pc := 30) C dX12_yawns_30 (v := 0) rfl ?_
        refine g_goto (pc := 31) C dX12_yawns_31 (tgt := 35) rfl ?_
        exact t_X12_yawns_35 C hlk hr  _ _ _ _ _ _ _ h
    · replace h := h.1 z38
      refine g_iconst (pc := 19) C dX12_yawns_19 (v := 1) rfl ?_
      refine g_goto (pc := 20) C dX12_yawns_20 (tgt := 35) rfl ?_
      exact t_X12_yawns_35 C hlk hr  _ _ _ _ _ _ _ h
theorem miX12_393 (C : xC x p s m c cc nL args RX12) {a0 : Nat} {a1 : Int32} {K : Int32 → Wd → Prop} {D MC MS : Nat} (hq : isK w a0 12) (h : w_X12_numberOf a0 a1 K w) (hD : 0 + 1 ≤ D) (hW : (st.map fun v => v.category).sum ≤ 8) (hij : i ≤ MC ∧ j ≤ MS) (hd : decode cc pc = .ok (.invokevirtual 393, 3)) (k : ∀ (r : Int32) (u : Wd), K r u → GW x p l e (rmd D MC MS) s m args below meth c nL Q (pc + 3) lo (.int r :: st) u i j) : GW x p l e (rmd D MC MS) s m args below meth c nL Q pc lo (.int a1 :: .ref (adr x a0) :: st) w i j := g_callVi0 C (As := [.int a1]) (ci := 12) (c_X12_numberOf h) (x_cwV C 1 LMX12_393 ⟨rfl, by decide, by decide, rfl⟩ hD (by decide)) rfl hq (by decide) rfl rfl hW hd hij k
def j_X12_year_145 (B : Nat → Int32 → Int32 → Int32 → Wd → Prop)  (K : Int32 → Wd → Prop) (a0 : Nat) (a2 : Int32) (a3 : Int32) (a4 : Int32) (a6 : Int32) (w : Wd) : Prop :=
  isK w a0 12 ∧ w_X12_whyTold a0 a6.toInt64 (fun r17 w18 => ((r17 = 0 → isK w18 a0 12 ∧ w_X12_keeps a0 (fun w21 => isK w21 a0 12 ∧ w_X12_does a0 a6 (fun w23 => B a0 a2 (a3 + 1) (a4 + 1) w23) w21) w18) ∧ (¬ r17 = 0 → B a0 a2 a3 (a4 + 1) w18))) w
def j_X12_year_121 (B : Nat → Int32 → Int32 → Int32 → Wd → Prop)  (K : Int32 → Wd → Prop) (a0 : Nat) (a2 : Int32) (a3 : Int32) (a4 : Int32) (a5 : Int32) (a6 : Int32) (w : Wd) : Prop :=
  ((a5 = 2 → isK w a0 12 ∧ w_X12_numberOf a0 5 (fun r14 w15 => j_X12_year_145 B K a0 a2 a3 a4 (a6 + (1 + r14)) w15) w) ∧ (¬ a5 = 2 → ((a5 = 3 → isK w a0 12 ∧ w_X12_numberOf a0 5 (fun r26 w27 => j_X12_year_145 B K a0 a2 a3 a4 (a6 + (1 + r26)) w27) w) ∧ (¬ a5 = 3 → j_X12_year_145 B K a0 a2 a3 a4 a6 w))))
def j_X12_year_92 (B : Nat → Int32 → Int32 → Int32 → Wd → Prop)  (K : Int32 → Wd → Prop) (a0 : Nat) (a2 : Int32) (a3 : Int32) (a4 : Int32) (a5 : Int32) (s0 : Int32) (s1 : Int32) (w : Wd) : Prop :=
  ((4 ≤ a5 → ((a5 = 4 → j_X12_year_121 B K a0 a2 a3 a4 a5 ((s1 * s0) + 2000) w) ∧ (¬ a5 = 4 → j_X12_year_121 B K a0 a2 a3 a4 a5 ((s1 * s0) + 2100) w))) ∧ (¬ 4 ≤ a5 → j_X12_year_121 B K a0 a2 a3 a4 a5 ((s1 * s0) + 0) w))
def j_X12_year_63 (B : Nat → Int32 → Int32 → Int32 → Wd → Prop)  (K : Int32 → Wd → Prop) (a0 : Nat) (a2 : Int32) (a3 : Int32) (a4 : Int32) (a5 : Int32) (w : Wd) : Prop :=
  ((a5 ≤ 1 → j_X12_year_121 B K a0 a2 a3 a4 a5 (-1) w) ∧ (¬ a5 ≤ 1 → isK w a0 12 ∧ w_X12_wells a0 (fun r29 w30 => isK w30 a0 12 ∧ w_X12_numberOf a0 r29 (fun r32 w33 => ((4 ≤ a5 → j_X12_year_92 B K a0 a2 a3 a4 a5 1 r32 w33) ∧ (¬ 4 ≤ a5 → j_X12_year_92 B K a0 a2 a3 a4 a5 100 r32 w33))) w30) w))
def l_X12_year_33  (K : Int32 → Wd → Prop) : Nat → Nat → Int32 → Int32 → Int32 → Wd → Prop
  | 0, _, _, _, _, _ => False
  | n + 1, a0, a2, a3, a4, w => ((a2 ≤ a4 → K a3 w) ∧ (¬ a2 ≤ a4 → isK w a0 12 ∧ w_X12_numberOf a0 6 (fun r8 w9 => ((r8 ≤ 1 → j_X12_year_63 (l_X12_year_33 K n) K a0 a2 a3 a4 r8 w9) ∧ (¬ r8 ≤ 1 → isK w9 a0 12 ∧ w_X12_wells a0 (fun r38 w39 => ((r38 = 0 → l_X12_year_33 K n a0 a2 a3 (a4 + 1) w39) ∧ (¬ r38 = 0 → j_X12_year_63 (l_X12_year_33 K n) K a0 a2 a3 a4 r8 w39))) w9))) w))
def w_X12_year (a0 : Nat) (a1 : Int32) (a2 : Int32) (K : Int32 → Wd → Prop) (w : Wd) : Prop :=
  isK w a0 12 ∧ w_X12_within a2.toInt64 1 30 (fun r2 w3 => ((r2 = 0 → isK w3 a0 12 ∧ w_X12_fails a0 1 (fun r43 w44 => K r43 w44) w3) ∧ (¬ r2 = 0 → isK w3 a0 12 ∧ ∃ n41, l_X12_year_33  K n41 a0 a2 0 0 (uI w3 a0 19 a1)))) (uI w a0 4 0)
theorem t_X12_year_145 (C : xC x p s m c cX12_year 7 args RX12) (hlk : meth.locks = false) (hr : meth.sig.returnType = some .int) {K : Int32 → Wd → Prop} {B : Nat → Int32 → Int32 → Int32 → Wd → Prop}  (hB : ∀ (b0 : Nat) (b2 : Int32) (b3 : Int32) (b4 : Int32) (w : Wd), B b0 b2 b3 b4 w → GW x p l e (rmd 8 0 0) s m args below meth c 7 (QI x K below args s 0 0) 33 [(0, .ref (adr x b0)), (2, .int b2), (3, .int b3), (4, .int b4)] [] w 0 0)  (a0 : Nat) (a2 : Int32) (a3 : Int32) (a4 : Int32) (a6 : Int32) (w : Wd) (h : j_X12_year_145 B K a0 a2 a3 a4 a6 w) : GW x p l e (rmd 8 0 0) s m args below meth c 7 (QI x K below args s 0 0) 145 [(0, .ref (adr x a0)), (2, .int a2), (3, .int a3), (4, .int a4), (6, .int a6)] [] w 0 0 := by
  refine g_aload_n (pc := 145) C dX12_year_145 (q := 0) rfl ?_
  refine g_iload (pc := 146) C dX12_year_146 (q := 4) rfl ?_
  refine g_i2l (pc := 148) C dX12_year_148 ?_
  obtain ⟨k16, h⟩ := h
  refine miX12_378 (pc := 149) C k16 h (Nat.le_of_ble_eq_true rfl) (Nat.le_of_ble_eq_true rfl) ⟨Nat.le_refl _, Nat.le_refl _⟩ dX12_year_149 (fun r17 w18 h => ?_)
  refine g_if_eq (pc := 152) C dX12_year_152 (tgt := 158) rfl (fun z19 => ?_) (fun z19 => ?_)
  · replace h := h.1 z19
    refine g_aload_n (pc := 158) C dX12_year_158 (q := 0) rfl ?_
    obtain ⟨k20, h⟩ := h
    refine miX12_329 (pc := 159) C k20 h (Nat.le_of_ble_eq_true rfl) (Nat.le_of_ble_eq_true rfl) ⟨Nat.le_refl _, Nat.le_refl _⟩ dX12_year_159 (fun w21 h => ?_)
    refine g_aload_n (pc := 162) C dX12_year_162 (q := 0) rfl ?_
    refine g_iload (pc := 163) C dX12_year_163 (q := 4) rfl ?_
    obtain ⟨k22, h⟩ := h
    refine miX12_381 (pc := 165) C k22 h (Nat.le_of_ble_eq_true rfl) (Nat.le_of_ble_eq_true rfl) ⟨Nat.le_refl _, Nat.le_refl _⟩ dX12_year_165 (fun w23 h => ?_)
    refine g_iinc (pc := 168) C dX12_year_168 (q := 2) rfl (v2 := a3 + 1) rfl (Nat.le_of_ble_eq_true rfl) (lo' := [(3, .int (a3 + 1)), (0, .ref (adr x a0)), (2, .int a2), (4, .int a4), (6, .int a6)]) rfl ?_
    refine g_iinc (pc := 171) C dX12_year_171 (q := 3) rfl (v2 := a4 + 1) rfl (Nat.le_of_ble_eq_true rfl) (lo' := [(4, .int (a4 + 1)), (3, .int (a3 + 1)), (0, .ref (adr x a0)), (2, .int a2), (6, .int a6)]) rfl ?_
    refine g_goto (pc := 174) C dX12_year_174 (tgt := 33) rfl ?_
    refine g_sub [2, 3, 1, 0] rfl ?_
    exact hB _ _ _ _ _ h
  · replace h := h.2 z19
    refine g_goto (pc := 155) C dX12_year_155 (tgt := 171) rfl ?_
    refine g_iinc (pc := 171) C dX12_year_171 (q := 3) rfl (v2 := a4 + 1) rfl (Nat.le_of_ble_eq_true rfl) (lo' := [(4, .int (a4 + 1)), (0, .ref (adr x a0)), (2, .int a2), (3, .int a3), (6, .int a6)]) rfl ?_
    refine g_goto (pc := 174) C dX12_year_174 (tgt := 33) rfl ?_
    refine g_sub [1, 2, 3, 0] rfl ?_
    exact hB _ _ _ _ _ h
theorem t_X12_year_121 (C : xC x p s m c cX12_year 7 args RX12) (hlk : meth.locks = false) (hr : meth.sig.returnType = some .int) {K : Int32 → Wd → Prop} {B : Nat → Int32 → Int32 → Int32 → Wd → Prop}  (hB : ∀ (b0 : Nat) (b2 : Int32) (b3 : Int32) (b4 : Int32) (w : Wd), B b0 b2 b3 b4 w → GW x p l e (rmd 8 0 0) s m args below meth c 7 (QI x K below args s 0 0) 33 [(0, .ref (adr x b0)), (2, .int b2), (3, .int b3), (4, .int b4)] [] w 0 0)  (a0 : Nat) (a2 : Int32) (a3 : Int32) (a4 : Int32) (a5 : Int32) (a6 : Int32) (w : Wd) (h : j_X12_year_121 B K a0 a2 a3 a4 a5 a6 w) : GW x p l e (rmd 8 0 0) s m args below meth c 7 (QI x K below args s 0 0) 121 [(0, .ref (adr x a0)), (2, .int a2), (3, .int a3), (4, .int a4), (5, .int a5), (6, .int a6)] [] w 0 0 := by
  refine g_iload (pc := 121) C dX12_year_121 (q := 4) rfl ?_
  refine g_iconst (pc := 123) C dX12_year_123 (v := 2) rfl ?_
  refine g_icmp_eq (pc := 124) C dX12_year_124 (tgt := 133) rfl (fun z12 => ?_) (fun z12 => ?_)
  · replace h := h.1 z12
    refine g_iload (pc := 133) C dX12_year_133 (q := 5) rfl ?_
    refine g_iconst (pc := 135) C dX12_year_135 (v := 1) rfl ?_
    refine g_aload_n (pc := 136) C dX12_year_136 (q := 0) rfl ?_
    refine g_iconst (pc := 137) C dX12_year_137 (v := 5) rfl ?_
    obtain ⟨k13, h⟩ := h
    refine miX12_393 (pc := 138) C k13 h (Nat.le_of_ble_eq_true rfl) (Nat.le_of_ble_eq_true rfl) ⟨Nat.le_refl _, Nat.le_refl _⟩ dX12_year_138 (fun r14 w15 h => ?_)
    refine g_iadd (pc := 141) C dX12_year_141 ?_
    refine g_iadd (pc := 142) C dX12_year_142 ?_
    refine g_istore (pc := 143) C dX12_year_143 (Nat.le_of_ble_eq_true rfl) (lo' := [(6, .int (a6 + (1 + r14))), (0, .ref (adr x a0)), (2, .int a2), (3, .int a3), (4, .int a4), (5, .int a5)]) rfl ?_
    refine g_sub [1, 2, 3, 4, 0] rfl ?_
    exact t_X12_year_145 C hlk hr hB _ _ _ _ _ _ h
  · replace h := h.2 z12
    refine g_iload (pc := 127) C dX12_year_127 (q := 4) rfl ?_
    refine g_iconst (pc := 129) C dX12_year_129 (v := 3) rfl ?_
    refine g_icmp_ne (pc := 130) C dX12_year_130 (tgt := 145) rfl (fun z24 => ?_) (fun z24 => ?_)
    · replace h := h.2 z24
      refine g_sub [0, 1, 2, 3, 5] rfl ?_
      exact t_X12_year_145 C hlk hr hB _ _ _ _ _ _ h
    · replace h := h.1 z24
      refine g_iload (pc := 133) C dX12_year_133 (q := 5) rfl ?_
      refine g_iconst (pc := 135) C dX12_year_135 (v := 1) rfl ?_
      refine g_aload_n (pc := 136) C dX12_year_136 (q := 0) rfl ?_
      refine g_iconst (pc := 137) C dX12_year_137 (v := 5) rfl ?_
      obtain ⟨k25, h⟩ := h
      refine miX12_393 (pc := 138) C k25 h (Nat.le_of_ble_eq_true rfl) (Nat.le_of_ble_eq_true rfl) ⟨Nat.le_refl _, Nat.le_refl _⟩ dX12_year_138 (fun r26 w27 h => ?_)
      refine g_iadd (pc := 141) C dX12_year_141 ?_
      refine g_iadd (pc := 142) C dX12_year_142 ?_
      refine g_istore (pc := 143) C dX12_year_143 (Nat.le_of_ble_eq_true rfl) (lo' := [(6, .int (a6 + (1 + r26))), (0, .ref (adr x a0)), (2, .int a2), (3, .int a3), (4, .int a4), (5, .int a5)]) rfl ?_
      refine g_sub [1, 2, 3, 4, 0] rfl ?_
      exact t_X12_year_145 C hlk hr hB _ _ _ _ _ _ h
theorem t_X12_year_92 (C : xC x p s m c cX12_year 7 args RX12) (hlk : meth.locks = false) (hr : meth.sig.returnType = some .int) {K : Int32 → Wd → Prop} {B : Nat → Int32 → Int32 → Int32 → Wd → Prop}  (hB : ∀ (b0 : Nat) (b2 : Int32) (b3 : Int32) (b4 : Int32) (w : Wd), B b0 b2 b3 b4 w → GW x p l e (rmd 8 0 0) s m args below meth c 7 (QI x K below args s 0 0) 33 [(0, .ref (adr x b0)), (2, .int b2), (3, .int b3), (4, .int b4)] [] w 0 0)  (a0 : Nat) (a2 : Int32) (a3 : Int32) (a4 : Int32) (a5 : Int32) (s0 : Int32) (s1 : Int32) (w : Wd) (h : j_X12_year_92 B K a0 a2 a3 a4 a5 s0 s1 w) : GW x p l e (rmd 8 0 0) s m args below meth c 7 (QI x K below args s 0 0) 92 [(0, .ref (adr x a0)), (2, .int a2), (3, .int a3), (4, .int a4), (5, .int a5)] [.int s0, .int s1] w 0 0 := by
  refine g_imul (pc := 92) C dX12_year_92 ?_
  refine g_iload (pc := 93) C dX12_year_93 (q := 4) rfl ?_
  refine g_iconst (pc := 95) C dX12_year_95 (v := 4) rfl ?_
  refine g_icmp_ge (pc := 96) C dX12_year_96 (tgt := 103) rfl (fun z35 => ?_) (fun z35 => ?_)
  · replace h := h.1 z35
    refine g_iload (pc := 103) C dX12_year_103 (q := 4) rfl ?_
    refine g_iconst (pc := 105) C dX12_year_105 (v := 4) rfl ?_
    refine g_icmp_ne (pc := 106) C dX12_year_106 (tgt := 115) rfl (fun z36 => ?_) (fun z36 => ?_)
    · replace h := h.2 z36
      refine g_sipush (pc := 115) C dX12_year_115 (v := 2100) rfl ?_
      refine g_iadd (pc := 118) C dX12_year_118 ?_
      refine g_istore (pc := 119) C dX12_year_119 (Nat.le_of_ble_eq_true rfl) (lo' := [(6, .int ((s1 * s0) + 2100)), (0, .ref (adr x a0)), (2, .int a2), (3, .int a3), (4, .int a4), (5, .int a5)]) rfl ?_
      refine g_sub [1, 2, 3, 4, 5, 0] rfl ?_
      exact t_X12_year_121 C hlk hr hB _ _ _ _ _ _ _ h
    · replace h := h.1 z36
      refine g_sipush (pc := 109) C dX12_year_109 (v := 2000) rfl ?_
      refine g_goto (pc := 112) C dX12_year_112 (tgt := 118) rfl ?_
      refine g_iadd (pc := 118) C dX12_year_118 ?_
      refine g_istore (pc := 119) C dX12_year_119 (Nat.le_of_ble_eq_true rfl) (lo' := [(6, .int ((s1 * s0) + 2000)), (0, .ref (adr x a0)), (2, .int a2), (3, .int a3), (4, .int a4), (5, .int a5)]) rfl ?_
      refine g_sub [1, 2, 3, 4, 5, 0] rfl ?_
      exact t_X12_year_121 C hlk hr hB _ _ _ _ _ _ _ h
  · replace h := h.2 z35
    refine g_iconst (pc := 99) C dX12_year_99 (v := 0) rfl ?_
    refine g_goto (pc := 100) C dX12_year_100 (tgt := 118) rfl ?_
    refine g_iadd (pc := 118) C dX12_year_118 ?_
    refine g_istore (pc := 119) C dX12_year_119 (Nat.le_of_ble_eq_true rfl) (lo' := [(6, .int ((s1 * s0) + 0)), (0, .ref (adr x a0)), (2, .int a2), (3, .int a3), (4, .int a4), (5, .int a5)]) rfl ?_
    refine g_sub [1, 2, 3, 4, 5, 0] rfl ?_
    exact t_X12_year_121 C hlk hr hB _ _ _ _ _ _ _ h
theorem t_X12_year_63 (C : xC x p s m c cX12_year 7 args RX12) (hlk : meth.locks = false) (hr : meth.sig.returnType = some .int) {K : Int32 → Wd → Prop} {B : Nat → Int32 → Int32 → Int32 → Wd → Prop}  (hB : ∀ (b0 : Nat) (b2 : Int32) (b3 : Int32) (b4 : Int32) (w : Wd), B b0 b2 b3 b4 w → GW x p l e (rmd 8 0 0) s m args below meth c 7 (QI x K below args s 0 0) 33 [(0, .ref (adr x b0)), (2, .int b2), (3, .int b3), (4, .int b4)] [] w 0 0)  (a0 : Nat) (a2 : Int32) (a3 : Int32) (a4 : Int32) (a5 : Int32) (w : Wd) (h : j_X12_year_63 B K a0 a2 a3 a4 a5 w) : GW x p l e (rmd 8 0 0) s m args below meth c 7 (QI x K below args s 0 0) 63 [(0, .ref (adr x a0)), (2, .int a2), (3, .int a3), (4, .int a4), (5, .int a5)] [] w 0 0 := by
  refine g_iconst (pc := 63) C dX12_year_63 (v := (-1)) rfl ?_
  refine g_istore (pc := 64) C dX12_year_64 (Nat.le_of_ble_eq_true rfl) (lo' := [(6, .int (-1)), (0, .ref (adr x a0)), (2, .int a2), (3, .int a3), (4, .int a4), (5, .int a5)]) rfl ?_
  refine g_iload (pc := 66) C dX12_year_66 (q := 5) rfl ?_
  refine g_iconst (pc := 68) C dX12_year_68 (v := 1) rfl ?_
  refine g_icmp_le (pc := 69) C dX12_year_69 (tgt := 121) rfl (fun z11 => ?_) (fun z11 => ?_)
  · replace h := h.1 z11
    refine g_sub [1, 2, 3, 4, 5, 0] rfl ?_
    exact t_X12_year_121 C hlk hr hB _ _ _ _ _ _ _ h
  · replace h := h.2 z11
    refine g_aload_n (pc := 72) C dX12_year_72 (q := 1) rfl ?_
    refine g_aload_n (pc := 73) C dX12_year_73 (q := 1) rfl ?_
    obtain ⟨k28, h⟩ := h
    refine miX12_239 (pc := 74) C k28 h (Nat.le_of_ble_eq_true rfl) (Nat.le_of_ble_eq_true rfl) ⟨Nat.le_refl _, Nat.le_refl _⟩ dX12_year_74 (fun r29 w30 h => ?_)
    obtain ⟨k31, h⟩ := h
    refine miX12_393 (pc := 77) C k31 h (Nat.le_of_ble_eq_true rfl) (Nat.le_of_ble_eq_true rfl) ⟨Nat.le_refl _, Nat.le_refl _⟩ dX12_year_77 (fun r32 w33 h => ?_)
    refine g_iload (pc := 80) C dX12_year_80 (q := 5) rfl ?_
    refine g_iconst (pc := 82) C dX12_year_82 (v := 4) rfl ?_
    refine g_icmp_ge (pc := 83) C dX12_year_83 (tgt := 91) rfl (fun z34 => ?_) (fun z34 => ?_)
    · replace h := h.1 z34
      refine g_iconst (pc := 91) C dX12_year_91 (v := 1) rfl ?_
      refine g_sub [1, 2, 3, 4, 5] rfl ?_
      exact t_X12_year_92 C hlk hr hB _ _ _ _ _ _ _ _ h
    · replace h := h.2 z34
      refine g_bipush (pc := 86) C dX12_year_86 (v := 100) rfl ?_
      refine g_goto (pc := 88) C dX12_year_88 (tgt := 92) rfl ?_
      refine g_sub [1, 2, 3, 4, 5] rfl ?_
      exact t_X12_year_92 C hlk hr hB _ _ _ _ _ _ _ _ h
theorem t_X12_year_33 (C : xC x p s m c cX12_year 7 args RX12) (hlk : meth.locks = false) (hr : meth.sig.returnType = some .int) {K : Int32 → Wd → Prop}   : ∀ (n : Nat) (a0 : Nat) (a2 : Int32) (a3 : Int32) (a4 : Int32) (w : Wd), l_X12_year_33 K n a0 a2 a3 a4 w → GW x p l e (rmd 8 0 0) s m args below meth c 7 (QI x K below args s 0 0) 33 [(0, .ref (adr x a0)), (2, .int a2), (3, .int a3), (4, .int a4)] [] w 0 0 := by
  intro n
  induction n with
  | zero => intro _ _ _ _ _ h; exact False.elim h
  | succ n ih =>
    intro a0 a2 a3 a4 w h
    refine g_iload (pc := 33) C dX12_year_33 (q := 3) rfl ?_
    refine g_iload_n (pc := 35) C dX12_year_35 (q := 1) rfl ?_
    refine g_icmp_ge (pc := 36) C dX12_year_36 (tgt := 177) rfl (fun z6 => ?_) (fun z6 => ?_)
    · replace h := h.1 z6
      refine g_iload_n (pc := 177) C dX12_year_177 (q := 2) rfl ?_
      exact g_iret (pc := 178) C hlk hr (Nat.le_refl _) (Nat.le_refl _) dX12_year_178 h
    · replace h := h.2 z6
      refine g_aload_n (pc := 39) C dX12_year_39 (q := 0) rfl ?_
      refine g_bipush (pc := 40) C dX12_year_40 (v := 6) rfl ?_
      obtain ⟨k7, h⟩ := h
      refine miX12_393 (pc := 42) C k7 h (Nat.le_of_ble_eq_true rfl) (Nat.le_of_ble_eq_true rfl) ⟨Nat.le_refl _, Nat.le_refl _⟩ dX12_year_42 (fun r8 w9 h => ?_)
      refine g_istore (pc := 45) C dX12_year_45 (Nat.le_of_ble_eq_true rfl) (lo' := [(5, .int r8), (0, .ref (adr x a0)), (2, .int a2), (3, .int a3), (4, .int a4)]) rfl ?_
      refine g_iload (pc := 47) C dX12_year_47 (q := 0) rfl ?_
      refine g_iconst (pc := 49) C dX12_year_49 (v := 1) rfl ?_
      refine g_icmp_le (pc := 50) C dX12_year_50 (tgt := 63) rfl (fun z10 => ?_) (fun z10 => ?_)
      · replace h := h.1 z10
        refine g_sub [1, 2, 3, 4, 0] rfl ?_
        exact t_X12_year_63 C hlk hr ih _ _ _ _ _ _ h
      · replace h := h.2 z10
        refine g_aload_n (pc := 53) C dX12_year_53 (q := 1) rfl ?_
        obtain ⟨k37, h⟩ := h
        refine miX12_239 (pc := 54) C k37 h (Nat.le_of_ble_eq_true rfl) (Nat.le_of_ble_eq_true rfl) ⟨Nat.le_refl _, Nat.le_refl _⟩ dX12_year_54 (fun r38 w39 h => ?_)
        refine g_if_ne (pc := 57) C dX12_year_57 (tgt := 63) rfl (fun z40 => ?_) (fun z40 => ?_)
        · replace h := h.2 z40
          refine g_sub [1, 2, 3, 4, 0] rfl ?_
          exact t_X12_year_63 C hlk hr ih _ _ _ _ _ _ h
        · replace h := h.1 z40
          refine g_goto (pc := 60) C dX12_year_60 (tgt := 171) rfl ?_
          refine g_iinc (pc := 171) C dX12_year_171 (q := 4) rfl (v2 := a4 + 1) rfl (Nat.le_of_ble_eq_true rfl) (lo' := [(4, .int (a4 + 1)), (5, .int r8), (0, .ref (adr x a0)), (2, .int a2), (3, .int a3)]) rfl ?_
          refine g_goto (pc := 174) C dX12_year_174 (tgt := 33) rfl ?_
          refine g_sub [2, 3, 4, 0] rfl ?_
          exact ih _ _ _ _ _ h
theorem c_X12_year {x : xG} {l : Launch} {a0 : Nat} {a1 : Int32} {a2 : Int32} {K : Int32 → Wd → Prop} {w : Wd} (h : w_X12_year a0 a1 a2 K w) : Met l yX12_year (xws yX12_year cX12_year 7 (some .int)) (rmd 8 0 0) (xPc x [.ref (adr x a0), .int a1, .int a2] w) (QcI x K) 0 0 (xA x) := by
  refine xMet (by decide) (Nat.le_of_ble_eq_true rfl) (fun p e s m below meth c C hlk hr _ => ?_)
  show GW x p l e (rmd 8 0 0) s m [.ref (adr x a0), .int a1, .int a2].toArray below meth c 7 (QI x K below [.ref (adr x a0), .int a1, .int a2].toArray s 0 0) 0 [(0, .ref (adr x a0)), (1, .int a1), (2, .int a2)] [] w 0 0
  refine g_aload_n (pc := 0) C dX12_year_0 (q := 0) rfl ?_
  refine g_iconst (pc := 1) C dX12_year_1 (v := 0) rfl ?_
  obtain ⟨k1, h⟩ := h
  refine pfX12_58 (pc := 2) C k1 dX12_year_2 ?_
  refine g_iload_n (pc := 5) C dX12_year_5 (q := 2) rfl ?_
  refine g_i2l (pc := 6) C dX12_year_6 ?_
  refine g_lconst (pc := 7) C dX12_year_7 (v := 1) rfl ?_
  refine g_ldc2 (pc := 8) C LCX12_391 dX12_year_8 ?_
  refine miX12_119 (pc := 11) (w := uI w a0 4 0) C h (Nat.le_of_ble_eq_true rfl) (Nat.le_of_ble_eq_true rfl) ⟨Nat.le_refl _, Nat.le_refl _⟩ dX12_year_11 (fun r2 w3 h => ?_)
  refine g_if_ne (pc := 14) C dX12_year_14 (tgt := 23) rfl (fun z4 => ?_) (fun z4 => ?_)
  · replace h := h.2 z4
    refine g_aload_n (pc := 23) C dX12_year_23 (q := 0) rfl ?_
    refine g_iload_n (pc := 24) C dX12_year_24 (q := 1) rfl ?_
    obtain ⟨k5, h⟩ := h
    refine pfX12_388 (pc := 25) C k5 dX12_year_25 ?_
    refine g_iconst (pc := 28) C dX12_year_28 (v := 0) rfl ?_
    refine g_istore_n (pc := 29) C dX12_year_29 (Nat.le_of_ble_eq_true rfl) (lo' := [(3, .int 0), (0, .ref (adr x a0)), (1, .int a1), (2, .int a2)]) rfl ?_
    refine g_iconst (pc := 30) C dX12_year_30 (v := 0) rfl ?_
    refine g_istore (pc := 31) C dX12_year_31 (Nat.le_of_ble_eq_true rfl) (lo' := [(4, .int 0), (3, .int 0), (0, .ref (adr x a0)), (1, .int a1), (2, .int a2)]) rfl ?_
    obtain ⟨n41, h⟩ := h
    refine g_sub [2, 4, 1, 0] rfl ?_
    refine t_X12_year_33 C hlk hr n41 _ _ _ _ _ h
  · replace h := h.1 z4
    refine g_aload_n (pc := 17) C dX12_year_17 (q := 0) rfl ?_
    refine g_iconst (pc := 18) C dX12_year_18 (v := 1) rfl ?_
    obtain ⟨k42, h⟩ := h
    refine miX12_230 (pc := 19) C k42 h (Nat.le_of_ble_eq_true rfl) (Nat.le_of_ble_eq_true rfl) ⟨Nat.le_refl _, Nat.le_refl _⟩ dX12_year_19 (fun r43 w44 h => ?_)
    exact g_iret (pc := 22) C hlk hr (Nat.le_refl _) (Nat.le_refl _) dX12_year_22 h
def w_X1_addHouse (a0 : Nat) (a1 : Int32) (a2 : Int32) (K : Wd → Prop) (w : Wd) : Prop :=
  isK w a0 1 ∧ (((wI w a0 2) < 0 → K w) ∧ (¬ (wI w a0 2) < 0 → (((wI w a0 2) < 6 → isK w (wR w a0 11) 20 ∧ vp_in (wI w a0 2) (wn w (wR w a0 11)) ∧ isK w (wR w a0 12) 20 ∧ vp_in (wI (uI w (wR w a0 11) (wI w a0 2).toNatClampNeg a1) a0 2) (wn w (wR w a0 12)) ∧ K (uI (uI (uI w (wR w a0 11) (wI w a0 2).toNatClampNeg a1) (wR w a0 12) (wI (uI w (wR w a0 11) (wI w a0 2).toNatClampNeg a1) a0 2).toNatClampNeg a2) a0 2 ((wI (uI (uI w (wR w a0 11) (wI w a0 2).toNatClampNeg a1) (wR w a0 12) (wI (uI w (wR w a0 11) (wI w a0 2).toNatClampNeg a1) a0 2).toNatClampNeg a2) a0 2) + 1))) ∧ (¬ (wI w a0 2) < 6 → K w))))
theorem c_X1_addHouse {x : xG} {l : Launch} {a0 : Nat} {a1 : Int32} {a2 : Int32} {K : Wd → Prop} {w : Wd} (h : w_X1_addHouse a0 a1 a2 K w) : Met l yX1_addHouse (xws yX1_addHouse cX1_addHouse 3 none) (rmd 0 0 0) (xPc x [.ref (adr x a0), .int a1, .int a2] w) (QcV x K) 0 0 (xA x) := by
  refine xMet (by decide) (Nat.le_of_ble_eq_true rfl) (fun p e s m below meth c C hlk hr _ => ?_)
  show GW x p l e (rmd 0 0 0) s m [.ref (adr x a0), .int a1, .int a2].toArray below meth c 3 (QV x K below [.ref (adr x a0), .int a1, .int a2].toArray s 0 0) 0 [(0, .ref (adr x a0)), (1, .int a1), (2, .int a2)] [] w 0 0
  refine g_aload_n (pc := 0) C dX1_addHouse_0 (q := 0) rfl ?_
  obtain ⟨k1, h⟩ := h
  refine gfX1_18 (pc := 1) C k1 dX1_addHouse_1 ?_
  refine g_if_lt (pc := 4) C dX1_addHouse_4 (tgt := 16) rfl (fun z2 => ?_) (fun z2 => ?_)
  · replace h := h.1 z2
    exact g_vret (pc := 16) C hlk hr (Nat.le_refl _) (Nat.le_refl _) dX1_addHouse_16 h
  · replace h := h.2 z2
    refine g_aload_n (pc := 7) C dX1_addHouse_7 (q := 0) rfl ?_
    refine gfX1_18 (pc := 8) C k1 dX1_addHouse_8 ?_
    refine g_bipush (pc := 11) C dX1_addHouse_11 (v := 6) rfl ?_
    refine g_icmp_lt (pc := 13) C dX1_addHouse_13 (tgt := 17) rfl (fun z3 => ?_) (fun z3 => ?_)
    · replace h := h.1 z3
      refine g_aload_n (pc := 17) C dX1_addHouse_17 (q := 0) rfl ?_
      obtain ⟨k4, h⟩ := h
      refine gfX1_49 (pc := 18) C k1 (isK_ne k4) dX1_addHouse_18 ?_
      refine g_aload_n (pc := 21) C dX1_addHouse_21 (q := 0) rfl ?_
      refine gfX1_18 (pc := 22) C k1 dX1_addHouse_22 ?_
      refine g_iload_n (pc := 25) C dX1_addHouse_25 (q := 1) rfl ?_
      obtain ⟨k5, h⟩ := h
      refine g_iast (pc := 26) C k4 k5 dX1_addHouse_26 ?_
      refine g_aload_n (pc := 27) C dX1_addHouse_27 (q := 0) rfl ?_
      obtain ⟨k6, h⟩ := h
      refine gfX1_52 (pc := 28) (w := uI w (wR w a0 11) (wI w a0 2).toNatClampNeg a1) C k1 (isK_ne k6) dX1_addHouse_28 ?_
      refine g_aload_n (pc := 31) C dX1_addHouse_31 (q := 0) rfl ?_
      refine gfX1_18 (pc := 32) (w := uI w (wR w a0 11) (wI w a0 2).toNatClampNeg a1) C k1 dX1_addHouse_32 ?_
      refine g_iload_n (pc := 35) C dX1_addHouse_35 (q := 2) rfl ?_
      obtain ⟨k7, h⟩ := h
      refine g_iast (pc := 36) (w := uI w (wR w a0 11) (wI w a0 2).toNatClampNeg a1) C k6 k7 dX1_addHouse_36 ?_
      refine g_aload_n (pc := 37) C dX1_addHouse_37 (q := 0) rfl ?_
      refine g_dup (pc := 38) C dX1_addHouse_38 rfl ?_
      refine gfX1_18 (pc := 39) (w := uI (uI w (wR w a0 11) (wI w a0 2).toNatClampNeg a1) (wR w a0 12) (wI (uI w (wR w a0 11) (wI w a0 2).toNatClampNeg a1) a0 2).toNatClampNeg a2) C k1 dX1_addHouse_39 ?_
      refine g_iconst (pc := 42) C dX1_addHouse_42 (v := 1) rfl ?_
      refine g_iadd (pc := 43) C dX1_addHouse_43 ?_
      refine pfX1_18 (pc := 44) (w := uI (uI w (wR w a0 11) (wI w a0 2).toNatClampNeg a1) (wR w a0 12) (wI (uI w (wR w a0 11) (wI w a0 2).toNatClampNeg a1) a0 2).toNatClampNeg a2) C k1 dX1_addHouse_44 ?_
      exact g_vret (pc := 47) C hlk hr (Nat.le_refl _) (Nat.le_refl _) dX1_addHouse_47 h
    · replace h := h.2 z3
      exact g_vret (pc := 16) C hlk hr (Nat.le_refl _) (Nat.le_refl _) dX1_addHouse_16 h
def w_X1_addWell (a0 : Nat) (a1 : Int32) (a2 : Int32) (a3 : Int32) (a4 : Int32) (a5 : Int32) (K : Wd → Prop) (w : Wd) : Prop :=
  isK w a0 1 ∧ (((wI w a0 1) < 0 → K w) ∧ (¬ (wI w a0 1) < 0 → (((wI w a0 1) < 10 → isK w (wR w a0 5) 20 ∧ vp_in (wI w a0 1) (wn w (wR w a0 5)) ∧ isK w (wR w a0 6) 20 ∧ vp_in (wI (uI w (wR w a0 5) (wI w a0 1).toNatClampNeg a1) a0 1) (wn w (wR w a0 6)) ∧ isK w (wR w a0 7) 20 ∧ vp_in (wI (uI (uI w (wR w a0 5) (wI w a0 1).toNatClampNeg a1) (wR w a0 6) (wI (uI w (wR w a0 5) (wI w a0 1).toNatClampNeg a1) a0 1).toNatClampNeg a2) a0 1) (wn w (wR w a0 7)) ∧ isK w (wR w a0 8) 20 ∧ vp_in (wI (uI (uI (uI w (wR w a0 5) (wI w a0 1).toNatClampNeg a1) (wR w a0 6) (wI (uI w (wR w a0 5) (wI w a0 1).toNatClampNeg a1) a0 1).toNatClampNeg a2) (wR w a0 7) (wI (uI (uI w (wR w a0 5) (wI w a0 1).toNatClampNeg a1) (wR w a0 6) (wI (uI w (wR w a0 5) (wI w a0 1).toNatClampNeg a1) a0 1).toNatClampNeg a2) a0 1).toNatClampNeg a3) a0 1) (wn w (wR w a0 8)) ∧ isK w (wR w a0 9) 20 ∧ vp_in (wI (uI (uI (uI (uI w (wR w a0 5) (wI w a0 1).toNatClampNeg a1) (wR w a0 6) (wI (uI w (wR w a0 5) (wI w a0 1).toNatClampNeg a1) a0 1).toNatClampNeg a2) (wR w a0 7) (wI (uI (uI w (wR w a0 5) (wI w a0 1).toNatClampNeg a1) (wR w a0 6) (wI (uI w (wR w a0 5) (wI w a0 1).toNatClampNeg a1) a0 1).toNatClampNeg a2) a0 1).toNatClampNeg a3) (wR w a0 8) (wI (uI (uI (uI w (wR w a0 5) (wI w a0 1).toNatClampNeg a1) (wR w a0 6) (wI (uI w (wR w a0 5) (wI w a0 1).toNatClampNeg a1) a0 1).toNatClampNeg a2) (wR w a0 7) (wI (uI (uI w (wR w a0 5) (wI w a0 1).toNatClampNeg a1) (wR w a0 6) (wI (uI w (wR w a0 5) (wI w a0 1).toNatClampNeg a1) a0 1).toNatClampNeg a2) a0 1).toNatClampNeg a3) a0 1).toNatClampNeg a4) a0 1) (wn w (wR w a0 9)) ∧ K (uI (uI (uI (uI (uI (uI w (wR w a0 5) (wI w a0 1).toNatClampNeg a1) (wR w a0 6) (wI (uI w (wR w a0 5) (wI w a0 1).toNatClampNeg a1) a0 1).toNatClampNeg a2) (wR w a0 7) (wI (uI (uI w (wR w a0 5) (wI w a0 1).toNatClampNeg a1) (wR w a0 6) (wI (uI w (wR w a0 5) (wI w a0 1).toNatClampNeg a1) a0 1).toNatClampNeg a2) a0 1).toNatClampNeg a3) (wR w a0 8) (wI (uI (uI (uI w (wR w a0 5) (wI w a0 1).toNatClampNeg a1) (wR w a0 6) (wI (uI w (wR w a0 5) (wI w a0 1).toNatClampNeg a1) a0 1).toNatClampNeg a2) (wR w a0 7) (wI (uI (uI w (wR w a0 5) (wI w a0 1).toNatClampNeg a1) (wR w a0 6) (wI (uI w (wR w a0 5) (wI w a0 1).toNatClampNeg a1) a0 1).toNatClampNeg a2) a0 1).toNatClampNeg a3) a0 1).toNatClampNeg a4) (wR w a0 9) (wI (uI (uI (uI (uI w (wR w a0 5) (wI w a0 1).toNatClampNeg a1) (wR w a0 6) (wI (uI w (wR w a0 5) (wI w a0 1).toNatClampNeg a1) a0 1).toNatClampNeg a2) (wR w a0 7) (wI (uI (uI w (wR w a0 5) (wI w a0 1).toNatClampNeg a1) (wR w a0 6) (wI (uI w (wR w a0 5) (wI w a0 1).toNatClampNeg a1) a0 1).toNatClampNeg a2) a0 1).toNatClampNeg a3) (wR w a0 8) (wI (uI (uI (uI w (wR w a0 5) (wI w a0 1).toNatClampNeg a1) (wR w a0 6) (wI (uI w (wR w a0 5) (wI w a0 1).toNatClampNeg a1) a0 1).toNatClampNeg a2) (wR w a0 7) (wI (uI (uI w (wR w a0 5) (wI w a0 1).toNatClampNeg a1) (wR w a0 6) (wI (uI w (wR w a0 5) (wI w a0 1).toNatClampNeg a1) a0 1).toNatClampNeg a2) a0 1).toNatClampNeg a3) a0 1).toNatClampNeg a4) a0 1).toNatClampNeg a5) a0 1 ((wI (uI (uI (uI (uI (uI w (wR w a0 5) (wI w a0 1).toNatClampNeg a1) (wR w a0 6) (wI (uI w (wR w a0 5) (wI w a0 1).toNatClampNeg a1) a0 1).toNatClampNeg a2) (wR w a0 7) (wI (uI (uI w (wR w a0 5) (wI w a0 1).toNatClampNeg a1) (wR w a0 6) (wI (uI w (wR w a0 5) (wI w a0 1).toNatClampNeg a1) a0 1).toNatClampNeg a2) a0 1).toNatClampNeg a3) (wR w a0 8) (wI (uI (uI (uI w (wR w a0 5) (wI w a0 1).toNatClampNeg a1) (wR w a0 6) (wI (uI w (wR w a0 5) (wI w a0 1).toNatClampNeg a1) a0 1).toNatClampNeg a2) (wR w a0 7) (wI (uI (uI w (wR w a0 5) (wI w a0 1).toNatClampNeg a1) (wR w a0 6) (wI (uI w (wR w a0 5) (wI w a0 1).toNatClampNeg a1) a0 1).toNatClampNeg a2) a0 1).toNatClampNeg a3) a0 1).toNatClampNeg a4) (wR w a0 9) (wI (uI (uI (uI (uI w (wR w a0 5) (wI w a0 1).toNatClampNeg a1) (wR w a0 6) (wI (uI w (wR w a0 5) (wI w a0 1).toNatClampNeg a1) a0 1).toNatClampNeg a2) (wR w a0 7) (wI (uI (uI w (wR w a0 5) (wI w a0 1).toNatClampNeg a1) (wR w a0 6) (wI (uI w (wR w a0 5) (wI w a0 1).toNatClampNeg a1) a0 1).toNatClampNeg a2) a0 1).toNatClampNeg a3) (wR w a0 8) (wI (uI (uI (uI w (wR w a0 5) (wI w a0 1).toNatClampNeg a1) (wR w a0 6) (wI (uI w (wR w a0 5) (wI w a0 1).toNatClampNeg a1) a0 1).toNatClampNeg a2) (wR w a0 7) (wI (uI (uI w (wR w a0 5) (wI w a0 1).toNatClampNeg a1) (wR w a0 6) (wI (uI w (wR w a0 5) (wI w a0 1).toNatClampNeg a1) a0 1).toNatClampNeg a2) a0 1).toNatClampNeg a3) a0 1).toNatClampNeg a4) a0 1).toNatClampNeg a5) a0 1) + 1))) ∧ (¬ (wI w a0 1) < 10 → K w))))
theorem c_X1_addWell {x : xG} {l : Launch} {a0 : Nat} {a1 : Int32} {a2 : Int32} {a3 : Int32} {a4 : Int32} {a5 : Int32} {K : Wd → Prop} {w : Wd} (h : w_X1_addWell a0 a1 a2 a3 a4 a5 K w) : Met l yX1_addWell (xws yX1_addWell cX1_addWell 6 none) (rmd 0 0 0) (xPc x [.ref (adr x a0), .int a1, .int a2, .int a3, .int a4, .int a5] w) (QcV x K) 0 0 (xA x) := by
  refine xMet (by decide) (Nat.le_of_ble_eq_true rfl) (fun p e s m below meth c C hlk hr _ => ?_)
  show GW x p l e (rmd 0 0 0) s m [.ref (adr x a0), .int a1, .int a2, .int a3, .int a4, .int a5].toArray below meth c 6 (QV x K below [.ref (adr x a0), .int a1, .int a2, .int a3, .int a4, .int a5].toArray s 0 0) 0 [(0, .ref (adr x a0)), (1, .int a1), (2, .int a2), (3, .int a3), (4, .int a4), (5, .int a5)] [] w 0 0
  refine g_aload_n (pc := 0) C dX1_addWell_0 (q := 0) rfl ?_
  obtain ⟨k1, h⟩ := h
  refine gfX1_15 (pc := 1) C k1 dX1_addWell_1 ?_
  refine g_if_lt (pc := 4) C dX1_addWell_4 (tgt := 16) rfl (fun z2 => ?_) (fun z2 => ?_)
  · replace h := h.1 z2
    exact g_vret (pc := 16) C hlk hr (Nat.le_refl _) (Nat.le_refl _) dX1_addWell_16 h
  · replace h := h.2 z2
    refine g_aload_n (pc := 7) C dX1_addWell_7 (q := 0) rfl ?_
    refine gfX1_15 (pc := 8) C k1 dX1_addWell_8 ?_
    refine g_bipush (pc := 11) C dX1_addWell_11 (v := 10) rfl ?_
    refine g_icmp_lt (pc := 13) C dX1_addWell_13 (tgt := 17) rfl (fun z3 => ?_) (fun z3 => ?_)
    · replace h := h.1 z3
      refine g_aload_n (pc := 17) C dX1_addWell_17 (q := 0) rfl ?_
      obtain ⟨k4, h⟩ := h
      refine gfX1_31 (pc := 18) C k1 (isK_ne k4) dX1_addWell_18 ?_
      refine g_aload_n (pc := 21) C dX1_addWell_21 (q := 0) rfl ?_
      refine gfX1_15 (pc := 22) C k1 dX1_addWell_22 ?_
      refine g_iload_n (pc := 25) C dX1_addWell_25 (q := 1) rfl ?_
      obtain ⟨k5, h⟩ := h
      refine g_iast (pc := 26) C k4 k5 dX1_addWell_26 ?_
      refine g_aload_n (pc := 27) C dX1_addWell_27 (q := 0) rfl ?_
      obtain ⟨k6, h⟩ := h
      refine gfX1_34 (pc := 28) (w := uI w (wR w a0 5) (wI w a0 1).toNatClampNeg a1) C k1 (isK_ne k6) dX1_addWell_28 ?_
      refine g_aload_n (pc := 31) C dX1_addWell_31 (q := 0) rfl ?_
      refine gfX1_15 (pc := 32) (w := uI w (wR w a0 5) (wI w a0 1).toNatClampNeg a1) C k1 dX1_addWell_32 ?_
      refine g_iload_n (pc := 35) C dX1_addWell_35 (q := 2) rfl ?_
      obtain ⟨k7, h⟩ := h
      refine g_iast (pc := 36) (w := uI w (wR w a0 5) (wI w a0 1).toNatClampNeg a1) C k6 k7 dX1_addWell_36 ?_
      refine g_aload_n (pc := 37) C dX1_addWell_37 (q := 0) rfl ?_
      obtain ⟨k8, h⟩ := h
      refine gfX1_37 (pc := 38) (w := uI (uI w (wR w a0 5) (wI w a0 1).toNatClampNeg a1) (wR w a0 6) (wI (uI w (wR w a0 5) (wI w a0 1).toNatClampNeg a1) a0 1).toNatClampNeg a2) C k1 (isK_ne k8) dX1_addWell_38 ?_
      refine g_aload_n (pc := 41) C dX1_addWell_41 (q := 0) rfl ?_
      refine gfX1_15 (pc := 42) (w := uI (uI w (wR w a0 5) (wI w a0 1).toNatClampNeg a1) (wR w a0 6) (wI (uI w (wR w a0 5) (wI w a0 1).toNatClampNeg a1) a0 1).toNatClampNeg a2) C k1 dX1_addWell_42 ?_
      refine g_iload_n (pc := 45) C dX1_addWell_45 (q := 3) rfl ?_
      obtain ⟨k9, h⟩ := h
      refine g_iast (pc := 46) (w := uI (uI w (wR w a0 5) (wI w a0 1).toNatClampNeg a1) (wR w a0 6) (wI (uI w (wR w a0 5) (wI w a0 1).toNatClampNeg a1) a0 1).toNatClampNeg a2) C k8 k9 dX1_addWell_46 ?_
      refine g_aload_n (pc := 47) C dX1_addWell_47 (q := 0) rfl ?_
      obtain ⟨k10, h⟩ := h
      refine gfX1_40 (pc := 48) (w := uI (uI (uI w (wR w a0 5) (wI w a0 1).toNatClampNeg a1) (wR w a0 6) (wI (uI w (wR w a0 5) (wI w a0 1).toNatClampNeg a1) a0 1).toNatClampNeg a2) (wR w a0 7) (wI (uI (uI w (wR w a0 5) (wI w a0 1).toNatClampNeg a1) (wR w a0 6) (wI (uI w (wR w a0 5) (wI w a0 1).toNatClampNeg a1) a0 1).toNatClampNeg a2) a0 1).toNatClampNeg a3) C k1 (isK_ne k10) dX1_addWell_48 ?_
      refine g_aload_n (pc := 51) C dX1_addWell_51 (q := 0) rfl ?_
      refine gfX1_15 (pc := 52) (w := uI (uI (uI w (wR w a0 5) (wI w a0 1).toNatClampNeg a1) (wR w a0 6) (wI (uI w (wR w a0 5) (wI w a0 1).toNatClampNeg a1) a0 1).toNatClampNeg a2) (wR w a0 7) (wI (uI (uI w (wR w a0 5) (wI w a0 1).toNatClampNeg a1) (wR w a0 6) (wI (uI w (wR w a0 5) (wI w a0 1).toNatClampNeg a1) a0 1).toNatClampNeg a2) a0 1).toNatClampNeg a3) C k1 dX1_addWell_52 ?_
      refine g_iload (pc := 55) C dX1_addWell_55 (q := 4) rfl ?_
      obtain ⟨k11, h⟩ := h
      refine g_iast (pc := 57) (w := uI (uI (uI w (wR w a0 5) (wI w a0 1).toNatClampNeg a1) (wR w a0 6) (wI (uI w (wR w a0 5) (wI w a0 1).toNatClampNeg a1) a0 1).toNatClampNeg a2) (wR w a0 7) (wI (uI (uI w (wR w a0 5) (wI w a0 1).toNatClampNeg a1) (wR w a0 6) (wI (uI w (wR w a0 5) (wI w a0 1).toNatClampNeg a1) a0 1).toNatClampNeg a2) a0 1).toNatClampNeg a3) C k10 k11 dX1_addWell_57 ?_
      refine g_aload_n (pc := 58) C dX1_addWell_58 (q := 0) rfl ?_
      obtain ⟨k12, h⟩ := h
      refine gfX1_43 (pc := 59) (w := uI (uI (uI (uI w (wR w a0 5) (wI w a0 1).toNatClampNeg a1) (wR w a0 6) (wI (uI w (wR w a0 5) (wI w a0 1).toNatClampNeg a1) a0 1).toNatClampNeg a2) (wR w a0 7) (wI (uI (uI w (wR w a0 5) (wI w a0 1).toNatClampNeg a1) (wR w a0 6) (wI (uI w (wR w a0 5) (wI w a0 1).toNatClampNeg a1) a0 1).toNatClampNeg a2) a0 1).toNatClampNeg a3) (wR w a0 8) (wI (uI (uI (uI w (wR w a0 5) (wI w a0 1).toNatClampNeg a1) (wR w a0 6) (wI (uI w (wR w a0 5) (wI w a0 1).toNatClampNeg a1) a0 1).toNatClampNeg a2) (wR w a0 7) (wI (uI (uI w (wR w a0 5) (wI w a0 1).toNatClampNeg a1) (wR w a0 6) (wI (uI w (wR w a0 5) (wI w a0 1).toNatClampNeg a1) a0 1).toNatClampNeg a2) a0 1).toNatClampNeg a3) a0 1).toNatClampNeg a4) C k1 (isK_ne k12) dX1_addWell_59 ?_
      refine g_aload_n (pc := 62) C dX1_addWell_62 (q := 0) rfl ?_
      refine gfX1_15 (pc := 63) (w := uI (uI (uI (uI w (wR w a0 5) (wI w a0 1).toNatClampNeg a1) (wR w a0 6) (wI (uI w (wR w a0 5) (wI w a0 1).toNatClampNeg a1) a0 1).toNatClampNeg a2) (wR w a0 7) (wI (uI (uI w (wR w a0 5) (wI w a0 1).toNatClampNeg a1) (wR w a0 6) (wI (uI w (wR w a0 5) (wI w a0 1).toNatClampNeg a1) a0 1).toNatClampNeg a2) a0 1).toNatClampNeg a3) (wR w a0 8) (wI (uI (uI (uI w (wR w a0 5) (wI w a0 1).toNatClampNeg a1) (wR w a0 6) (wI (uI w (wR w a0 5) (wI w a0 1).toNatClampNeg a1) a0 1).toNatClampNeg a2) (wR w a0 7) (wI (uI (uI w (wR w a0 5) (wI w a0 1).toNatClampNeg a1) (wR w a0 6) (wI (uI w (wR w a0 5) (wI w a0 1).toNatClampNeg a1) a0 1).toNatClampNeg a2) a0 1).toNatClampNeg a3) a0 1).toNatClampNeg a4) C k1 dX1_addWell_63 ?_
      refine g_iload (pc := 66) C dX1_addWell_66 (q := 5) rfl ?_
      obtain ⟨k13, h⟩ := h
      refine g_iast (pc := 68) (w := uI (uI (uI (uI w (wR w a0 5) (wI w a0 1).toNatClampNeg a1) (wR w a0 6) (wI (uI w (wR w a0 5) (wI w a0 1).toNatClampNeg a1) a0 1).toNatClampNeg a2) (wR w a0 7) (wI (uI (uI w (wR w a0 5) (wI w a0 1).toNatClampNeg a1) (wR w a0 6) (wI (uI w (wR w a0 5) (wI w a0 1).toNatClampNeg a1) a0 1).toNatClampNeg a2) a0 1).toNatClampNeg a3) (wR w a0 8) (wI (uI (uI (uI w (wR w a0 5) (wI w a0 1).toNatClampNeg a1) (wR w a0 6) (wI (uI w (wR w a0 5) (wI w a0 1).toNatClampNeg a1) a0 1).toNatClampNeg a2) (wR w a0 7) (wI (uI (uI w (wR w a0 5) (wI w a0 1).toNatClampNeg a1) (wR w a0 6) (wI (uI w (wR w a0 5) (wI w a0 1).toNatClampNeg a1) a0 1).toNatClampNeg a2) a0 1).toNatClampNeg a3) a0 1).toNatClampNeg a4) C k12 k13 dX1_addWell_68 ?_
      refine g_aload_n (pc := 69) C dX1_addWell_69 (q := 0) rfl ?_
      refine g_dup (pc := 70) C dX1_addWell_70 rfl ?_
      refine gfX1_15 (pc := 71) (w := uI (uI (uI (uI (uI w (wR w a0 5) (wI w a0 1).toNatClampNeg a1) (wR w a0 6) (wI (uI w (wR w a0 5) (wI w a0 1).toNatClampNeg a1) a0 1).toNatClampNeg a2) (wR w a0 7) (wI (uI (uI w (wR w a0 5) (wI w a0 1).toNatClampNeg a1) (wR w a0 6) (wI (uI w (wR w a0 5) (wI w a0 1).toNatClampNeg a1) a0 1).toNatClampNeg a2) a0 1).toNatClampNeg a3) (wR w a0 8) (wI (uI (uI (uI w (wR w a0 5) (wI w a0 1).toNatClampNeg a1) (wR w a0 6) (wI (uI w (wR w a0 5) (wI w a0 1).toNatClampNeg a1) a0 1).toNatClampNeg a2) (wR w a0 7) (wI (uI (uI w (wR w a0 5) (wI w a0 1).toNatClampNeg a1) (wR w a0 6) (wI (uI w (wR w a0 5) (wI w a0 1).toNatClampNeg a1) a0 1).toNatClampNeg a2) a0 1).toNatClampNeg a3) a0 1).toNatClampNeg a4) (wR w a0 9) (wI (uI (uI (uI (uI w (wR w a0 5) (wI w a0 1).toNatClampNeg a1) (wR w a0 6) (wI (uI w (wR w a0 5) (wI w a0 1).toNatClampNeg a1) a0 1).toNatClampNeg a2) (wR w a0 7) (wI (uI (uI w (wR w a0 5) (wI w a0 1).toNatClampNeg a1) (wR w a0 6) (wI (uI w (wR w a0 5) (wI w a0 1).toNatClampNeg a1) a0 1).toNatClampNeg a2) a0 1).toNatClampNeg a3) (wR w a0 8) (wI (uI (uI (uI w (wR w a0 5) (wI w a0 1).toNatClampNeg a1) (wR w a0 6) (wI (uI w (wR w a0 5) (wI w a0 1).toNatClampNeg a1) a0 1).toNatClampNeg a2) (wR w a0 7) (wI (uI (uI w (wR w a0 5) (wI w a0 1).toNatClampNeg a1) (wR w a0 6) (wI (uI w (wR w a0 5) (wI w a0 1).toNatClampNeg a1) a0 1).toNatClampNeg a2) a0 1).toNatClampNeg a3) a0 1).toNatClampNeg a4) a0 1).toNatClampNeg a5) C k1 dX1_addWell_71 ?_
      refine g_iconst (pc := 74) C dX1_addWell_74 (v := 1) rfl ?_
      refine g_iadd (pc := 75) C dX1_addWell_75 ?_
      refine pfX1_15 (pc := 76) (w := uI (uI (uI (uI (uI w (wR w a0 5) (wI w a0 1).toNatClampNeg a1) (wR w a0 6) (wI (uI w (wR w a0 5) (wI w a0 1).toNatClampNeg a1) a0 1).toNatClampNeg a2) (wR w a0 7) (wI (uI (uI w (wR w a0 5) (wI w a0 1).toNatClampNeg a1) (wR w a0 6) (wI (uI w (wR w a0 5) (wI w a0 1).toNatClampNeg a1) a0 1).toNatClampNeg a2) a0 1).toNatClampNeg a3) (wR w a0 8) (wI (uI (uI (uI w (wR w a0 5) (wI w a0 1).toNatClampNeg a1) (wR w a0 6) (wI (uI w (wR w a0 5) (wI w a0 1).toNatClampNeg a1) a0 1).toNatClampNeg a2) (wR w a0 7) (wI (uI (uI w (wR w a0 5) (wI w a0 1).toNatClampNeg a1) (wR w a0 6) (wI (uI w (wR w a0 5) (wI w a0 1).toNatClampNeg a1) a0 1).toNatClampNeg a2) a0 1).toNatClampNeg a3) a0 1).toNatClampNeg a4) (wR w a0 9) (wI (uI (uI (uI (uI w (wR w a0 5) (wI w a0 1).toNatClampNeg a1) (wR w a0 6) (wI (uI w (wR w a0 5) (wI w a0 1).toNatClampNeg a1) a0 1).toNatClampNeg a2) (wR w a0 7) (wI (uI (uI w (wR w a0 5) (wI w a0 1).toNatClampNeg a1) (wR w a0 6) (wI (uI w (wR w a0 5) (wI w a0 1).toNatClampNeg a1) a0 1).toNatClampNeg a2) a0 1).toNatClampNeg a3) (wR w a0 8) (wI (uI (uI (uI w (wR w a0 5) (wI w a0 1).toNatClampNeg a1) (wR w a0 6) (wI (uI w (wR w a0 5) (wI w a0 1).toNatClampNeg a1) a0 1).toNatClampNeg a2) (wR w a0 7) (wI (uI (uI w (wR w a0 5) (wI w a0 1).toNatClampNeg a1) (wR w a0 6) (wI (uI w (wR w a0 5) (wI w a0 1).toNatClampNeg a1) a0 1).toNatClampNeg a2) a0 1).toNatClampNeg a3) a0 1).toNatClampNeg a4) a0 1).toNatClampNeg a5) C k1 dX1_addWell_76 ?_
      exact g_vret (pc := 79) C hlk hr (Nat.le_refl _) (Nat.le_refl _) dX1_addWell_79 h
    · replace h := h.2 z3
      exact g_vret (pc := 16) C hlk hr (Nat.le_refl _) (Nat.le_refl _) dX1_addWell_16 h
def w_X1_allWells (a0 : Nat) (K : Int32 → Wd → Prop) (w : Wd) : Prop :=
  isK w a0 1 ∧ K ((x_ishl 1 (wI w a0 1)) - 1) w
theorem c_X1_allWells {x : xG} {l : Launch} {a0 : Nat} {K : Int32 → Wd → Prop} {w : Wd} (h : w_X1_allWells a0 K w) : Met l yX1_allWells (xws yX1_allWells cX1_allWells 1 (some .int)) (rmd 0 0 0) (xPc x [.ref (adr x a0)] w) (QcI x K) 0 0 (xA x) := by
  refine xMet (by decide) (Nat.le_of_ble_eq_true rfl) (fun p e s m below meth c C hlk hr _ => ?_)
  show GW x p l e (rmd 0 0 0) s m [.ref (adr x a0)].toArray below meth c 1 (QI x K below [.ref (adr x a0)].toArray s 0 0) 0 [(0, .ref (adr x a0))] [] w 0 0
  refine g_iconst (pc := 0) C dX1_allWells_0 (v := 1) rfl ?_
  refine g_aload_n (pc := 1) C dX1_allWells_1 (q := 0) rfl ?_
  obtain ⟨k1, h⟩ := h
  refine gfX1_15 (pc := 2) C k1 dX1_allWells_2 ?_
  refine h_ishl (pc := 5) C dX1_allWells_5 ?_
  refine g_iconst (pc := 6) C dX1_allWells_6 (v := 1) rfl ?_
  refine g_isub (pc := 7) C dX1_allWells_7 ?_
  exact g_iret (pc := 8) C hlk hr (Nat.le_refl _) (Nat.le_refl _) dX1_allWells_8 h
def w_X1_besideOf (a0 : Nat) (a1 : Int32) (K : Int32 → Wd → Prop) (w : Wd) : Prop :=
  ((a1 < 0 → K 0 w) ∧ (¬ a1 < 0 → isK w a0 1 ∧ isK w (wR w a0 10) 20 ∧ (((Int32.ofNat (wn w (wR w a0 10))) ≤ a1 → K 0 w) ∧ (¬ (Int32.ofNat (wn w (wR w a0 10))) ≤ a1 → vp_in a1 (wn w (wR w a0 10)) ∧ K (wI w (wR w a0 10) a1.toNatClampNeg) w))))
theorem c_X1_besideOf {x : xG} {l : Launch} {a0 : Nat} {a1 : Int32} {K : Int32 → Wd → Prop} {w : Wd} (h : w_X1_besideOf a0 a1 K w) : Met l yX1_besideOf (xws yX1_besideOf cX1_besideOf 2 (some .int)) (rmd 0 0 0) (xPc x [.ref (adr x a0), .int a1] w) (QcI x K) 0 0 (xA x) := by
  refine xMet (by decide) (Nat.le_of_ble_eq_true rfl) (fun p e s m below meth c C hlk hr _ => ?_)
  show GW x p l e (rmd 0 0 0) s m [.ref (adr x a0), .int a1].toArray below meth c 2 (QI x K below [.ref (adr x a0), .int a1].toArray s 0 0) 0 [(0, .ref (adr x a0)), (1, .int a1)] [] w 0 0
  refine g_iload_n (pc := 0) C dX1_besideOf_0 (q := 1) rfl ?_
  refine g_if_lt (pc := 1) C dX1_besideOf_1 (tgt := 22) rfl (fun z1 => ?_) (fun z1 => ?_)
  · replace h := h.1 z1
    refine g_iconst (pc := 22) C dX1_besideOf_22 (v := 0) rfl ?_
    exact g_iret (pc := 23) C hlk hr (Nat.le_refl _) (Nat.le_refl _) dX1_besideOf_23 h
  · replace h := h.2 z1
    refine g_iload_n (pc := 4) C dX1_besideOf_4 (q := 1) rfl ?_
    refine g_aload_n (pc := 5) C dX1_besideOf_5 (q := 0) rfl ?_
    obtain ⟨k2, h⟩ := h
    obtain ⟨k3, h⟩ := h
    refine gfX1_46 (pc := 6) C k2 (isK_ne k3) dX1_besideOf_6 ?_
    refine g_alen (pc := 9) C k3 (by decide) dX1_besideOf_9 ?_
    refine g_icmp_ge (pc := 10) C dX1_besideOf_10 (tgt := 22) rfl (fun z4 => ?_) (fun z4 => ?_)
    · replace h := h.1 z4
      refine g_iconst (pc := 22) C dX1_besideOf_22 (v := 0) rfl ?_
      exact g_iret (pc := 23) C hlk hr (Nat.le_refl _) (Nat.le_refl _) dX1_besideOf_23 h
    · replace h := h.2 z4
      refine g_aload_n (pc := 13) C dX1_besideOf_13 (q := 0) rfl ?_
      refine gfX1_46 (pc := 14) C k2 (isK_ne k3) dX1_besideOf_14 ?_
      refine g_iload_n (pc := 17) C dX1_besideOf_17 (q := 1) rfl ?_
      obtain ⟨k5, h⟩ := h
      refine g_iald (pc := 18) C k3 k5 dX1_besideOf_18 ?_
      refine g_goto (pc := 19) C dX1_besideOf_19 (tgt := 23) rfl ?_
      exact g_iret (pc := 23) C hlk hr (Nat.le_refl _) (Nat.le_refl _) dX1_besideOf_23 h
def w_X1_deepOf (a0 : Nat) (a1 : Int32) (K : Int32 → Wd → Prop) (w : Wd) : Prop :=
  ((a1 < 0 → K 0 w) ∧ (¬ a1 < 0 → isK w a0 1 ∧ isK w (wR w a0 8) 20 ∧ (((Int32.ofNat (wn w (wR w a0 8))) ≤ a1 → K 0 w) ∧ (¬ (Int32.ofNat (wn w (wR w a0 8))) ≤ a1 → vp_in a1 (wn w (wR w a0 8)) ∧ K (wI w (wR w a0 8) a1.toNatClampNeg) w))))
theorem c_X1_deepOf {x : xG} {l : Launch} {a0 : Nat} {a1 : Int32} {K : Int32 → Wd → Prop} {w : Wd} (h : w_X1_deepOf a0 a1 K w) : Met l yX1_deepOf (xws yX1_deepOf cX1_deepOf 2 (some .int)) (rmd 0 0 0) (xPc x [.ref (adr x a0), .int a1] w) (QcI x K) 0 0 (xA x) := by
  refine xMet (by decide) (Nat.le_of_ble_eq_true rfl) (fun p e s m below meth c C hlk hr _ => ?_)
  show GW x p l e (rmd 0 0 0) s m [.ref (adr x a0), .int a1].toArray below meth c 2 (QI x K below [.ref (adr x a0), .int a1].toArray s 0 0) 0 [(0, .ref (adr x a0)), (1, .int a1)] [] w 0 0
  refine g_iload_n (pc := 0) C dX1_deepOf_0 (q := 1) rfl ?_
  refine g_if_lt (pc := 1) C dX1_deepOf_1 (tgt := 22) rfl (fun z1 => ?_) (fun z1 => ?_)
  · replace h := h.1 z1
    refine g_iconst (pc := 22) C dX1_deepOf_22 (v := 0) rfl ?_
    exact g_iret (pc := 23) C hlk hr (Nat.le_refl _) (Nat.le_refl _) dX1_deepOf_23 h
  · replace h := h.2 z1
    refine g_iload_n (pc := 4) C dX1_deepOf_4 (q := 1) rfl ?_
    refine g_aload_n (pc := 5) C dX1_deepOf_5 (q := 0) rfl ?_
    obtain ⟨k2, h⟩ := h
    obtain ⟨k3, h⟩ := h
    refine gfX1_40 (pc := 6) C k2 (isK_ne k3) dX1_deepOf_6 ?_
    refine g_alen (pc := 9) C k3 (by decide) dX1_deepOf_9 ?_
    refine g_icmp_ge (pc := 10) C dX1_deepOf_10 (tgt := 22) rfl (fun z4 => ?_) (fun z4 => ?_)
    · replace h := h.1 z4
      refine g_iconst (pc := 22) C dX1_deepOf_22 (v := 0) rfl ?_
      exact g_iret (pc := 23) C hlk hr (Nat.le_refl _) (Nat.le_refl _) dX1_deepOf_23 h
    · replace h := h.2 z4
      refine g_aload_n (pc := 13) C dX1_deepOf_13 (q := 0) rfl ?_
      refine gfX1_40 (pc := 14) C k2 (isK_ne k3) dX1_deepOf_14 ?_
      refine g_iload_n (pc := 17) C dX1_deepOf_17 (q := 1) rfl ?_
      obtain ⟨k5, h⟩ := h
      refine g_iald (pc := 18) C k3 k5 dX1_deepOf_18 ?_
      refine g_goto (pc := 19) C dX1_deepOf_19 (tgt := 23) rfl ?_
      exact g_iret (pc := 23) C hlk hr (Nat.le_refl _) (Nat.le_refl _) dX1_deepOf_23 h
def w_X1_roundOf (a0 : Nat) (a1 : Int32) (K : Int32 → Wd → Prop) (w : Wd) : Prop :=
  ((a1 < 0 → K 0 w) ∧ (¬ a1 < 0 → isK w a0 1 ∧ isK w (wR w a0 5) 20 ∧ (((Int32.ofNat (wn w (wR w a0 5))) ≤ a1 → K 0 w) ∧ (¬ (Int32.ofNat (wn w (wR w a0 5))) ≤ a1 → vp_in a1 (wn w (wR w a0 5)) ∧ K (wI w (wR w a0 5) a1.toNatClampNeg) w))))
theorem c_X1_roundOf {x : xG} {l : Launch} {a0 : Nat} {a1 : Int32} {K : Int32 → Wd → Prop} {w : Wd} (h : w_X1_roundOf a0 a1 K w) : Met l yX1_roundOf (xws yX1_roundOf cX1_roundOf 2 (some .int)) (rmd 0 0 0) (xPc x [.ref (adr x a0), .int a1] w) (QcI x K) 0 0 (xA x) := by
  refine xMet (by decide) (Nat.le_of_ble_eq_true rfl) (fun p e s m below meth c C hlk hr _ => ?_)
  show GW x p l e (rmd 0 0 0) s m [.ref (adr x a0), .int a1].toArray below meth c 2 (QI x K below [.ref (adr x a0), .int a1].toArray s 0 0) 0 [(0, .ref (adr x a0)), (1, .int a1)] [] w 0 0
  refine g_iload_n (pc := 0) C dX1_roundOf_0 (q := 1) rfl ?_
  refine g_if_lt (pc := 1) C dX1_roundOf_1 (tgt := 22) rfl (fun z1 => ?_) (fun z1 => ?_)
  · replace h := h.1 z1
    refine g_iconst (pc := 22) C dX1_roundOf_22 (v := 0) rfl ?_
    exact g_iret (pc := 23) C hlk hr (Nat.le_refl _) (Nat.le_refl _) dX1_roundOf_23 h
  · replace h := h.2 z1
    refine g_iload_n (pc := 4) C dX1_roundOf_4 (q := 1) rfl ?_
    refine g_aload_n (pc := 5) C dX1_roundOf_5 (q := 0) rfl ?_
    obtain ⟨k2, h⟩ := h
    obtain ⟨k3, h⟩ := h
    refine gfX1_31 (pc := 6) C k2 (isK_ne k3) dX1_roundOf_6 ?_
    refine g_alen (pc := 9) C k3 (by decide) dX1_roundOf_9 ?_
    refine g_icmp_ge (pc := 10) C dX1_roundOf_10 (tgt := 22) rfl (fun z4 => ?_) (fun z4 => ?_)
    · replace h := h.1 z4
      refine g_iconst (pc := 22) C dX1_roundOf_22 (v := 0) rfl ?_
      exact g_iret (pc := 23) C hlk hr (Nat.le_refl _) (Nat.le_refl _) dX1_roundOf_23 h
    · replace h := h.2 z4
      refine g_aload_n (pc := 13) C dX1_roundOf_13 (q := 0) rfl ?_
      refine gfX1_31 (pc := 14) C k2 (isK_ne k3) dX1_roundOf_14 ?_
      refine g_iload_n (pc := 17) C dX1_roundOf_17 (q := 1) rfl ?_
      obtain ⟨k5, h⟩ := h
      refine g_iald (pc := 18) C k3 k5 dX1_roundOf_18 ?_
      refine g_goto (pc := 19) C dX1_roundOf_19 (tgt := 23) rfl ?_
      exact g_iret (pc := 23) C hlk hr (Nat.le_refl _) (Nat.le_refl _) dX1_roundOf_23 h
end ME
