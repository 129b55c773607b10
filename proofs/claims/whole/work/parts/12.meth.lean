/-! methods: X12_dry, X12_fault, X12_feed, X12_finds, X12_firstOf, X12_heardIn, X12_fitsSeen, X12_fitting, X12_waterAll, X12_fullest, X12_goesIn, X12_hasIn, X12_number, X12_wellTold, X12_readBeside, X12_mustSign, X12_readStop, X12_laysStep, X12_isSign, X12_hours, X12_isHouse, X12_house, X12_image, X12_jointOf, X12_joint, X12_trayFault, X12_whyLull, X12_whyTold, X12_judge -/
section ME
variable {x : xG} {p : Program} {l : Launch} {e : Env} {R : Room} {s : State} {m : MethodId} {args : Array Value} {below : List Frame} {meth : Method} {c : Code} {Q : State → Prop} {cc : ByteArray} {nL : Nat} {pc : Nat} {lo : List (Nat × Value)} {st : List Value} {w : Wd} {i j : Nat}
theorem miX12_423 (C : xC x p s m c cc nL args RX12) {a0 : Nat} {K : Wd → Prop} {D MC MS : Nat} (hq : isK w a0 12) (h : w_X12_laysQuiet a0 K w) (hD : 8 + 1 ≤ D) (hW : (st.map fun v => v.category).sum ≤ 8) (hij : i ≤ MC ∧ j ≤ MS) (hd : decode cc pc = .ok (.invokevirtual 423, 3)) (k : ∀ (u : Wd), K u → GW x p l e (rmd D MC MS) s m args below meth c nL Q (pc + 3) lo st u i j) : GW x p l e (rmd D MC MS) s m args below meth c nL Q pc lo (.ref (adr x a0) :: st) w i j := g_callVv0 C (As := []) (ci := 12) (c_X12_laysQuiet h) (x_cwV C 0 LMX12_423 ⟨rfl, by decide, by decide, rfl⟩ hD (by decide)) rfl hq (by decide) rfl rfl hW hd hij k
def l_X12_dry_13  (K : Int32 → Wd → Prop) : Nat → Nat → Int32 → Int32 → Wd → Prop
  | 0, _, _, _, _ => False
  | n + 1, a0, a1, a2, w => isK w a0 12 ∧ isK w (wR w a0 0) 20 ∧ vp_in 2 (wn w (wR w a0 0)) ∧ (((wI w (wR w a0 0) (2 : Int32).toNatClampNeg) ≤ a2 → K a1 w) ∧ (¬ (wI w (wR w a0 0) (2 : Int32).toNatClampNeg) ≤ a2 → isK w (wR w a0 21) 21 ∧ vp_in a2 (wn w (wR w a0 21)) ∧ (((lg_cmp (wL w (wR w a0 21) a2.toNatClampNeg) 0) = 0 → l_X12_dry_13 K n a0 (a1 ||| (x_ishl 1 a2)) (a2 + 1) w) ∧ (¬ (lg_cmp (wL w (wR w a0 21) a2.toNatClampNeg) 0) = 0 → l_X12_dry_13 K n a0 (a1 ||| 0) (a2 + 1) w))))
def w_X12_dry (a0 : Nat) (K : Int32 → Wd → Prop) (w : Wd) : Prop :=
  isK w a0 12 ∧ w_X12_laysQuiet a0 (fun w2 => ∃ n10, l_X12_dry_13  K n10 a0 0 0 w2) (uI w a0 4 0)
theorem t_X12_dry_13 (C : xC x p s m c cX12_dry 3 args RX12) (hlk : meth.locks = false) (hr : meth.sig.returnType = some .int) {K : Int32 → Wd → Prop}   : ∀ (n : Nat) (a0 : Nat) (a1 : Int32) (a2 : Int32) (w : Wd), l_X12_dry_13 K n a0 a1 a2 w → GW x p l e (rmd 9 0 0) s m args below meth c 3 (QI x K below args s 0 0) 13 [(0, .ref (adr x a0)), (1, .int a1), (2, .int a2)] [] w 0 0 := by
  intro n
  induction n with
  | zero => intro _ _ _ _ h; exact False.elim h
  | succ n ih =>
    intro a0 a1 a2 w h
    refine g_iload_n (pc := 13) C dX12_dry_13 (q := 2) rfl ?_
    refine g_aload_n (pc := 14) C dX12_dry_14 (q := 0) rfl ?_
    obtain ⟨k3, h⟩ := h
    obtain ⟨k4, h⟩ := h
    refine gfX12_9 (pc := 15) C k3 (isK_ne k4) dX12_dry_15 ?_
    refine g_iconst (pc := 18) C dX12_dry_18 (v := 2) rfl ?_
    obtain ⟨k5, h⟩ := h
    refine g_iald (pc := 19) C k4 k5 dX12_dry_19 ?_
    refine g_icmp_ge (pc := 20) C dX12_dry_20 (tgt := 50) rfl (fun z6 => ?_) (fun z6 => ?_)
    · replace h := h.1 z6
      refine g_iload_n (pc := 50) C dX12_dry_50 (q := 1) rfl ?_
      exact g_iret (pc := 51) C hlk hr (Nat.le_refl _) (Nat.le_refl _) dX12_dry_51 h
    · replace h := h.2 z6
      refine g_iload_n (pc := 23) C dX12_dry_23 (q := 1) rfl ?_
      refine g_aload_n (pc := 24) C dX12_dry_24 (q := 0) rfl ?_
      obtain ⟨k7, h⟩ := h
      refine gfX12_39 (pc := 25) C k3 (isK_ne k7) dX12_dry_25 ?_
      refine g_iload_n (pc := 28) C dX12_dry_28 (q := 2) rfl ?_
      obtain ⟨k8, h⟩ := h
      refine g_lald (pc := 29) C k7 k8 dX12_dry_29 ?_
      refine g_lconst (pc := 30) C dX12_dry_30 (v := 0) rfl ?_
      refine g_lcmp (pc := 31) C dX12_dry_31 ?_
      refine g_if_ne (pc := 32) C dX12_dry_32 (tgt := 41) rfl (fun z9 => ?_) (fun z9 => ?_)
      · replace h := h.2 z9
        refine g_iconst (pc := 41) C dX12_dry_41 (v := 0) rfl ?_
        refine g_ior (pc := 42) C dX12_dry_42 ?_
        refine g_istore_n (pc := 43) C dX12_dry_43 (Nat.le_of_ble_eq_true rfl) (lo' := [(1, .int (a1 ||| 0)), (0, .ref (adr x a0)), (2, .int a2)]) rfl ?_
        refine g_iinc (pc := 44) C dX12_dry_44 (q := 2) rfl (v2 := a2 + 1) rfl (Nat.le_of_ble_eq_true rfl) (lo' := [(2, .int (a2 + 1)), (1, .int (a1 ||| 0)), (0, .ref (adr x a0))]) rfl ?_
        refine g_goto (pc := 47) C dX12_dry_47 (tgt := 13) rfl ?_
        refine g_sub [2, 1, 0] rfl ?_
        exact ih _ _ _ _ h
      · replace h := h.1 z9
        refine g_iconst (pc := 35) C dX12_dry_35 (v := 1) rfl ?_
        refine g_iload_n (pc := 36) C dX12_dry_36 (q := 2) rfl ?_
        refine h_ishl (pc := 37) C dX12_dry_37 ?_
        refine g_goto (pc := 38) C dX12_dry_38 (tgt := 42) rfl ?_
        refine g_ior (pc := 42) C dX12_dry_42 ?_
        refine g_istore_n (pc := 43) C dX12_dry_43 (Nat.le_of_ble_eq_true rfl) (lo' := [(1, .int (a1 ||| (x_ishl 1 a2))), (0, .ref (adr x a0)), (2, .int a2)]) rfl ?_
        refine g_iinc (pc := 44) C dX12_dry_44 (q := 2) rfl (v2 := a2 + 1) rfl (Nat.le_of_ble_eq_true rfl) (lo' := [(2, .int (a2 + 1)), (1, .int (a1 ||| (x_ishl 1 a2))), (0, .ref (adr x a0))]) rfl ?_
        refine g_goto (pc := 47) C dX12_dry_47 (tgt := 13) rfl ?_
        refine g_sub [2, 1, 0] rfl ?_
        exact ih _ _ _ _ h
theorem c_X12_dry {x : xG} {l : Launch} {a0 : Nat} {K : Int32 → Wd → Prop} {w : Wd} (h : w_X12_dry a0 K w) : Met l yX12_dry (xws yX12_dry cX12_dry 3 (some .int)) (rmd 9 0 0) (xPc x [.ref (adr x a0)] w) (QcI x K) 0 0 (xA x) := by
  refine xMet (by decide) (Nat.le_of_ble_eq_true rfl) (fun p e s m below meth c C hlk hr _ => ?_)
  show GW x p l e (rmd 9 0 0) s m [.ref (adr x a0)].toArray below meth c 3 (QI x K below [.ref (adr x a0)].toArray s 0 0) 0 [(0, .ref (adr x a0))] [] w 0 0
  refine g_aload_n (pc := 0) C dX12_dry_0 (q := 0) rfl ?_
  refine g_iconst (pc := 1) C dX12_dry_1 (v := 0) rfl ?_
  obtain ⟨k1, h⟩ := h
  refine pfX12_58 (pc := 2) C k1 dX12_dry_2 ?_
  refine g_aload_n (pc := 5) C dX12_dry_5 (q := 0) rfl ?_
  refine miX12_423 (pc := 6) (w := uI w a0 4 0) C k1 h (Nat.le_of_ble_eq_true rfl) (Nat.le_of_ble_eq_true rfl) ⟨Nat.le_refl _, Nat.le_refl _⟩ dX12_dry_6 (fun w2 h => ?_)
  refine g_iconst (pc := 9) C dX12_dry_9 (v := 0) rfl ?_
  refine g_istore_n (pc := 10) C dX12_dry_10 (Nat.le_of_ble_eq_true rfl) (lo' := [(1, .int 0), (0, .ref (adr x a0))]) rfl ?_
  refine g_iconst (pc := 11) C dX12_dry_11 (v := 0) rfl ?_
  refine g_istore_n (pc := 12) C dX12_dry_12 (Nat.le_of_ble_eq_true rfl) (lo' := [(2, .int 0), (1, .int 0), (0, .ref (adr x a0))]) rfl ?_
  obtain ⟨n10, h⟩ := h
  refine g_sub [2, 1, 0] rfl ?_
  refine t_X12_dry_13 C hlk hr n10 _ _ _ _ h
def w_X12_fault (a0 : Nat) (a1 : Int32) (K : Int32 → Wd → Prop) (w : Wd) : Prop :=
  isK w a0 12 ∧ ((a1 = 0 → K (wI (uI w a0 4 0) a0 14) (uI w a0 4 0)) ∧ (¬ a1 = 0 → ((a1 = 1 → K (wI (uI w a0 4 0) a0 15) (uI w a0 4 0)) ∧ (¬ a1 = 1 → K (-1) (uI w a0 4 0)))))
theorem c_X12_fault {x : xG} {l : Launch} {a0 : Nat} {a1 : Int32} {K : Int32 → Wd → Prop} {w : Wd} (h : w_X12_fault a0 a1 K w) : Met l yX12_fault (xws yX12_fault cX12_fault 2 (some .int)) (rmd 0 0 0) (xPc x [.ref (adr x a0), .int a1] w) (QcI x K) 0 0 (xA x) := by
  refine xMet (by decide) (Nat.le_of_ble_eq_true rfl) (fun p e s m below meth c C hlk hr _ => ?_)
  show GW x p l e (rmd 0 0 0) s m [.ref (adr x a0), .int a1].toArray below meth c 2 (QI x K below [.ref (adr x a0), .int a1].toArray s 0 0) 0 [(0, .ref (adr x a0)), (1, .int a1)] [] w 0 0
  refine g_aload_n (pc := 0) C dX12_fault_0 (q := 0) rfl ?_
  refine g_iconst (pc := 1) C dX12_fault_1 (v := 0) rfl ?_
  obtain ⟨k1, h⟩ := h
  refine pfX12_58 (pc := 2) C k1 dX12_fault_2 ?_
  refine g_iload_n (pc := 5) C dX12_fault_5 (q := 1) rfl ?_
  refine g_if_ne (pc := 6) C dX12_fault_6 (tgt := 16) rfl (fun z2 => ?_) (fun z2 => ?_)
  · replace h := h.2 z2
    refine g_iload_n (pc := 16) C dX12_fault_16 (q := 1) rfl ?_
    refine g_iconst (pc := 17) C dX12_fault_17 (v := 1) rfl ?_
    refine g_icmp_ne (pc := 18) C dX12_fault_18 (tgt := 28) rfl (fun z3 => ?_) (fun z3 => ?_)
    · replace h := h.2 z3
      refine g_iconst (pc := 28) C dX12_fault_28 (v := (-1)) rfl ?_
      exact g_iret (pc := 29) C hlk hr (Nat.le_refl _) (Nat.le_refl _) dX12_fault_29 h
    · replace h := h.1 z3
      refine g_aload_n (pc := 21) C dX12_fault_21 (q := 0) rfl ?_
      refine gfX12_26 (pc := 22) (w := uI w a0 4 0) C k1 dX12_fault_22 ?_
      refine g_goto (pc := 25) C dX12_fault_25 (tgt := 29) rfl ?_
      exact g_iret (pc := 29) C hlk hr (Nat.le_refl _) (Nat.le_refl _) dX12_fault_29 h
  · replace h := h.1 z2
    refine g_aload_n (pc := 9) C dX12_fault_9 (q := 0) rfl ?_
    refine gfX12_236 (pc := 10) (w := uI w a0 4 0) C k1 dX12_fault_10 ?_
    refine g_goto (pc := 13) C dX12_fault_13 (tgt := 29) rfl ?_
    exact g_iret (pc := 29) C hlk hr (Nat.le_refl _) (Nat.le_refl _) dX12_fault_29 h
def j_X12_feed_76 (B : Nat → Int32 → Int32 → Int32 → Int32 → Int32 → Int32 → Wd → Prop)  (K : Int32 → Wd → Prop) (a0 : Nat) (a1 : Int32) (a2 : Int32) (a3 : Int32) (a4 : Int32) (a5 : Int32) (a6 : Int32) (s0 : Int32) (w : Wd) : Prop :=
  isK w a0 12 ∧ isK w (wR w a0 5) 20 ∧ vp_in (wI w a0 6) (wn w (wR w a0 5)) ∧ B a0 a1 a2 a3 a4 a5 (a6 + 1) (uI (uI w (wR w a0 5) (wI w a0 6).toNatClampNeg ((x_iushr s0 (24 - (8 * (a6 &&& 3)))) &&& 255)) a0 6 ((wI (uI w (wR w a0 5) (wI w a0 6).toNatClampNeg ((x_iushr s0 (24 - (8 * (a6 &&& 3)))) &&& 255)) a0 6) + 1))
def l_X12_feed_23  (K : Int32 → Wd → Prop) : Nat → Nat → Int32 → Int32 → Int32 → Int32 → Int32 → Int32 → Wd → Prop
  | 0, _, _, _, _, _, _, _, _ => False
  | n + 1, a0, a1, a2, a3, a4, a5, a6, w => ((20 ≤ a6 → isK w a0 12 ∧ K (wI w a0 6) w) ∧ (¬ 20 ≤ a6 → ((4 ≤ a6 → ((8 ≤ a6 → ((12 ≤ a6 → ((16 ≤ a6 → j_X12_feed_76 (l_X12_feed_23 K n) K a0 a1 a2 a3 a4 a5 a6 a5 w) ∧ (¬ 16 ≤ a6 → j_X12_feed_76 (l_X12_feed_23 K n) K a0 a1 a2 a3 a4 a5 a6 a4 w))) ∧ (¬ 12 ≤ a6 → j_X12_feed_76 (l_X12_feed_23 K n) K a0 a1 a2 a3 a4 a5 a6 a3 w))) ∧ (¬ 8 ≤ a6 → j_X12_feed_76 (l_X12_feed_23 K n) K a0 a1 a2 a3 a4 a5 a6 a2 w))) ∧ (¬ 4 ≤ a6 → j_X12_feed_76 (l_X12_feed_23 K n) K a0 a1 a2 a3 a4 a5 a6 a1 w))))
def w_X12_feed (a0 : Nat) (a1 : Int32) (a2 : Int32) (a3 : Int32) (a4 : Int32) (a5 : Int32) (K : Int32 → Wd → Prop) (w : Wd) : Prop :=
  isK w a0 12 ∧ ((((wI (uI w a0 4 0) a0 6) + 20) ≤ 900 → ∃ n12, l_X12_feed_23  K n12 a0 a1 a2 a3 a4 a5 0 (uI w a0 4 0)) ∧ (¬ ((wI (uI w a0 4 0) a0 6) + 20) ≤ 900 → K (-1) (uI w a0 4 0)))
theorem t_X12_feed_76 (C : xC x p s m c cX12_feed 8 args RX12) (hlk : meth.locks = false) (hr : meth.sig.returnType = some .int) {K : Int32 → Wd → Prop} {B : Nat → Int32 → Int32 → Int32 → Int32 → Int32 → Int32 → Wd → Prop}  (hB : ∀ (b0 : Nat) (b1 : Int32) (b2 : Int32) (b3 : Int32) (b4 : Int32) (b5 : Int32) (b6 : Int32) (w : Wd), B b0 b1 b2 b3 b4 b5 b6 w → GW x p l e (rmd 0 0 0) s m args below meth c 8 (QI x K below args s 0 0) 23 [(0, .ref (adr x b0)), (1, .int b1), (2, .int b2), (3, .int b3), (4, .int b4), (5, .int b5), (6, .int b6)] [] w 0 0)  (a0 : Nat) (a1 : Int32) (a2 : Int32) (a3 : Int32) (a4 : Int32) (a5 : Int32) (a6 : Int32) (s0 : Int32) (w : Wd) (h : j_X12_feed_76 B K a0 a1 a2 a3 a4 a5 a6 s0 w) : GW x p l e (rmd 0 0 0) s m args below meth c 8 (QI x K below args s 0 0) 76 [(0, .ref (adr x a0)), (1, .int a1), (2, .int a2), (3, .int a3), (4, .int a4), (5, .int a5), (6, .int a6)] [.int s0] w 0 0 := by
  refine g_istore (pc := 76) C dX12_feed_76 (Nat.le_of_ble_eq_true rfl) (lo' := [(7, .int s0), (0, .ref (adr x a0)), (1, .int a1), (2, .int a2), (3, .int a3), (4, .int a4), (5, .int a5), (6, .int a6)]) rfl ?_
  refine g_aload_n (pc := 78) C dX12_feed_78 (q := 1) rfl ?_
  obtain ⟨k9, h⟩ := h
  obtain ⟨k10, h⟩ := h
  refine gfX12_23 (pc := 79) C k9 (isK_ne k10) dX12_feed_79 ?_
  refine g_aload_n (pc := 82) C dX12_feed_82 (q := 1) rfl ?_
  refine gfX12_61 (pc := 83) C k9 dX12_feed_83 ?_
  refine g_iload (pc := 86) C dX12_feed_86 (q := 0) rfl ?_
  refine g_bipush (pc := 88) C dX12_feed_88 (v := 24) rfl ?_
  refine g_bipush (pc := 90) C dX12_feed_90 (v := 8) rfl ?_
  refine g_iload (pc := 92) C dX12_feed_92 (q := 7) rfl ?_
  refine g_iconst (pc := 94) C dX12_feed_94 (v := 3) rfl ?_
  refine g_iand (pc := 95) C dX12_feed_95 ?_
  refine g_imul (pc := 96) C dX12_feed_96 ?_
  refine g_isub (pc := 97) C dX12_feed_97 ?_
  refine h_iushr (pc := 98) C dX12_feed_98 ?_
  refine g_sipush (pc := 99) C dX12_feed_99 (v := 255) rfl ?_
  refine g_iand (pc := 102) C dX12_feed_102 ?_
  obtain ⟨k11, h⟩ := h
  refine g_iast (pc := 103) C k10 k11 dX12_feed_103 ?_
  refine g_aload_n (pc := 104) C dX12_feed_104 (q := 1) rfl ?_
  refine g_dup (pc := 105) C dX12_feed_105 rfl ?_
  refine gfX12_61 (pc := 106) (w := uI w (wR w a0 5) (wI w a0 6).toNatClampNeg ((x_iushr s0 (24 - (8 * (a6 &&& 3)))) &&& 255)) C k9 dX12_feed_106 ?_
  refine g_iconst (pc := 109) C dX12_feed_109 (v := 1) rfl ?_
  refine g_iadd (pc := 110) C dX12_feed_110 ?_
  refine pfX12_61 (pc := 111) (w := uI w (wR w a0 5) (wI w a0 6).toNatClampNeg ((x_iushr s0 (24 - (8 * (a6 &&& 3)))) &&& 255)) C k9 dX12_feed_111 ?_
  refine g_iinc (pc := 114) C dX12_feed_114 (q := 7) rfl (v2 := a6 + 1) rfl (Nat.le_of_ble_eq_true rfl) (lo' := [(6, .int (a6 + 1)), (7, .int s0), (0, .ref (adr x a0)), (1, .int a1), (2, .int a2), (3, .int a3), (4, .int a4), (5, .int a5)]) rfl ?_
  refine g_goto (pc := 117) C dX12_feed_117 (tgt := 23) rfl ?_
  refine g_sub [2, 3, 4, 5, 6, 7, 0] rfl ?_
  exact hB _ _ _ _ _ _ _ _ h
theorem t_X12_feed_23 (C : xC x p s m c cX12_feed 8 args RX12) (hlk : meth.locks = false) (hr : meth.sig.returnType = some .int) {K : Int32 → Wd → Prop}   : ∀ (n : Nat) (a0 : Nat) (a1 : Int32) (a2 : Int32) (a3 : Int32) (a4 : Int32) (a5 : Int32) (a6 : Int32) (w : Wd), l_X12_feed_23 K n a0 a1 a2 a3 a4 a5 a6 w → GW x p l e (rmd 0 0 0) s m args below meth c 8 (QI x K below args s 0 0) 23 [(0, .ref (adr x a0)), (1, .int a1), (2, .int a2), (3, .int a3), (4, .int a4), (5, .int a5), (6, .int a6)] [] w 0 0 := by
  intro n
  induction n with
  | zero => intro _ _ _ _ _ _ _ _ h; exact False.elim h
  | succ n ih =>
    intro a0 a1 a2 a3 a4 a5 a6 w h
    refine g_iload (pc := 23) C dX12_feed_23 (q := 6) rfl ?_
    refine g_bipush (pc := 25) C dX12_feed_25 (v := 20) rfl ?_
    refine g_icmp_ge (pc := 27) C dX12_feed_27 (tgt := 120) rfl (fun z3 => ?_) (fun z3 => ?_)
    · replace h := h.1 z3
      refine g_aload_n (pc := 120) C dX12_feed_120 (q := 0) rfl ?_
      obtain ⟨k4, h⟩ := h
      refine gfX12_61 (pc := 121) C k4 dX12_feed_121 ?_
      exact g_iret (pc := 124) C hlk hr (Nat.le_refl _) (Nat.le_refl _) dX12_feed_124 h
    · replace h := h.2 z3
      refine g_iload (pc := 30) C dX12_feed_30 (q := 6) rfl ?_
      refine g_iconst (pc := 32) C dX12_feed_32 (v := 4) rfl ?_
      refine g_icmp_ge (pc := 33) C dX12_feed_33 (tgt := 40) rfl (fun z5 => ?_) (fun z5 => ?_)
      · replace h := h.1 z5
        refine g_iload (pc := 40) C dX12_feed_40 (q := 6) rfl ?_
        refine g_bipush (pc := 42) C dX12_feed_42 (v := 8) rfl ?_
        refine g_icmp_ge (pc := 44) C dX12_feed_44 (tgt := 51) rfl (fun z6 => ?_) (fun z6 => ?_)
        · replace h := h.1 z6
          refine g_iload (pc := 51) C dX12_feed_51 (q := 6) rfl ?_
          refine g_bipush (pc := 53) C dX12_feed_53 (v := 12) rfl ?_
          refine g_icmp_ge (pc := 55) C dX12_feed_55 (tgt := 62) rfl (fun z7 => ?_) (fun z7 => ?_)
          · replace h := h.1 z7
            refine g_iload (pc := 62) C dX12_feed_62 (q := 6) rfl ?_
            refine g_bipush (pc := 64) C dX12_feed_64 (v := 16) rfl ?_
            refine g_icmp_ge (pc := 66) C dX12_feed_66 (tgt := 74) rfl (fun z8 => ?_) (fun z8 => ?_)
            · replace h := h.1 z8
              refine g_iload (pc := 74) C dX12_feed_74 (q := 5) rfl ?_
              exact t_X12_feed_76 C hlk hr ih _ _ _ _ _ _ _ _ _ h
            · replace h := h.2 z8
              refine g_iload (pc := 69) C dX12_feed_69 (q := 4) rfl ?_
              refine g_goto (pc := 71) C dX12_feed_71 (tgt := 76) rfl ?_
              exact t_X12_feed_76 C hlk hr ih _ _ _ _ _ _ _ _ _ h
          · replace h := h.2 z7
            refine g_iload_n (pc := 58) C dX12_feed_58 (q := 3) rfl ?_
            refine g_goto (pc := 59) C dX12_feed_59 (tgt := 76) rfl ?_
            exact t_X12_feed_76 C hlk hr ih _ _ _ _ _ _ _ _ _ h
        · replace h := h.2 z6
          refine g_iload_n (pc := 47) C dX12_feed_47 (q := 2) rfl ?_
          refine g_goto (pc := 48) C dX12_feed_48 (tgt := 76) rfl ?_
          exact t_X12_feed_76 C hlk hr ih _ _ _ _ _ _ _ _ _ h
      · replace h := h.2 z5
        refine g_iload_n (pc := 36) C dX12_feed_36 (q := 1) rfl ?_
        refine g_goto (pc := 37) C dX12_feed_37 (tgt := 76) rfl ?_
        exact t_X12_feed_76 C hlk hr ih _ _ _ _ _ _ _ _ _ h
theorem c_X12_feed {x : xG} {l : Launch} {a0 : Nat} {a1 : Int32} {a2 : Int32} {a3 : Int32} {a4 : Int32} {a5 : Int32} {K : Int32 → Wd → Prop} {w : Wd} (h : w_X12_feed a0 a1 a2 a3 a4 a5 K w) : Met l yX12_feed (xws yX12_feed cX12_feed 8 (some .int)) (rmd 0 0 0) (xPc x [.ref (adr x a0), .int a1, .int a2, .int a3, .int a4, .int a5] w) (QcI x K) 0 0 (xA x) := by
  refine xMet (by decide) (Nat.le_of_ble_eq_true rfl) (fun p e s m below meth c C hlk hr _ => ?_)
  show GW x p l e (rmd 0 0 0) s m [.ref (adr x a0), .int a1, .int a2, .int a3, .int a4, .int a5].toArray below meth c 8 (QI x K below [.ref (adr x a0), .int a1, .int a2, .int a3, .int a4, .int a5].toArray s 0 0) 0 [(0, .ref (adr x a0)), (1, .int a1), (2, .int a2), (3, .int a3), (4, .int a4), (5, .int a5)] [] w 0 0
  refine g_aload_n (pc := 0) C dX12_feed_0 (q := 0) rfl ?_
  refine g_iconst (pc := 1) C dX12_feed_1 (v := 0) rfl ?_
  obtain ⟨k1, h⟩ := h
  refine pfX12_58 (pc := 2) C k1 dX12_feed_2 ?_
  refine g_aload_n (pc := 5) C dX12_feed_5 (q := 0) rfl ?_
  refine gfX12_61 (pc := 6) (w := uI w a0 4 0) C k1 dX12_feed_6 ?_
  refine g_bipush (pc := 9) C dX12_feed_9 (v := 20) rfl ?_
  refine g_iadd (pc := 11) C dX12_feed_11 ?_
  refine g_sipush (pc := 12) C dX12_feed_12 (v := 900) rfl ?_
  refine g_icmp_le (pc := 15) C dX12_feed_15 (tgt := 20) rfl (fun z2 => ?_) (fun z2 => ?_)
  · replace h := h.1 z2
    refine g_iconst (pc := 20) C dX12_feed_20 (v := 0) rfl ?_
    refine g_istore (pc := 21) C dX12_feed_21 (Nat.le_of_ble_eq_true rfl) (lo' := [(6, .int 0), (0, .ref (adr x a0)), (1, .int a1), (2, .int a2), (3, .int a3), (4, .int a4), (5, .int a5)]) rfl ?_
    obtain ⟨n12, h⟩ := h
    refine g_sub [1, 2, 3, 4, 5, 6, 0] rfl ?_
    refine t_X12_feed_23 C hlk hr n12 _ _ _ _ _ _ _ _ h
  · replace h := h.2 z2
    refine g_iconst (pc := 18) C dX12_feed_18 (v := (-1)) rfl ?_
    exact g_iret (pc := 19) C hlk hr (Nat.le_refl _) (Nat.le_refl _) dX12_feed_19 h
theorem miRX12_432 (C : xC x p s m c cc nL args RX12) {a0 : Nat} {a1 : Int32} {a2 : Int32} {K : Int32 → Wd → Prop} {D MC MS : Nat} (hq : isK w a0 12) {d : Nat} (h : Met l yX12_finds (xws yX12_finds cX12_finds 5 (some .boolean)) (rmd d 0 0) (xPc x [.ref (adr x a0), .int a1, .int a2] w) (QcI x K) 0 0 (xA x)) (hD : d + 1 ≤ D) (hW : (st.map fun v => v.category).sum ≤ 8) (hij : i ≤ MC ∧ j ≤ MS) (hd : decode cc pc = .ok (.invokevirtual 432, 3)) (k : ∀ (r : Int32) (u : Wd), K r u → GW x p l e (rmd D MC MS) s m args below meth c nL Q (pc + 3) lo (.int r :: st) u i j) : GW x p l e (rmd D MC MS) s m args below meth c nL Q pc lo (.int a2 :: .int a1 :: .ref (adr x a0) :: st) w i j := g_callVi0 C (As := [.int a1, .int a2]) (ci := 12) h (x_cwV C 2 LMX12_432 ⟨rfl, by decide, by decide, rfl⟩ hD (by decide)) rfl hq (by decide) rfl rfl hW hd hij k
def j_X12_finds_47 (P : Nat → Nat → Int32 → Int32 → (Int32 → Wd → Prop) → Wd → Prop) (B : Nat → Int32 → Int32 → Int32 → Wd → Prop)  (K : Int32 → Wd → Prop) (a0 : Nat) (a1 : Int32) (a2 : Int32) (a3 : Int32) (s0 : Int32) (w : Wd) : Prop :=
  ((s0 = 0 → B a0 a1 a2 (a3 + 1) w) ∧ (¬ s0 = 0 → isK w a0 12 ∧ (((lg_cmp ((x_lshr (wL w a0 24) a3) &&& 1) 1) = 0 → B a0 a1 a2 (a3 + 1) w) ∧ (¬ (lg_cmp ((x_lshr (wL w a0 24) a3) &&& 1) 1) = 0 → isK w (wR w a0 22) 20 ∧ vp_in a3 (wn w (wR w a0 22)) ∧ (((wI (uL w a0 24 ((wL w a0 24) ||| (x_lshl 1 a3))) (wR w a0 22) a3.toNatClampNeg) = (-1) → vp_in a3 (wn w (wR w a0 22)) ∧ K 1 (uI (uL w a0 24 ((wL w a0 24) ||| (x_lshl 1 a3))) (wR w a0 22) a3.toNatClampNeg a1)) ∧ (¬ (wI (uL w a0 24 ((wL w a0 24) ||| (x_lshl 1 a3))) (wR w a0 22) a3.toNatClampNeg) = (-1) → vp_in a3 (wn w (wR w a0 22)) ∧ P 0 a0 (wI (uL w a0 24 ((wL w a0 24) ||| (x_lshl 1 a3))) (wR w a0 22) a3.toNatClampNeg) a2 (fun r14 w15 => ((r14 = 0 → B a0 a1 a2 (a3 + 1) w15) ∧ (¬ r14 = 0 → isK w15 a0 12 ∧ isK w15 (wR w15 a0 22) 20 ∧ vp_in a3 (wn w15 (wR w15 a0 22)) ∧ K 1 (uI w15 (wR w15 a0 22) a3.toNatClampNeg a1)))) (uL w a0 24 ((wL w a0 24) ||| (x_lshl 1 a3)))))))))
def l_X12_finds_2 (P : Nat → Nat → Int32 → Int32 → (Int32 → Wd → Prop) → Wd → Prop)  (K : Int32 → Wd → Prop) : Nat → Nat → Int32 → Int32 → Int32 → Wd → Prop
  | 0, _, _, _, _, _ => False
  | n + 1, a0, a1, a2, a3, w => ((a2 < a3 → K 0 w) ∧ (¬ a2 < a3 → isK w a0 12 ∧ isK w (wR w a0 21) 21 ∧ vp_in a1 (wn w (wR w a0 21)) ∧ (((lg_cmp ((x_lshr (wL w (wR w a0 21) a1.toNatClampNeg) a3) &&& 1) 1) = 0 → isK w (wR w a0 23) 20 ∧ vp_in a1 (wn w (wR w a0 23)) ∧ (((wI w (wR w a0 23) a1.toNatClampNeg) = (-1) → j_X12_finds_47 P (l_X12_finds_2 P K n) K a0 a1 a2 a3 1 w) ∧ (¬ (wI w (wR w a0 23) a1.toNatClampNeg) = (-1) → vp_in a1 (wn w (wR w a0 23)) ∧ (((wI w (wR w a0 23) a1.toNatClampNeg) = a3 → j_X12_finds_47 P (l_X12_finds_2 P K n) K a0 a1 a2 a3 1 w) ∧ (¬ (wI w (wR w a0 23) a1.toNatClampNeg) = a3 → j_X12_finds_47 P (l_X12_finds_2 P K n) K a0 a1 a2 a3 0 w))))) ∧ (¬ (lg_cmp ((x_lshr (wL w (wR w a0 21) a1.toNatClampNeg) a3) &&& 1) 1) = 0 → j_X12_finds_47 P (l_X12_finds_2 P K n) K a0 a1 a2 a3 0 w))))
def b_X12_finds (P : Nat → Nat → Int32 → Int32 → (Int32 → Wd → Prop) → Wd → Prop) (a0 : Nat) (a1 : Int32) (a2 : Int32) (K : Int32 → Wd → Prop) (w : Wd) : Prop :=
  ∃ n25, l_X12_finds_2 P  K n25 a0 a1 a2 0 w
theorem t_X12_finds_47 (C : xC x p s m c cX12_finds 5 args RX12) (hlk : meth.locks = false) (hr : meth.sig.returnType = some .boolean) {K : Int32 → Wd → Prop} {d : Nat} (hd0 : 0 ≤ d) {P : Nat → Nat → Int32 → Int32 → (Int32 → Wd → Prop) → Wd → Prop} (hP0 : ∀ (q0 : Nat) (q1 : Int32) (q2 : Int32) (K : Int32 → Wd → Prop) (w : Wd), P 0 q0 q1 q2 K w → Met l yX12_finds (xws yX12_finds cX12_finds 5 (some .boolean)) (rmd d 0 0) (xPc x [.ref (adr x q0), .int q1, .int q2] w) (QcI x K) 0 0 (xA x)) {B : Nat → Int32 → Int32 → Int32 → Wd → Prop}  (hB : ∀ (b0 : Nat) (b1 : Int32) (b2 : Int32) (b3 : Int32) (w : Wd), B b0 b1 b2 b3 w → GW x p l e (rmd (d + 1) 0 0) s m args below meth c 5 (QI x K below args s 0 0) 2 [(0, .ref (adr x b0)), (1, .int b1), (2, .int b2), (3, .int b3)] [] w 0 0)  (a0 : Nat) (a1 : Int32) (a2 : Int32) (a3 : Int32) (s0 : Int32) (w : Wd) (h : j_X12_finds_47 P B K a0 a1 a2 a3 s0 w) : GW x p l e (rmd (d + 1) 0 0) s m args below meth c 5 (QI x K below args s 0 0) 47 [(0, .ref (adr x a0)), (1, .int a1), (2, .int a2), (3, .int a3)] [.int s0] w 0 0 := by
  refine g_istore (pc := 47) C dX12_finds_47 (Nat.le_of_ble_eq_true rfl) (lo' := [(4, .int s0), (0, .ref (adr x a0)), (1, .int a1), (2, .int a2), (3, .int a3)]) rfl ?_
  refine g_iload (pc := 49) C dX12_finds_49 (q := 0) rfl ?_
  refine g_if_eq (pc := 51) C dX12_finds_51 (tgt := 118) rfl (fun z6 => ?_) (fun z6 => ?_)
  · replace h := h.1 z6
    refine g_iinc (pc := 118) C dX12_finds_118 (q := 4) rfl (v2 := a3 + 1) rfl (Nat.le_of_ble_eq_true rfl) (lo' := [(3, .int (a3 + 1)), (4, .int s0), (0, .ref (adr x a0)), (1, .int a1), (2, .int a2)]) rfl ?_
    refine g_goto (pc := 121) C dX12_finds_121 (tgt := 2) rfl ?_
    refine g_sub [2, 3, 4, 0] rfl ?_
    exact hB _ _ _ _ _ h
  · replace h := h.2 z6
    refine g_aload_n (pc := 54) C dX12_finds_54 (q := 1) rfl ?_
    obtain ⟨k7, h⟩ := h
    refine gfX12_428 (pc := 55) C k7 dX12_finds_55 ?_
    refine g_iload_n (pc := 58) C dX12_finds_58 (q := 4) rfl ?_
    refine h_lshr (pc := 59) C dX12_finds_59 ?_
    refine g_lconst (pc := 60) C dX12_finds_60 (v := 1) rfl ?_
    refine g_land (pc := 61) C dX12_finds_61 ?_
    refine g_lconst (pc := 62) C dX12_finds_62 (v := 1) rfl ?_
    refine g_lcmp (pc := 63) C dX12_finds_63 ?_
    refine g_if_ne (pc := 64) C dX12_finds_64 (tgt := 70) rfl (fun z8 => ?_) (fun z8 => ?_)
    · replace h := h.2 z8
      refine g_aload_n (pc := 70) C dX12_finds_70 (q := 1) rfl ?_
      refine g_dup (pc := 71) C dX12_finds_71 rfl ?_
      refine gfX12_428 (pc := 72) C k7 dX12_finds_72 ?_
      refine g_lconst (pc := 75) C dX12_finds_75 (v := 1) rfl ?_
      refine g_iload_n (pc := 76) C dX12_finds_76 (q := 4) rfl ?_
      refine h_lshl (pc := 77) C dX12_finds_77 ?_
      refine g_lor (pc := 78) C dX12_finds_78 ?_
      refine pfX12_428 (pc := 79) C k7 dX12_finds_79 ?_
      refine g_aload_n (pc := 82) C dX12_finds_82 (q := 1) rfl ?_
      obtain ⟨k9, h⟩ := h
      refine gfX12_43 (pc := 83) (w := uL w a0 24 ((wL w a0 24) ||| (x_lshl 1 a3))) C k7 (isK_ne k9) dX12_finds_83 ?_
      refine g_iload_n (pc := 86) C dX12_finds_86 (q := 4) rfl ?_
      obtain ⟨k10, h⟩ := h
      refine g_iald (pc := 87) (w := uL w a0 24 ((wL w a0 24) ||| (x_lshl 1 a3))) C k9 k10 dX12_finds_87 ?_
      refine g_iconst (pc := 88) C dX12_finds_88 (v := (-1)) rfl ?_
      refine g_icmp_eq (pc := 89) C dX12_finds_89 (tgt := 109) rfl (fun z11 => ?_) (fun z11 => ?_)
      · replace h := h.1 z11
        refine g_aload_n (pc := 109) C dX12_finds_109 (q := 1) rfl ?_
        refine gfX12_43 (pc := 110) (w := uL w a0 24 ((wL w a0 24) ||| (x_lshl 1 a3))) C k7 (isK_ne k9) dX12_finds_110 ?_
        refine g_iload_n (pc := 113) C dX12_finds_113 (q := 4) rfl ?_
        refine g_iload_n (pc := 114) C dX12_finds_114 (q := 2) rfl ?_
        obtain ⟨k12, h⟩ := h
        refine g_iast (pc := 115) (w := uL w a0 24 ((wL w a0 24) ||| (x_lshl 1 a3))) C k9 k12 dX12_finds_115 ?_
        refine g_iconst (pc := 116) C dX12_finds_116 (v := 1) rfl ?_
        exact g_zret (pc := 117) C hlk hr (Nat.le_refl _) (Nat.le_refl _) dX12_finds_117 (Or.inr rfl) h
      · replace h := h.2 z11
        refine g_aload_n (pc := 92) C dX12_finds_92 (q := 1) rfl ?_
        refine g_aload_n (pc := 93) C dX12_finds_93 (q := 1) rfl ?_
        refine gfX12_43 (pc := 94) (w := uL w a0 24 ((wL w a0 24) ||| (x_lshl 1 a3))) C k7 (isK_ne k9) dX12_finds_94 ?_
        refine g_iload_n (pc := 97) C dX12_finds_97 (q := 4) rfl ?_
        obtain ⟨k13, h⟩ := h
        refine g_iald (pc := 98) (w := uL w a0 24 ((wL w a0 24) ||| (x_lshl 1 a3))) C k9 k13 dX12_finds_98 ?_
        refine g_iload_n (pc := 99) C dX12_finds_99 (q := 3) rfl ?_
        refine miRX12_432 (pc := 100) (w := uL w a0 24 ((wL w a0 24) ||| (x_lshl 1 a3))) C k7 (hP0 _ _ _ _ _ h) (Nat.le_refl _) (Nat.le_of_ble_eq_true rfl) ⟨Nat.le_refl _, Nat.le_refl _⟩ dX12_finds_100 (fun r14 w15 h => ?_)
        refine g_if_ne (pc := 103) C dX12_finds_103 (tgt := 109) rfl (fun z16 => ?_) (fun z16 => ?_)
        · replace h := h.2 z16
          refine g_aload_n (pc := 109) C dX12_finds_109 (q := 1) rfl ?_
          obtain ⟨k17, h⟩ := h
          obtain ⟨k18, h⟩ := h
          refine gfX12_43 (pc := 110) C k17 (isK_ne k18) dX12_finds_110 ?_
          refine g_iload_n (pc := 113) C dX12_finds_113 (q := 4) rfl ?_
          refine g_iload_n (pc := 114) C dX12_finds_114 (q := 2) rfl ?_
          obtain ⟨k19, h⟩ := h
          refine g_iast (pc := 115) C k18 k19 dX12_finds_115 ?_
          refine g_iconst (pc := 116) C dX12_finds_116 (v := 1) rfl ?_
          exact g_zret (pc := 117) C hlk hr (Nat.le_refl _) (Nat.le_refl _) dX12_finds_117 (Or.inr rfl) h
        · replace h := h.1 z16
          refine g_goto (pc := 106) C dX12_finds_106 (tgt := 118) rfl ?_
          refine g_iinc (pc := 118) C dX12_finds_118 (q := 4) rfl (v2 := a3 + 1) rfl (Nat.le_of_ble_eq_true rfl) (lo' := [(3, .int (a3 + 1)), (4, .int s0), (0, .ref (adr x a0)), (1, .int a1), (2, .int a2)]) rfl ?_
          refine g_goto (pc := 121) C dX12_finds_121 (tgt := 2) rfl ?_
          refine g_sub [2, 3, 4, 0] rfl ?_
          exact hB _ _ _ _ _ h
    · replace h := h.1 z8
      refine g_goto (pc := 67) C dX12_finds_67 (tgt := 118) rfl ?_
      refine g_iinc (pc := 118) C dX12_finds_118 (q := 4) rfl (v2 := a3 + 1) rfl (Nat.le_of_ble_eq_true rfl) (lo' := [(3, .int (a3 + 1)), (4, .int s0), (0, .ref (adr x a0)), (1, .int a1), (2, .int a2)]) rfl ?_
      refine g_goto (pc := 121) C dX12_finds_121 (tgt := 2) rfl ?_
      refine g_sub [2, 3, 4, 0] rfl ?_
      exact hB _ _ _ _ _ h
theorem t_X12_finds_2 (C : xC x p s m c cX12_finds 5 args RX12) (hlk : meth.locks = false) (hr : meth.sig.returnType = some .boolean) {K : Int32 → Wd → Prop} {d : Nat} (hd0 : 0 ≤ d) {P : Nat → Nat → Int32 → Int32 → (Int32 → Wd → Prop) → Wd → Prop} (hP0 : ∀ (q0 : Nat) (q1 : Int32) (q2 : Int32) (K : Int32 → Wd → Prop) (w : Wd), P 0 q0 q1 q2 K w → Met l yX12_finds (xws yX12_finds cX12_finds 5 (some .boolean)) (rmd d 0 0) (xPc x [.ref (adr x q0), .int q1, .int q2] w) (QcI x K) 0 0 (xA x))   : ∀ (n : Nat) (a0 : Nat) (a1 : Int32) (a2 : Int32) (a3 : Int32) (w : Wd), l_X12_finds_2 P K n a0 a1 a2 a3 w → GW x p l e (rmd (d + 1) 0 0) s m args below meth c 5 (QI x K below args s 0 0) 2 [(0, .ref (adr x a0)), (1, .int a1), (2, .int a2), (3, .int a3)] [] w 0 0 := by
  intro n
  induction n with
  | zero => intro _ _ _ _ _ h; exact False.elim h
  | succ n ih =>
    intro a0 a1 a2 a3 w h
    refine g_iload_n (pc := 2) C dX12_finds_2 (q := 3) rfl ?_
    refine g_iload_n (pc := 3) C dX12_finds_3 (q := 2) rfl ?_
    refine g_icmp_gt (pc := 4) C dX12_finds_4 (tgt := 124) rfl (fun z1 => ?_) (fun z1 => ?_)
    · replace h := h.1 z1
      refine g_iconst (pc := 124) C dX12_finds_124 (v := 0) rfl ?_
      exact g_zret (pc := 125) C hlk hr (Nat.le_refl _) (Nat.le_refl _) dX12_finds_125 (Or.inl rfl) h
    · replace h := h.2 z1
      refine g_aload_n (pc := 7) C dX12_finds_7 (q := 0) rfl ?_
      obtain ⟨k2, h⟩ := h
      obtain ⟨k3, h⟩ := h
      refine gfX12_39 (pc := 8) C k2 (isK_ne k3) dX12_finds_8 ?_
      refine g_iload_n (pc := 11) C dX12_finds_11 (q := 1) rfl ?_
      obtain ⟨k4, h⟩ := h
      refine g_lald (pc := 12) C k3 k4 dX12_finds_12 ?_
      refine g_iload_n (pc := 13) C dX12_finds_13 (q := 3) rfl ?_
      refine h_lshr (pc := 14) C dX12_finds_14 ?_
      refine g_lconst (pc := 15) C dX12_finds_15 (v := 1) rfl ?_
      refine g_land (pc := 16) C dX12_finds_16 ?_
      refine g_lconst (pc := 17) C dX12_finds_17 (v := 1) rfl ?_
      refine g_lcmp (pc := 18) C dX12_finds_18 ?_
      refine g_if_ne (pc := 19) C dX12_finds_19 (tgt := 46) rfl (fun z5 => ?_) (fun z5 => ?_)
      · replace h := h.2 z5
        refine g_iconst (pc := 46) C dX12_finds_46 (v := 0) rfl ?_
        exact t_X12_finds_47 C hlk hr hd0 hP0 ih _ _ _ _ _ _ h
      · replace h := h.1 z5
        refine g_aload_n (pc := 22) C dX12_finds_22 (q := 0) rfl ?_
        obtain ⟨k20, h⟩ := h
        refine gfX12_46 (pc := 23) C k2 (isK_ne k20) dX12_finds_23 ?_
        refine g_iload_n (pc := 26) C dX12_finds_26 (q := 1) rfl ?_
        obtain ⟨k21, h⟩ := h
        refine g_iald (pc := 27) C k20 k21 dX12_finds_27 ?_
        refine g_iconst (pc := 28) C dX12_finds_28 (v := (-1)) rfl ?_
        refine g_icmp_eq (pc := 29) C dX12_finds_29 (tgt := 42) rfl (fun z22 => ?_) (fun z22 => ?_)
        · replace h := h.1 z22
          refine g_iconst (pc := 42) C dX12_finds_42 (v := 1) rfl ?_
          refine g_goto (pc := 43) C dX12_finds_43 (tgt := 47) rfl ?_
          exact t_X12_finds_47 C hlk hr hd0 hP0 ih _ _ _ _ _ _ h
        · replace h := h.2 z22
          refine g_aload_n (pc := 32) C dX12_finds_32 (q := 0) rfl ?_
          refine gfX12_46 (pc := 33) C k2 (isK_ne k20) dX12_finds_33 ?_
          refine g_iload_n (pc := 36) C dX12_finds_36 (q := 1) rfl ?_
          obtain ⟨k23, h⟩ := h
          refine g_iald (pc := 37) C k20 k23 dX12_finds_37 ?_
          refine g_iload_n (pc := 38) C dX12_finds_38 (q := 3) rfl ?_
          refine g_icmp_ne (pc := 39) C dX12_finds_39 (tgt := 46) rfl (fun z24 => ?_) (fun z24 => ?_)
          · replace h := h.2 z24
            refine g_iconst (pc := 46) C dX12_finds_46 (v := 0) rfl ?_
            exact t_X12_finds_47 C hlk hr hd0 hP0 ih _ _ _ _ _ _ h
          · replace h := h.1 z24
            refine g_iconst (pc := 42) C dX12_finds_42 (v := 1) rfl ?_
            refine g_goto (pc := 43) C dX12_finds_43 (tgt := 47) rfl ?_
            exact t_X12_finds_47 C hlk hr hd0 hP0 ih _ _ _ _ _ _ h
theorem t_X12_finds (C : xC x p s m c cX12_finds 5 args RX12) (hlk : meth.locks = false) (hr : meth.sig.returnType = some .boolean) {K : Int32 → Wd → Prop} {d : Nat} (hd0 : 0 ≤ d) {P : Nat → Nat → Int32 → Int32 → (Int32 → Wd → Prop) → Wd → Prop} (hP0 : ∀ (q0 : Nat) (q1 : Int32) (q2 : Int32) (K : Int32 → Wd → Prop) (w : Wd), P 0 q0 q1 q2 K w → Met l yX12_finds (xws yX12_finds cX12_finds 5 (some .boolean)) (rmd d 0 0) (xPc x [.ref (adr x q0), .int q1, .int q2] w) (QcI x K) 0 0 (xA x)) (a0 : Nat) (a1 : Int32) (a2 : Int32) (w : Wd) (h : b_X12_finds P a0 a1 a2 K w) : GW x p l e (rmd (d + 1) 0 0) s m args below meth c 5 (QI x K below args s 0 0) 0 (lv_args 0 [.ref (adr x a0), .int a1, .int a2]) [] w 0 0 := by
  show GW x p l e (rmd (d + 1) 0 0) s m args below meth c 5 (QI x K below args s 0 0) 0 [(0, .ref (adr x a0)), (1, .int a1), (2, .int a2)] [] w 0 0
  refine g_iconst (pc := 0) C dX12_finds_0 (v := 0) rfl ?_
  refine g_istore_n (pc := 1) C dX12_finds_1 (Nat.le_of_ble_eq_true rfl) (lo' := [(3, .int 0), (0, .ref (adr x a0)), (1, .int a1), (2, .int a2)]) rfl ?_
  obtain ⟨n25, h⟩ := h
  refine g_sub [1, 2, 3, 0] rfl ?_
  refine t_X12_finds_2 C hlk hr hd0 hP0 n25 _ _ _ _ _ h
def wG_X12_finds : Nat → Nat → Nat → Int32 → Int32 → (Int32 → Wd → Prop) → Wd → Prop
  | 0, _, _, _, _, _, _ => False
  | n + 1, q, a0, a1, a2, K, w => b_X12_finds (wG_X12_finds n) a0 a1 a2 K w
theorem cG_X12_finds {x : xG} {l : Launch} : ∀ (n d : Nat), 0 + n ≤ d → (∀ (a0 : Nat) (a1 : Int32) (a2 : Int32) (K : Int32 → Wd → Prop) (w : Wd), wG_X12_finds n 0 a0 a1 a2 K w → Met l yX12_finds (xws yX12_finds cX12_finds 5 (some .boolean)) (rmd d 0 0) (xPc x [.ref (adr x a0), .int a1, .int a2] w) (QcI x K) 0 0 (xA x)) := by
  intro n
  induction n with
  | zero => intro d _; exact fun _ _ _ _ _ h => False.elim h
  | succ n ih =>
    intro d hd
    obtain ⟨d, rfl⟩ : ∃ d0, d = d0 + 1 := ⟨d - 1, by omega⟩
    have hd0 : 0 ≤ d := by omega
    have hp := ih d (by omega)
    have hP0 := hp
    intro a0 a1 a2 K w h
    exact xMet (by decide) (Nat.le_of_ble_eq_true rfl) (fun p e s m below meth c C hlk hr _ => t_X12_finds C hlk hr hd0 hP0 a0 a1 a2 w h)
def w_X12_finds (a0 : Nat) (a1 : Int32) (a2 : Int32) (K : Int32 → Wd → Prop) (w : Wd) : Prop := ∃ n, n ≤ 100 ∧ wG_X12_finds n 0 a0 a1 a2 K w
theorem c_X12_finds {x : xG} {l : Launch} {a0 : Nat} {a1 : Int32} {a2 : Int32} {K : Int32 → Wd → Prop} {w : Wd} (h : w_X12_finds a0 a1 a2 K w) : Met l yX12_finds (xws yX12_finds cX12_finds 5 (some .boolean)) (rmd 100 0 0) (xPc x [.ref (adr x a0), .int a1, .int a2] w) (QcI x K) 0 0 (xA x) := by
  obtain ⟨n, hn, h⟩ := h
  exact (cG_X12_finds n 100 (by omega)) _ _ _ K w h
def l_X12_firstOf_2  (K : Int32 → Wd → Prop) : Nat → Int32 → Int32 → Wd → Prop
  | 0, _, _, _ => False
  | n + 1, a0, a1, w => w_X12_has a0 a1 (fun r1 w2 => ((r1 = 0 → l_X12_firstOf_2 K n a0 (a1 + 1) w2) ∧ (¬ r1 = 0 → K a1 w2))) w
def w_X12_firstOf (a0 : Int32) (K : Int32 → Wd → Prop) (w : Wd) : Prop :=
  ∃ n4, l_X12_firstOf_2  K n4 a0 0 w
theorem t_X12_firstOf_2 (C : xC x p s m c cX12_firstOf 2 args RX12) (hlk : meth.locks = false) (hr : meth.sig.returnType = some .int) {K : Int32 → Wd → Prop}   : ∀ (n : Nat) (a0 : Int32) (a1 : Int32) (w : Wd), l_X12_firstOf_2 K n a0 a1 w → GW x p l e (rmd 1 0 0) s m args below meth c 2 (QI x K below args s 0 0) 2 [(0, .int a0), (1, .int a1)] [] w 0 0 := by
  intro n
  induction n with
  | zero => intro _ _ _ h; exact False.elim h
  | succ n ih =>
    intro a0 a1 w h
    refine g_iload_n (pc := 2) C dX12_firstOf_2 (q := 0) rfl ?_
    refine g_iload_n (pc := 3) C dX12_firstOf_3 (q := 1) rfl ?_
    refine miX12_268 (pc := 4) C h (Nat.le_of_ble_eq_true rfl) (Nat.le_of_ble_eq_true rfl) ⟨Nat.le_refl _, Nat.le_refl _⟩ dX12_firstOf_4 (fun r1 w2 h => ?_)
    refine g_if_ne (pc := 7) C dX12_firstOf_7 (tgt := 16) rfl (fun z3 => ?_) (fun z3 => ?_)
    · replace h := h.2 z3
      refine g_iload_n (pc := 16) C dX12_firstOf_16 (q := 1) rfl ?_
      exact g_iret (pc := 17) C hlk hr (Nat.le_refl _) (Nat.le_refl _) dX12_firstOf_17 h
    · replace h := h.1 z3
      refine g_iinc (pc := 10) C dX12_firstOf_10 (q := 1) rfl (v2 := a1 + 1) rfl (Nat.le_of_ble_eq_true rfl) (lo' := [(1, .int (a1 + 1)), (0, .int a0)]) rfl ?_
      refine g_goto (pc := 13) C dX12_firstOf_13 (tgt := 2) rfl ?_
      refine g_sub [1, 0] rfl ?_
      exact ih _ _ _ h
theorem c_X12_firstOf {x : xG} {l : Launch} {a0 : Int32} {K : Int32 → Wd → Prop} {w : Wd} (h : w_X12_firstOf a0 K w) : Met l yX12_firstOf (xws yX12_firstOf cX12_firstOf 2 (some .int)) (rmd 1 0 0) (xPc x [.int a0] w) (QcI x K) 0 0 (xA x) := by
  refine xMet (by decide) (Nat.le_of_ble_eq_true rfl) (fun p e s m below meth c C hlk hr _ => ?_)
  show GW x p l e (rmd 1 0 0) s m [.int a0].toArray below meth c 2 (QI x K below [.int a0].toArray s 0 0) 0 [(0, .int a0)] [] w 0 0
  refine g_iconst (pc := 0) C dX12_firstOf_0 (v := 0) rfl ?_
  refine g_istore_n (pc := 1) C dX12_firstOf_1 (Nat.le_of_ble_eq_true rfl) (lo' := [(1, .int 0), (0, .int a0)]) rfl ?_
  obtain ⟨n4, h⟩ := h
  refine g_sub [1, 0] rfl ?_
  refine t_X12_firstOf_2 C hlk hr n4 _ _ _ h
def w_X12_heardIn (a0 : Int32) (a1 : Int32) (a2 : Int32) (a3 : Int32) (K : Int32 → Wd → Prop) (w : Wd) : Prop :=
  ¬ a0 = 0 ∧ ((a1 ≤ (x_irem (a3 + a2) a0) → K 0 w) ∧ (¬ a1 ≤ (x_irem (a3 + a2) a0) → K 1 w))
theorem c_X12_heardIn {x : xG} {l : Launch} {a0 : Int32} {a1 : Int32} {a2 : Int32} {a3 : Int32} {K : Int32 → Wd → Prop} {w : Wd} (h : w_X12_heardIn a0 a1 a2 a3 K w) : Met l yX12_heardIn (xws yX12_heardIn cX12_heardIn 4 (some .int)) (rmd 0 0 0) (xPc x [.int a0, .int a1, .int a2, .int a3] w) (QcI x K) 0 0 (xA x) := by
  refine xMet (by decide) (Nat.le_of_ble_eq_true rfl) (fun p e s m below meth c C hlk hr _ => ?_)
  show GW x p l e (rmd 0 0 0) s m [.int a0, .int a1, .int a2, .int a3].toArray below meth c 4 (QI x K below [.int a0, .int a1, .int a2, .int a3].toArray s 0 0) 0 [(0, .int a0), (1, .int a1), (2, .int a2), (3, .int a3)] [] w 0 0
  refine g_iload_n (pc := 0) C dX12_heardIn_0 (q := 3) rfl ?_
  refine g_iload_n (pc := 1) C dX12_heardIn_1 (q := 2) rfl ?_
  refine g_iadd (pc := 2) C dX12_heardIn_2 ?_
  refine g_iload_n (pc := 3) C dX12_heardIn_3 (q := 0) rfl ?_
  obtain ⟨k1, h⟩ := h
  refine h_irem (pc := 4) C dX12_heardIn_4 k1 ?_
  refine g_iload_n (pc := 5) C dX12_heardIn_5 (q := 1) rfl ?_
  refine g_icmp_ge (pc := 6) C dX12_heardIn_6 (tgt := 13) rfl (fun z2 => ?_) (fun z2 => ?_)
  · replace h := h.1 z2
    refine g_iconst (pc := 13) C dX12_heardIn_13 (v := 0) rfl ?_
    exact g_iret (pc := 14) C hlk hr (Nat.le_refl _) (Nat.le_refl _) dX12_heardIn_14 h
  · replace h := h.2 z2
    refine g_iconst (pc := 9) C dX12_heardIn_9 (v := 1) rfl ?_
    refine g_goto (pc := 10) C dX12_heardIn_10 (tgt := 14) rfl ?_
    exact g_iret (pc := 14) C hlk hr (Nat.le_refl _) (Nat.le_refl _) dX12_heardIn_14 h
theorem miX12_447 (C : xC x p s m c cc nL args RX12) {a0 : Int32} {a1 : Int32} {a2 : Int32} {a3 : Int32} {K : Int32 → Wd → Prop} {D MC MS : Nat} (h : w_X12_heardIn a0 a1 a2 a3 K w) (hD : 0 + 1 ≤ D) (hW : (st.map fun v => v.category).sum ≤ 8) (hij : i ≤ MC ∧ j ≤ MS) (hd : decode cc pc = .ok (.invokestatic 447, 3)) (k : ∀ (r : Int32) (u : Wd), K r u → GW x p l e (rmd D MC MS) s m args below meth c nL Q (pc + 3) lo (.int r :: st) u i j) : GW x p l e (rmd D MC MS) s m args below meth c nL Q pc lo (.int a3 :: .int a2 :: .int a1 :: .int a0 :: st) w i j := g_callSi0 C (As := [.int a0, .int a1, .int a2, .int a3]) (c_X12_heardIn h) (x_cwS C 4 LMX12_447 ⟨by decide, by decide, rfl⟩ hD (by decide)) rfl rfl hW hd hij k
def l_X12_fitsSeen_3  (K : Int32 → Wd → Prop) : Nat → Nat → Int32 → Int32 → Int32 → Int32 → Int32 → Wd → Prop
  | 0, _, _, _, _, _, _, _ => False
  | n + 1, a0, a1, a2, a3, a4, a5, w => isK w a0 12 ∧ isK w (wR w a0 27) 20 ∧ vp_in a1 (wn w (wR w a0 27)) ∧ (((wI w (wR w a0 27) a1.toNatClampNeg) ≤ a5 → K 1 w) ∧ (¬ (wI w (wR w a0 27) a1.toNatClampNeg) ≤ a5 → isK w (wR w a0 28) 21 ∧ vp_in ((30 * a1) + a5) (wn w (wR w a0 28)) ∧ (((lg_cmp (wL w (wR w a0 28) ((30 * a1) + a5).toNatClampNeg) (-1)) = 0 → l_X12_fitsSeen_3 K n a0 a1 a2 a3 a4 (a5 + 1) w) ∧ (¬ (lg_cmp (wL w (wR w a0 28) ((30 * a1) + a5).toNatClampNeg) (-1)) = 0 → w_X12_heardIn a2 a3 a4 a5 (fun r8 w9 => (((lg_cmp (wL w (wR w a0 28) ((30 * a1) + a5).toNatClampNeg) r8.toInt64) = 0 → l_X12_fitsSeen_3 K n a0 a1 a2 a3 a4 (a5 + 1) w9) ∧ (¬ (lg_cmp (wL w (wR w a0 28) ((30 * a1) + a5).toNatClampNeg) r8.toInt64) = 0 → K 0 w9))) w))))
def w_X12_fitsSeen (a0 : Nat) (a1 : Int32) (a2 : Int32) (a3 : Int32) (a4 : Int32) (K : Int32 → Wd → Prop) (w : Wd) : Prop :=
  ∃ n11, l_X12_fitsSeen_3  K n11 a0 a1 a2 a3 a4 0 w
theorem t_X12_fitsSeen_3 (C : xC x p s m c cX12_fitsSeen 8 args RX12) (hlk : meth.locks = false) (hr : meth.sig.returnType = some .boolean) {K : Int32 → Wd → Prop}   : ∀ (n : Nat) (a0 : Nat) (a1 : Int32) (a2 : Int32) (a3 : Int32) (a4 : Int32) (a5 : Int32) (w : Wd), l_X12_fitsSeen_3 K n a0 a1 a2 a3 a4 a5 w → GW x p l e (rmd 1 0 0) s m args below meth c 8 (QI x K below args s 0 0) 3 [(0, .ref (adr x a0)), (1, .int a1), (2, .int a2), (3, .int a3), (4, .int a4), (5, .int a5)] [] w 0 0 := by
  intro n
  induction n with
  | zero => intro _ _ _ _ _ _ _ h; exact False.elim h
  | succ n ih =>
    intro a0 a1 a2 a3 a4 a5 w h
    refine g_iload (pc := 3) C dX12_fitsSeen_3 (q := 5) rfl ?_
    refine g_aload_n (pc := 5) C dX12_fitsSeen_5 (q := 0) rfl ?_
    obtain ⟨k1, h⟩ := h
    obtain ⟨k2, h⟩ := h
    refine gfX12_52 (pc := 6) C k1 (isK_ne k2) dX12_fitsSeen_6 ?_
    refine g_iload_n (pc := 9) C dX12_fitsSeen_9 (q := 1) rfl ?_
    obtain ⟨k3, h⟩ := h
    refine g_iald (pc := 10) C k2 k3 dX12_fitsSeen_10 ?_
    refine g_icmp_ge (pc := 11) C dX12_fitsSeen_11 (tgt := 61) rfl (fun z4 => ?_) (fun z4 => ?_)
    · replace h := h.1 z4
      refine g_iconst (pc := 61) C dX12_fitsSeen_61 (v := 1) rfl ?_
      exact g_zret (pc := 62) C hlk hr (Nat.le_refl _) (Nat.le_refl _) dX12_fitsSeen_62 (Or.inr rfl) h
    · replace h := h.2 z4
      refine g_aload_n (pc := 14) C dX12_fitsSeen_14 (q := 0) rfl ?_
      obtain ⟨k5, h⟩ := h
      refine gfX12_55 (pc := 15) C k1 (isK_ne k5) dX12_fitsSeen_15 ?_
      refine g_bipush (pc := 18) C dX12_fitsSeen_18 (v := 30) rfl ?_
      refine g_iload_n (pc := 20) C dX12_fitsSeen_20 (q := 1) rfl ?_
      refine g_imul (pc := 21) C dX12_fitsSeen_21 ?_
      refine g_iload (pc := 22) C dX12_fitsSeen_22 (q := 5) rfl ?_
      refine g_iadd (pc := 24) C dX12_fitsSeen_24 ?_
      obtain ⟨k6, h⟩ := h
      refine g_lald (pc := 25) C k5 k6 dX12_fitsSeen_25 ?_
      refine g_lstore (pc := 26) C dX12_fitsSeen_26 (Nat.le_of_ble_eq_true rfl) (lo' := [(6, .long (wL w (wR w a0 28) ((30 * a1) + a5).toNatClampNeg)), (0, .ref (adr x a0)), (1, .int a1), (2, .int a2), (3, .int a3), (4, .int a4), (5, .int a5)]) rfl ?_
      refine g_lload (pc := 28) C dX12_fitsSeen_28 (q := 0) rfl ?_
      refine g_ldc2 (pc := 30) C LCX12_354 dX12_fitsSeen_30 ?_
      refine g_lcmp (pc := 33) C dX12_fitsSeen_33 ?_
      refine g_if_eq (pc := 34) C dX12_fitsSeen_34 (tgt := 55) rfl (fun z7 => ?_) (fun z7 => ?_)
      · replace h := h.1 z7
        refine g_iinc (pc := 55) C dX12_fitsSeen_55 (q := 6) rfl (v2 := a5 + 1) rfl (Nat.le_of_ble_eq_true rfl) (lo' := [(5, .int (a5 + 1)), (6, .long (wL w (wR w a0 28) ((30 * a1) + a5).toNatClampNeg)), (0, .ref (adr x a0)), (1, .int a1), (2, .int a2), (3, .int a3), (4, .int a4)]) rfl ?_
        refine g_goto (pc := 58) C dX12_fitsSeen_58 (tgt := 3) rfl ?_
        refine g_sub [2, 3, 4, 5, 6, 0] rfl ?_
        exact ih _ _ _ _ _ _ _ h
      · replace h := h.2 z7
        refine g_lload (pc := 37) C dX12_fitsSeen_37 (q := 0) rfl ?_
        refine g_iload_n (pc := 39) C dX12_fitsSeen_39 (q := 3) rfl ?_
        refine g_iload_n (pc := 40) C dX12_fitsSeen_40 (q := 4) rfl ?_
        refine g_iload (pc := 41) C dX12_fitsSeen_41 (q := 5) rfl ?_
        refine g_iload (pc := 43) C dX12_fitsSeen_43 (q := 6) rfl ?_
        refine miX12_447 (pc := 45) C h (Nat.le_of_ble_eq_true rfl) (Nat.le_of_ble_eq_true rfl) ⟨Nat.le_refl _, Nat.le_refl _⟩ dX12_fitsSeen_45 (fun r8 w9 h => ?_)
        refine g_i2l (pc := 48) C dX12_fitsSeen_48 ?_
        refine g_lcmp (pc := 49) C dX12_fitsSeen_49 ?_
        refine g_if_eq (pc := 50) C dX12_fitsSeen_50 (tgt := 55) rfl (fun z10 => ?_) (fun z10 => ?_)
        · replace h := h.1 z10
          refine g_iinc (pc := 55) C dX12_fitsSeen_55 (q := 6) rfl (v2 := a5 + 1) rfl (Nat.le_of_ble_eq_true rfl) (lo' := [(5, .int (a5 + 1)), (6, .long (wL w (wR w a0 28) ((30 * a1) + a5).toNatClampNeg)), (0, .ref (adr x a0)), (1, .int a1), (2, .int a2), (3, .int a3), (4, .int a4)]) rfl ?_
          refine g_goto (pc := 58) C dX12_fitsSeen_58 (tgt := 3) rfl ?_
          refine g_sub [2, 3, 4, 5, 6, 0] rfl ?_
          exact ih _ _ _ _ _ _ _ h
        · replace h := h.2 z10
          refine g_iconst (pc := 53) C dX12_fitsSeen_53 (v := 0) rfl ?_
          exact g_zret (pc := 54) C hlk hr (Nat.le_refl _) (Nat.le_refl _) dX12_fitsSeen_54 (Or.inl rfl) h
theorem c_X12_fitsSeen {x : xG} {l : Launch} {a0 : Nat} {a1 : Int32} {a2 : Int32} {a3 : Int32} {a4 : Int32} {K : Int32 → Wd → Prop} {w : Wd} (h : w_X12_fitsSeen a0 a1 a2 a3 a4 K w) : Met l yX12_fitsSeen (xws yX12_fitsSeen cX12_fitsSeen 8 (some .boolean)) (rmd 1 0 0) (xPc x [.ref (adr x a0), .int a1, .int a2, .int a3, .int a4] w) (QcI x K) 0 0 (xA x) := by
  refine xMet (by decide) (Nat.le_of_ble_eq_true rfl) (fun p e s m below meth c C hlk hr _ => ?_)
  show GW x p l e (rmd 1 0 0) s m [.ref (adr x a0), .int a1, .int a2, .int a3, .int a4].toArray below meth c 8 (QI x K below [.ref (adr x a0), .int a1, .int a2, .int a3, .int a4].toArray s 0 0) 0 [(0, .ref (adr x a0)), (1, .int a1), (2, .int a2), (3, .int a3), (4, .int a4)] [] w 0 0
  refine g_iconst (pc := 0) C dX12_fitsSeen_0 (v := 0) rfl ?_
  refine g_istore (pc := 1) C dX12_fitsSeen_1 (Nat.le_of_ble_eq_true rfl) (lo' := [(5, .int 0), (0, .ref (adr x a0)), (1, .int a1), (2, .int a2), (3, .int a3), (4, .int a4)]) rfl ?_
  obtain ⟨n11, h⟩ := h
  refine g_sub [1, 2, 3, 4, 5, 0] rfl ?_
  refine t_X12_fitsSeen_3 C hlk hr n11 _ _ _ _ _ _ _ h
theorem miX12_453 (C : xC x p s m c cc nL args RX12) {a0 : Nat} {a1 : Int32} {a2 : Int32} {a3 : Int32} {a4 : Int32} {K : Int32 → Wd → Prop} {D MC MS : Nat} (hq : isK w a0 12) (h : w_X12_fitsSeen a0 a1 a2 a3 a4 K w) (hD : 1 + 1 ≤ D) (hW : (st.map fun v => v.category).sum ≤ 8) (hij : i ≤ MC ∧ j ≤ MS) (hd : decode cc pc = .ok (.invokevirtual 453, 3)) (k : ∀ (r : Int32) (u : Wd), K r u → GW x p l e (rmd D MC MS) s m args below meth c nL Q (pc + 3) lo (.int r :: st) u i j) : GW x p l e (rmd D MC MS) s m args below meth c nL Q pc lo (.int a4 :: .int a3 :: .int a2 :: .int a1 :: .ref (adr x a0) :: st) w i j := g_callVi0 C (As := [.int a1, .int a2, .int a3, .int a4]) (ci := 12) (c_X12_fitsSeen h) (x_cwV C 4 LMX12_453 ⟨rfl, by decide, by decide, rfl⟩ hD (by decide)) rfl hq (by decide) rfl rfl hW hd hij k
def j_X12_fitting_73 (B : Nat → Int32 → Int32 → Int32 → Int32 → Int32 → Int32 → Int32 → Wd → Prop) (E107 : Nat → Int32 → Int32 → Int32 → Int32 → Int32 → Int32 → Wd → Prop) (K : Int32 → Wd → Prop) (a0 : Nat) (a1 : Int32) (a2 : Int32) (a3 : Int32) (a4 : Int32) (a5 : Int32) (a6 : Int32) (a7 : Int32) (w : Wd) : Prop :=
  ((a4 = a3 → isK w a0 12 ∧ B a0 a1 a2 a3 (a4 + 1) a5 a6 (a7 + 1) (uI w a0 25 (((10000 * a5) + (100 * a6)) + a7))) ∧ (¬ a4 = a3 → B a0 a1 a2 a3 (a4 + 1) a5 a6 (a7 + 1) w))
def l_X12_fitting_31 (E107 : Nat → Int32 → Int32 → Int32 → Int32 → Int32 → Int32 → Wd → Prop) (K : Int32 → Wd → Prop) : Nat → Nat → Int32 → Int32 → Int32 → Int32 → Int32 → Int32 → Int32 → Wd → Prop
  | 0, _, _, _, _, _, _, _, _, _ => False
  | n + 1, a0, a1, a2, a3, a4, a5, a6, a7, w => ((a5 ≤ a7 → E107 a0 a1 a2 a3 a4 a5 a6 w) ∧ (¬ a5 ≤ a7 → isK w a0 12 ∧ w_X12_fitsSeen a0 a1 a5 a6 a7 (fun r6 w7 => ((r6 = 0 → l_X12_fitting_31 E107 K n a0 a1 a2 a3 a4 a5 a6 (a7 + 1) w7) ∧ (¬ r6 = 0 → ((a2 = (-1) → j_X12_fitting_73 (l_X12_fitting_31 E107 K n) E107 K a0 a1 a2 a3 a4 a5 a6 a7 w7) ∧ (¬ a2 = (-1) → w_X12_heardIn a5 a6 a7 a2 (fun r12 w13 => ((r12 = 0 → l_X12_fitting_31 E107 K n a0 a1 a2 a3 a4 a5 a6 (a7 + 1) w13) ∧ (¬ r12 = 0 → j_X12_fitting_73 (l_X12_fitting_31 E107 K n) E107 K a0 a1 a2 a3 a4 a5 a6 a7 w13))) w7))))) w))
def l_X12_fitting_21 (E113 : Nat → Int32 → Int32 → Int32 → Int32 → Int32 → Wd → Prop) (K : Int32 → Wd → Prop) : Nat → Nat → Int32 → Int32 → Int32 → Int32 → Int32 → Int32 → Wd → Prop
  | 0, _, _, _, _, _, _, _, _ => False
  | n + 1, a0, a1, a2, a3, a4, a5, a6, w => ((a5 < a6 → E113 a0 a1 a2 a3 a4 a5 w) ∧ (¬ a5 < a6 → ∃ n23, l_X12_fitting_31 (fun b15 b16 b17 b18 b19 b20 b21 w22 => l_X12_fitting_21 E113 K n b15 b16 b17 b18 b19 b20 (b21 + 1) w22) K n23 a0 a1 a2 a3 a4 a5 a6 0 w))
def l_X12_fitting_11  (K : Int32 → Wd → Prop) : Nat → Nat → Int32 → Int32 → Int32 → Int32 → Int32 → Wd → Prop
  | 0, _, _, _, _, _, _, _ => False
  | n + 1, a0, a1, a2, a3, a4, a5, w => ((12 < a5 → K a4 w) ∧ (¬ 12 < a5 → ∃ n31, l_X12_fitting_21 (fun b24 b25 b26 b27 b28 b29 w30 => l_X12_fitting_11 K n b24 b25 b26 b27 b28 (b29 + 1) w30) K n31 a0 a1 a2 a3 a4 a5 1 w))
def w_X12_fitting (a0 : Nat) (a1 : Int32) (a2 : Int32) (a3 : Int32) (K : Int32 → Wd → Prop) (w : Wd) : Prop :=
  isK w a0 12 ∧ ∃ n32, l_X12_fitting_11  K n32 a0 a1 a2 a3 0 2 (uI w a0 25 (-1))
theorem t_X12_fitting_73 (C : xC x p s m c cX12_fitting 8 args RX12) (hlk : meth.locks = false) (hr : meth.sig.returnType = some .int) {K : Int32 → Wd → Prop} {B : Nat → Int32 → Int32 → Int32 → Int32 → Int32 → Int32 → Int32 → Wd → Prop} {E107 : Nat → Int32 → Int32 → Int32 → Int32 → Int32 → Int32 → Wd → Prop} (hB : ∀ (b0 : Nat) (b1 : Int32) (b2 : Int32) (b3 : Int32) (b4 : Int32) (b5 : Int32) (b6 : Int32) (b7 : Int32) (w : Wd), B b0 b1 b2 b3 b4 b5 b6 b7 w → GW x p l e (rmd 2 0 0) s m args below meth c 8 (QI x K below args s 0 0) 31 [(0, .ref (adr x b0)), (1, .int b1), (2, .int b2), (3, .int b3), (4, .int b4), (5, .int b5), (6, .int b6), (7, .int b7)] [] w 0 0) (hE107 : ∀ (b0 : Nat) (b1 : Int32) (b2 : Int32) (b3 : Int32) (b4 : Int32) (b5 : Int32) (b6 : Int32) (w : Wd), E107 b0 b1 b2 b3 b4 b5 b6 w → GW x p l e (rmd 2 0 0) s m args below meth c 8 (QI x K below args s 0 0) 107 [(0, .ref (adr x b0)), (1, .int b1), (2, .int b2), (3, .int b3), (4, .int b4), (5, .int b5), (6, .int b6)] [] w 0 0) (a0 : Nat) (a1 : Int32) (a2 : Int32) (a3 : Int32) (a4 : Int32) (a5 : Int32) (a6 : Int32) (a7 : Int32) (w : Wd) (h : j_X12_fitting_73 B E107 K a0 a1 a2 a3 a4 a5 a6 a7 w) : GW x p l e (rmd 2 0 0) s m args below meth c 8 (QI x K below args s 0 0) 73 [(0, .ref (adr x a0)), (1, .int a1), (2, .int a2), (3, .int a3), (4, .int a4), (5, .int a5), (6, .int a6), (7, .int a7)] [] w 0 0 := by
  refine g_iload (pc := 73) C dX12_fitting_73 (q := 4) rfl ?_
  refine g_iload_n (pc := 75) C dX12_fitting_75 (q := 3) rfl ?_
  refine g_icmp_ne (pc := 76) C dX12_fitting_76 (tgt := 98) rfl (fun z10 => ?_) (fun z10 => ?_)
  · replace h := h.2 z10
    refine g_iinc (pc := 98) C dX12_fitting_98 (q := 4) rfl (v2 := a4 + 1) rfl (Nat.le_of_ble_eq_true rfl) (lo' := [(4, .int (a4 + 1)), (0, .ref (adr x a0)), (1, .int a1), (2, .int a2), (3, .int a3), (5, .int a5), (6, .int a6), (7, .int a7)]) rfl ?_
    refine g_iinc (pc := 101) C dX12_fitting_101 (q := 7) rfl (v2 := a7 + 1) rfl (Nat.le_of_ble_eq_true rfl) (lo' := [(7, .int (a7 + 1)), (4, .int (a4 + 1)), (0, .ref (adr x a0)), (1, .int a1), (2, .int a2), (3, .int a3), (5, .int a5), (6, .int a6)]) rfl ?_
    refine g_goto (pc := 104) C dX12_fitting_104 (tgt := 31) rfl ?_
    refine g_sub [2, 3, 4, 5, 1, 6, 7, 0] rfl ?_
    exact hB _ _ _ _ _ _ _ _ _ h
  · replace h := h.1 z10
    refine g_aload_n (pc := 79) C dX12_fitting_79 (q := 0) rfl ?_
    refine g_sipush (pc := 80) C dX12_fitting_80 (v := 10000) rfl ?_
    refine g_iload (pc := 83) C dX12_fitting_83 (q := 5) rfl ?_
    refine g_imul (pc := 85) C dX12_fitting_85 ?_
    refine g_bipush (pc := 86) C dX12_fitting_86 (v := 100) rfl ?_
    refine g_iload (pc := 88) C dX12_fitting_88 (q := 6) rfl ?_
    refine g_imul (pc := 90) C dX12_fitting_90 ?_
    refine g_iadd (pc := 91) C dX12_fitting_91 ?_
    refine g_iload (pc := 92) C dX12_fitting_92 (q := 7) rfl ?_
    refine g_iadd (pc := 94) C dX12_fitting_94 ?_
    obtain ⟨k11, h⟩ := h
    refine pfX12_450 (pc := 95) C k11 dX12_fitting_95 ?_
    refine g_iinc (pc := 98) C dX12_fitting_98 (q := 4) rfl (v2 := a4 + 1) rfl (Nat.le_of_ble_eq_true rfl) (lo' := [(4, .int (a4 + 1)), (0, .ref (adr x a0)), (1, .int a1), (2, .int a2), (3, .int a3), (5, .int a5), (6, .int a6), (7, .int a7)]) rfl ?_
    refine g_iinc (pc := 101) C dX12_fitting_101 (q := 7) rfl (v2 := a7 + 1) rfl (Nat.le_of_ble_eq_true rfl) (lo' := [(7, .int (a7 + 1)), (4, .int (a4 + 1)), (0, .ref (adr x a0)), (1, .int a1), (2, .int a2), (3, .int a3), (5, .int a5), (6, .int a6)]) rfl ?_
    refine g_goto (pc := 104) C dX12_fitting_104 (tgt := 31) rfl ?_
    refine g_sub [2, 3, 4, 5, 1, 6, 7, 0] rfl ?_
    exact hB _ _ _ _ _ _ _ _ _ h
theorem t_X12_fitting_31 (C : xC x p s m c cX12_fitting 8 args RX12) (hlk : meth.locks = false) (hr : meth.sig.returnType = some .int) {K : Int32 → Wd → Prop} {E107 : Nat → Int32 → Int32 → Int32 → Int32 → Int32 → Int32 → Wd → Prop} (hE107 : ∀ (b0 : Nat) (b1 : Int32) (b2 : Int32) (b3 : Int32) (b4 : Int32) (b5 : Int32) (b6 : Int32) (w : Wd), E107 b0 b1 b2 b3 b4 b5 b6 w → GW x p l e (rmd 2 0 0) s m args below meth c 8 (QI x K below args s 0 0) 107 [(0, .ref (adr x b0)), (1, .int b1), (2, .int b2), (3, .int b3), (4, .int b4), (5, .int b5), (6, .int b6)] [] w 0 0) : ∀ (n : Nat) (a0 : Nat) (a1 : Int32) (a2 : Int32) (a3 : Int32) (a4 : Int32) (a5 : Int32) (a6 : Int32) (a7 : Int32) (w : Wd), l_X12_fitting_31 E107 K n a0 a1 a2 a3 a4 a5 a6 a7 w → GW x p l e (rmd 2 0 0) s m args below meth c 8 (QI x K below args s 0 0) 31 [(0, .ref (adr x a0)), (1, .int a1), (2, .int a2), (3, .int a3), (4, .int a4), (5, .int a5), (6, .int a6), (7, .int a7)] [] w 0 0 := by
  intro n
  induction n with
  | zero => intro _ _ _ _ _ _ _ _ _ h; exact False.elim h
  | succ n ih =>
    intro a0 a1 a2 a3 a4 a5 a6 a7 w h
    refine g_iload (pc := 31) C dX12_fitting_31 (q := 7) rfl ?_
    refine g_iload (pc := 33) C dX12_fitting_33 (q := 5) rfl ?_
    refine g_icmp_ge (pc := 35) C dX12_fitting_35 (tgt := 107) rfl (fun z4 => ?_) (fun z4 => ?_)
    · replace h := h.1 z4
      refine g_sub [0, 1, 2, 3, 4, 5, 6] rfl ?_
      exact hE107 _ _ _ _ _ _ _ _ h
    · replace h := h.2 z4
      refine g_aload_n (pc := 38) C dX12_fitting_38 (q := 0) rfl ?_
      refine g_iload_n (pc := 39) C dX12_fitting_39 (q := 1) rfl ?_
      refine g_iload (pc := 40) C dX12_fitting_40 (q := 5) rfl ?_
      refine g_iload (pc := 42) C dX12_fitting_42 (q := 6) rfl ?_
      refine g_iload (pc := 44) C dX12_fitting_44 (q := 7) rfl ?_
      obtain ⟨k5, h⟩ := h
      refine miX12_453 (pc := 46) C k5 h (Nat.le_of_ble_eq_true rfl) (Nat.le_of_ble_eq_true rfl) ⟨Nat.le_refl _, Nat.le_refl _⟩ dX12_fitting_46 (fun r6 w7 h => ?_)
      refine g_if_eq (pc := 49) C dX12_fitting_49 (tgt := 101) rfl (fun z8 => ?_) (fun z8 => ?_)
      · replace h := h.1 z8
        refine g_iinc (pc := 101) C dX12_fitting_101 (q := 7) rfl (v2 := a7 + 1) rfl (Nat.le_of_ble_eq_true rfl) (lo' := [(7, .int (a7 + 1)), (0, .ref (adr x a0)), (1, .int a1), (2, .int a2), (3, .int a3), (4, .int a4), (5, .int a5), (6, .int a6)]) rfl ?_
        refine g_goto (pc := 104) C dX12_fitting_104 (tgt := 31) rfl ?_
        refine g_sub [1, 2, 3, 4, 5, 6, 7, 0] rfl ?_
        exact ih _ _ _ _ _ _ _ _ _ h
      · replace h := h.2 z8
        refine g_iload_n (pc := 52) C dX12_fitting_52 (q := 2) rfl ?_
        refine g_iconst (pc := 53) C dX12_fitting_53 (v := (-1)) rfl ?_
        refine g_icmp_eq (pc := 54) C dX12_fitting_54 (tgt := 73) rfl (fun z9 => ?_) (fun z9 => ?_)
        · replace h := h.1 z9
          exact t_X12_fitting_73 C hlk hr ih hE107 _ _ _ _ _ _ _ _ _ h
        · replace h := h.2 z9
          refine g_iload (pc := 57) C dX12_fitting_57 (q := 5) rfl ?_
          refine g_iload (pc := 59) C dX12_fitting_59 (q := 6) rfl ?_
          refine g_iload (pc := 61) C dX12_fitting_61 (q := 7) rfl ?_
          refine g_iload_n (pc := 63) C dX12_fitting_63 (q := 2) rfl ?_
          refine miX12_447 (pc := 64) C h (Nat.le_of_ble_eq_true rfl) (Nat.le_of_ble_eq_true rfl) ⟨Nat.le_refl _, Nat.le_refl _⟩ dX12_fitting_64 (fun r12 w13 h => ?_)
          refine g_if_ne (pc := 67) C dX12_fitting_67 (tgt := 73) rfl (fun z14 => ?_) (fun z14 => ?_)
          · replace h := h.2 z14
            exact t_X12_fitting_73 C hlk hr ih hE107 _ _ _ _ _ _ _ _ _ h
          · replace h := h.1 z14
            refine g_goto (pc := 70) C dX12_fitting_70 (tgt := 101) rfl ?_
            refine g_iinc (pc := 101) C dX12_fitting_101 (q := 7) rfl (v2 := a7 + 1) rfl (Nat.le_of_ble_eq_true rfl) (lo' := [(7, .int (a7 + 1)), (0, .ref (adr x a0)), (1, .int a1), (2, .int a2), (3, .int a3), (4, .int a4), (5, .int a5), (6, .int a6)]) rfl ?_
            refine g_goto (pc := 104) C dX12_fitting_104 (tgt := 31) rfl ?_
            refine g_sub [1, 2, 3, 4, 5, 6, 7, 0] rfl ?_
            exact ih _ _ _ _ _ _ _ _ _ h
theorem t_X12_fitting_21 (C : xC x p s m c cX12_fitting 8 args RX12) (hlk : meth.locks = false) (hr : meth.sig.returnType = some .int) {K : Int32 → Wd → Prop} {E113 : Nat → Int32 → Int32 → Int32 → Int32 → Int32 → Wd → Prop} (hE113 : ∀ (b0 : Nat) (b1 : Int32) (b2 : Int32) (b3 : Int32) (b4 : Int32) (b5 : Int32) (w : Wd), E113 b0 b1 b2 b3 b4 b5 w → GW x p l e (rmd 2 0 0) s m args below meth c 8 (QI x K below args s 0 0) 113 [(0, .ref (adr x b0)), (1, .int b1), (2, .int b2), (3, .int b3), (4, .int b4), (5, .int b5)] [] w 0 0) : ∀ (n : Nat) (a0 : Nat) (a1 : Int32) (a2 : Int32) (a3 : Int32) (a4 : Int32) (a5 : Int32) (a6 : Int32) (w : Wd), l_X12_fitting_21 E113 K n a0 a1 a2 a3 a4 a5 a6 w → GW x p l e (rmd 2 0 0) s m args below meth c 8 (QI x K below args s 0 0) 21 [(0, .ref (adr x a0)), (1, .int a1), (2, .int a2), (3, .int a3), (4, .int a4), (5, .int a5), (6, .int a6)] [] w 0 0 := by
  intro n
  induction n with
  | zero => intro _ _ _ _ _ _ _ _ h; exact False.elim h
  | succ n ih =>
    intro a0 a1 a2 a3 a4 a5 a6 w h
    refine g_iload (pc := 21) C dX12_fitting_21 (q := 6) rfl ?_
    refine g_iload (pc := 23) C dX12_fitting_23 (q := 5) rfl ?_
    refine g_icmp_gt (pc := 25) C dX12_fitting_25 (tgt := 113) rfl (fun z3 => ?_) (fun z3 => ?_)
    · replace h := h.1 z3
      refine g_sub [0, 1, 2, 3, 4, 5] rfl ?_
      exact hE113 _ _ _ _ _ _ _ h
    · replace h := h.2 z3
      refine g_iconst (pc := 28) C dX12_fitting_28 (v := 0) rfl ?_
      refine g_istore (pc := 29) C dX12_fitting_29 (Nat.le_of_ble_eq_true rfl) (lo' := [(7, .int 0), (0, .ref (adr x a0)), (1, .int a1), (2, .int a2), (3, .int a3), (4, .int a4), (5, .int a5), (6, .int a6)]) rfl ?_
      obtain ⟨n23, h⟩ := h
      refine g_sub [1, 2, 3, 4, 5, 6, 7, 0] rfl ?_
      refine t_X12_fitting_31 C hlk hr ?_ n23 _ _ _ _ _ _ _ _ _ h
      · intro b15 b16 b17 b18 b19 b20 b21 w22 h
        refine g_iinc (pc := 107) C dX12_fitting_107 (q := 6) rfl (v2 := b21 + 1) rfl (Nat.le_of_ble_eq_true rfl) (lo' := [(6, .int (b21 + 1)), (0, .ref (adr x b15)), (1, .int b16), (2, .int b17), (3, .int b18), (4, .int b19), (5, .int b20)]) rfl ?_
        refine g_goto (pc := 110) C dX12_fitting_110 (tgt := 21) rfl ?_
        refine g_sub [1, 2, 3, 4, 5, 6, 0] rfl ?_
        exact ih _ _ _ _ _ _ _ _ h
theorem t_X12_fitting_11 (C : xC x p s m c cX12_fitting 8 args RX12) (hlk : meth.locks = false) (hr : meth.sig.returnType = some .int) {K : Int32 → Wd → Prop}   : ∀ (n : Nat) (a0 : Nat) (a1 : Int32) (a2 : Int32) (a3 : Int32) (a4 : Int32) (a5 : Int32) (w : Wd), l_X12_fitting_11 K n a0 a1 a2 a3 a4 a5 w → GW x p l e (rmd 2 0 0) s m args below meth c 8 (QI x K below args s 0 0) 11 [(0, .ref (adr x a0)), (1, .int a1), (2, .int a2), (3, .int a3), (4, .int a4), (5, .int a5)] [] w 0 0 := by
  intro n
  induction n with
  | zero => intro _ _ _ _ _ _ _ h; exact False.elim h
  | succ n ih =>
    intro a0 a1 a2 a3 a4 a5 w h
    refine g_iload (pc := 11) C dX12_fitting_11 (q := 5) rfl ?_
    refine g_bipush (pc := 13) C dX12_fitting_13 (v := 12) rfl ?_
    refine g_icmp_gt (pc := 15) C dX12_fitting_15 (tgt := 119) rfl (fun z2 => ?_) (fun z2 => ?_)
    · replace h := h.1 z2
      refine g_iload (pc := 119) C dX12_fitting_119 (q := 4) rfl ?_
      exact g_iret (pc := 121) C hlk hr (Nat.le_refl _) (Nat.le_refl _) dX12_fitting_121 h
    · replace h := h.2 z2
      refine g_iconst (pc := 18) C dX12_fitting_18 (v := 1) rfl ?_
      refine g_istore (pc := 19) C dX12_fitting_19 (Nat.le_of_ble_eq_true rfl) (lo' := [(6, .int 1), (0, .ref (adr x a0)), (1, .int a1), (2, .int a2), (3, .int a3), (4, .int a4), (5, .int a5)]) rfl ?_
      obtain ⟨n31, h⟩ := h
      refine g_sub [1, 2, 3, 4, 5, 6, 0] rfl ?_
      refine t_X12_fitting_21 C hlk hr ?_ n31 _ _ _ _ _ _ _ _ h
      · intro b24 b25 b26 b27 b28 b29 w30 h
        refine g_iinc (pc := 113) C dX12_fitting_113 (q := 5) rfl (v2 := b29 + 1) rfl (Nat.le_of_ble_eq_true rfl) (lo' := [(5, .int (b29 + 1)), (0, .ref (adr x b24)), (1, .int b25), (2, .int b26), (3, .int b27), (4, .int b28)]) rfl ?_
        refine g_goto (pc := 116) C dX12_fitting_116 (tgt := 11) rfl ?_
        refine g_sub [1, 2, 3, 4, 5, 0] rfl ?_
        exact ih _ _ _ _ _ _ _ h
theorem c_X12_fitting {x : xG} {l : Launch} {a0 : Nat} {a1 : Int32} {a2 : Int32} {a3 : Int32} {K : Int32 → Wd → Prop} {w : Wd} (h : w_X12_fitting a0 a1 a2 a3 K w) : Met l yX12_fitting (xws yX12_fitting cX12_fitting 8 (some .int)) (rmd 2 0 0) (xPc x [.ref (adr x a0), .int a1, .int a2, .int a3] w) (QcI x K) 0 0 (xA x) := by
  refine xMet (by decide) (Nat.le_of_ble_eq_true rfl) (fun p e s m below meth c C hlk hr _ => ?_)
  show GW x p l e (rmd 2 0 0) s m [.ref (adr x a0), .int a1, .int a2, .int a3].toArray below meth c 8 (QI x K below [.ref (adr x a0), .int a1, .int a2, .int a3].toArray s 0 0) 0 [(0, .ref (adr x a0)), (1, .int a1), (2, .int a2), (3, .int a3)] [] w 0 0
  refine g_iconst (pc := 0) C dX12_fitting_0 (v := 0) rfl ?_
  refine g_istore (pc := 1) C dX12_fitting_1 (Nat.le_of_ble_eq_true rfl) (lo' := [(4, .int 0), (0, .ref (adr x a0)), (1, .int a1), (2, .int a2), (3, .int a3)]) rfl ?_
  refine g_aload_n (pc := 3) C dX12_fitting_3 (q := 1) rfl ?_
  refine g_iconst (pc := 4) C dX12_fitting_4 (v := (-1)) rfl ?_
  obtain ⟨k1, h⟩ := h
  refine pfX12_450 (pc := 5) C k1 dX12_fitting_5 ?_
  refine g_iconst (pc := 8) C dX12_fitting_8 (v := 2) rfl ?_
  refine g_istore (pc := 9) C dX12_fitting_9 (Nat.le_of_ble_eq_true rfl) (lo' := [(5, .int 2), (4, .int 0), (0, .ref (adr x a0)), (1, .int a1), (2, .int a2), (3, .int a3)]) rfl ?_
  obtain ⟨n32, h⟩ := h
  refine g_sub [2, 3, 4, 5, 1, 0] rfl ?_
  refine t_X12_fitting_11 C hlk hr n32 _ _ _ _ _ _ _ h
def l_X12_waterAll_4  (K : Int32 → Wd → Prop) : Nat → Nat → Int32 → Int32 → Wd → Prop
  | 0, _, _, _, _ => False
  | n + 1, a0, a1, a2, w => isK w a0 12 ∧ w_X12_wells a0 (fun r2 w3 => ((r2 ≤ a2 → K a1 w3) ∧ (¬ r2 ≤ a2 → isK w3 a0 12 ∧ isK w3 (wR w3 a0 0) 20 ∧ vp_in (15 + a2) (wn w3 (wR w3 a0 0)) ∧ l_X12_waterAll_4 K n a0 (a1 + (wI w3 (wR w3 a0 0) (15 + a2).toNatClampNeg)) (a2 + 1) w3))) w
def w_X12_waterAll (a0 : Nat) (K : Int32 → Wd → Prop) (w : Wd) : Prop :=
  ∃ n8, l_X12_waterAll_4  K n8 a0 0 0 w
theorem t_X12_waterAll_4 (C : xC x p s m c cX12_waterAll 3 args RX12) (hlk : meth.locks = false) (hr : meth.sig.returnType = some .int) {K : Int32 → Wd → Prop}   : ∀ (n : Nat) (a0 : Nat) (a1 : Int32) (a2 : Int32) (w : Wd), l_X12_waterAll_4 K n a0 a1 a2 w → GW x p l e (rmd 1 0 0) s m args below meth c 3 (QI x K below args s 0 0) 4 [(0, .ref (adr x a0)), (1, .int a1), (2, .int a2)] [] w 0 0 := by
  intro n
  induction n with
  | zero => intro _ _ _ _ h; exact False.elim h
  | succ n ih =>
    intro a0 a1 a2 w h
    refine g_iload_n (pc := 4) C dX12_waterAll_4 (q := 2) rfl ?_
    refine g_aload_n (pc := 5) C dX12_waterAll_5 (q := 0) rfl ?_
    obtain ⟨k1, h⟩ := h
    refine miX12_239 (pc := 6) C k1 h (Nat.le_of_ble_eq_true rfl) (Nat.le_of_ble_eq_true rfl) ⟨Nat.le_refl _, Nat.le_refl _⟩ dX12_waterAll_6 (fun r2 w3 h => ?_)
    refine g_icmp_ge (pc := 9) C dX12_waterAll_9 (tgt := 30) rfl (fun z4 => ?_) (fun z4 => ?_)
    · replace h := h.1 z4
      refine g_iload_n (pc := 30) C dX12_waterAll_30 (q := 1) rfl ?_
      exact g_iret (pc := 31) C hlk hr (Nat.le_refl _) (Nat.le_refl _) dX12_waterAll_31 h
    · replace h := h.2 z4
      refine g_iload_n (pc := 12) C dX12_waterAll_12 (q := 1) rfl ?_
      refine g_aload_n (pc := 13) C dX12_waterAll_13 (q := 0) rfl ?_
      obtain ⟨k5, h⟩ := h
      obtain ⟨k6, h⟩ := h
      refine gfX12_9 (pc := 14) C k5 (isK_ne k6) dX12_waterAll_14 ?_
      refine g_bipush (pc := 17) C dX12_waterAll_17 (v := 15) rfl ?_
      refine g_iload_n (pc := 19) C dX12_waterAll_19 (q := 2) rfl ?_
      refine g_iadd (pc := 20) C dX12_waterAll_20 ?_
      obtain ⟨k7, h⟩ := h
      refine g_iald (pc := 21) C k6 k7 dX12_waterAll_21 ?_
      refine g_iadd (pc := 22) C dX12_waterAll_22 ?_
      refine g_istore_n (pc := 23) C dX12_waterAll_23 (Nat.le_of_ble_eq_true rfl) (lo' := [(1, .int (a1 + (wI w3 (wR w3 a0 0) (15 + a2).toNatClampNeg))), (0, .ref (adr x a0)), (2, .int a2)]) rfl ?_
      refine g_iinc (pc := 24) C dX12_waterAll_24 (q := 2) rfl (v2 := a2 + 1) rfl (Nat.le_of_ble_eq_true rfl) (lo' := [(2, .int (a2 + 1)), (1, .int (a1 + (wI w3 (wR w3 a0 0) (15 + a2).toNatClampNeg))), (0, .ref (adr x a0))]) rfl ?_
      refine g_goto (pc := 27) C dX12_waterAll_27 (tgt := 4) rfl ?_
      refine g_sub [2, 1, 0] rfl ?_
      exact ih _ _ _ _ h
theorem c_X12_waterAll {x : xG} {l : Launch} {a0 : Nat} {K : Int32 → Wd → Prop} {w : Wd} (h : w_X12_waterAll a0 K w) : Met l yX12_waterAll (xws yX12_waterAll cX12_waterAll 3 (some .int)) (rmd 1 0 0) (xPc x [.ref (adr x a0)] w) (QcI x K) 0 0 (xA x) := by
  refine xMet (by decide) (Nat.le_of_ble_eq_true rfl) (fun p e s m below meth c C hlk hr _ => ?_)
  show GW x p l e (rmd 1 0 0) s m [.ref (adr x a0)].toArray below meth c 3 (QI x K below [.ref (adr x a0)].toArray s 0 0) 0 [(0, .ref (adr x a0))] [] w 0 0
  refine g_iconst (pc := 0) C dX12_waterAll_0 (v := 0) rfl ?_
  refine g_istore_n (pc := 1) C dX12_waterAll_1 (Nat.le_of_ble_eq_true rfl) (lo' := [(1, .int 0), (0, .ref (adr x a0))]) rfl ?_
  refine g_iconst (pc := 2) C dX12_waterAll_2 (v := 0) rfl ?_
  refine g_istore_n (pc := 3) C dX12_waterAll_3 (Nat.le_of_ble_eq_true rfl) (lo' := [(2, .int 0), (1, .int 0), (0, .ref (adr x a0))]) rfl ?_
  obtain ⟨n8, h⟩ := h
  refine g_sub [2, 1, 0] rfl ?_
  refine t_X12_waterAll_4 C hlk hr n8 _ _ _ _ h
theorem miX12_311 (C : xC x p s m c cc nL args RX12) {a0 : Nat} {K : Int32 → Wd → Prop} {D MC MS : Nat} (hq : isK w a0 12) (h : w_X12_waterAll a0 K w) (hD : 1 + 1 ≤ D) (hW : (st.map fun v => v.category).sum ≤ 8) (hij : i ≤ MC ∧ j ≤ MS) (hd : decode cc pc = .ok (.invokevirtual 311, 3)) (k : ∀ (r : Int32) (u : Wd), K r u → GW x p l e (rmd D MC MS) s m args below meth c nL Q (pc + 3) lo (.int r :: st) u i j) : GW x p l e (rmd D MC MS) s m args below meth c nL Q pc lo (.ref (adr x a0) :: st) w i j := g_callVi0 C (As := []) (ci := 12) (c_X12_waterAll h) (x_cwV C 0 LMX12_311 ⟨rfl, by decide, by decide, rfl⟩ hD (by decide)) rfl hq (by decide) rfl rfl hW hd hij k
def l_X12_fullest_18  (K : Int32 → Wd → Prop) : Nat → Nat → Int32 → Int32 → Int32 → Wd → Prop
  | 0, _, _, _, _, _ => False
  | n + 1, a0, a1, a2, a3, w => ((200 < a3 → isK w a0 12 ∧ w_X12_putsBack a0 (fun w8 => K a1 w8) w) ∧ (¬ 200 < a3 → isK w a0 12 ∧ w_X12_hour a0 (fun w10 => isK w10 a0 12 ∧ w_X12_waterAll a0 (fun r12 w13 => ((a2 < r12 → isK w13 a0 12 ∧ w_X12_waterAll a0 (fun r16 w17 => l_X12_fullest_18 K n a0 a3 r16 (a3 + 1) w17) w13) ∧ (¬ a2 < r12 → l_X12_fullest_18 K n a0 a1 a2 (a3 + 1) w13))) w10) w))
def w_X12_fullest (a0 : Nat) (K : Int32 → Wd → Prop) (w : Wd) : Prop :=
  isK w a0 12 ∧ w_X12_putsAside a0 (fun w2 => isK w2 a0 12 ∧ w_X12_waterAll a0 (fun r4 w5 => ∃ n18, l_X12_fullest_18  K n18 a0 0 r4 1 w5) w2) (uI w a0 4 0)
theorem t_X12_fullest_18 (C : xC x p s m c cX12_fullest 4 args RX12) (hlk : meth.locks = false) (hr : meth.sig.returnType = some .int) {K : Int32 → Wd → Prop}   : ∀ (n : Nat) (a0 : Nat) (a1 : Int32) (a2 : Int32) (a3 : Int32) (w : Wd), l_X12_fullest_18 K n a0 a1 a2 a3 w → GW x p l e (rmd 4 0 0) s m args below meth c 4 (QI x K below args s 0 0) 18 [(0, .ref (adr x a0)), (1, .int a1), (2, .int a2), (3, .int a3)] [] w 0 0 := by
  intro n
  induction n with
  | zero => intro _ _ _ _ _ h; exact False.elim h
  | succ n ih =>
    intro a0 a1 a2 a3 w h
    refine g_iload_n (pc := 18) C dX12_fullest_18 (q := 3) rfl ?_
    refine g_sipush (pc := 19) C dX12_fullest_19 (v := 200) rfl ?_
    refine g_icmp_gt (pc := 22) C dX12_fullest_22 (tgt := 53) rfl (fun z6 => ?_) (fun z6 => ?_)
    · replace h := h.1 z6
      refine g_aload_n (pc := 53) C dX12_fullest_53 (q := 0) rfl ?_
      obtain ⟨k7, h⟩ := h
      refine miX12_384 (pc := 54) C k7 h (Nat.le_of_ble_eq_true rfl) (Nat.le_of_ble_eq_true rfl) ⟨Nat.le_refl _, Nat.le_refl _⟩ dX12_fullest_54 (fun w8 h => ?_)
      refine g_iload_n (pc := 57) C dX12_fullest_57 (q := 1) rfl ?_
      exact g_iret (pc := 58) C hlk hr (Nat.le_refl _) (Nat.le_refl _) dX12_fullest_58 h
    · replace h := h.2 z6
      refine g_aload_n (pc := 25) C dX12_fullest_25 (q := 0) rfl ?_
      obtain ⟨k9, h⟩ := h
      refine miX12_347 (pc := 26) C k9 h (Nat.le_of_ble_eq_true rfl) (Nat.le_of_ble_eq_true rfl) ⟨Nat.le_refl _, Nat.le_refl _⟩ dX12_fullest_26 (fun w10 h => ?_)
      refine g_aload_n (pc := 29) C dX12_fullest_29 (q := 0) rfl ?_
      obtain ⟨k11, h⟩ := h
      refine miX12_311 (pc := 30) C k11 h (Nat.le_of_ble_eq_true rfl) (Nat.le_of_ble_eq_true rfl) ⟨Nat.le_refl _, Nat.le_refl _⟩ dX12_fullest_30 (fun r12 w13 h => ?_)
      refine g_iload_n (pc := 33) C dX12_fullest_33 (q := 2) rfl ?_
      refine g_icmp_gt (pc := 34) C dX12_fullest_34 (tgt := 40) rfl (fun z14 => ?_) (fun z14 => ?_)
      · replace h := h.1 z14
        refine g_iload_n (pc := 40) C dX12_fullest_40 (q := 3) rfl ?_
        refine g_istore_n (pc := 41) C dX12_fullest_41 (Nat.le_of_ble_eq_true rfl) (lo' := [(1, .int a3), (0, .ref (adr x a0)), (2, .int a2), (3, .int a3)]) rfl ?_
        refine g_aload_n (pc := 42) C dX12_fullest_42 (q := 1) rfl ?_
        obtain ⟨k15, h⟩ := h
        refine miX12_311 (pc := 43) C k15 h (Nat.le_of_ble_eq_true rfl) (Nat.le_of_ble_eq_true rfl) ⟨Nat.le_refl _, Nat.le_refl _⟩ dX12_fullest_43 (fun r16 w17 h => ?_)
        refine g_istore_n (pc := 46) C dX12_fullest_46 (Nat.le_of_ble_eq_true rfl) (lo' := [(2, .int r16), (1, .int a3), (0, .ref (adr x a0)), (3, .int a3)]) rfl ?_
        refine g_iinc (pc := 47) C dX12_fullest_47 (q := 3) rfl (v2 := a3 + 1) rfl (Nat.le_of_ble_eq_true rfl) (lo' := [(3, .int (a3 + 1)), (2, .int r16), (1, .int a3), (0, .ref (adr x a0))]) rfl ?_
        refine g_goto (pc := 50) C dX12_fullest_50 (tgt := 18) rfl ?_
        refine g_sub [3, 2, 1, 0] rfl ?_
        exact ih _ _ _ _ _ h
      · replace h := h.2 z14
        refine g_goto (pc := 37) C dX12_fullest_37 (tgt := 47) rfl ?_
        refine g_iinc (pc := 47) C dX12_fullest_47 (q := 3) rfl (v2 := a3 + 1) rfl (Nat.le_of_ble_eq_true rfl) (lo' := [(3, .int (a3 + 1)), (0, .ref (adr x a0)), (1, .int a1), (2, .int a2)]) rfl ?_
        refine g_goto (pc := 50) C dX12_fullest_50 (tgt := 18) rfl ?_
        refine g_sub [1, 2, 3, 0] rfl ?_
        exact ih _ _ _ _ _ h
theorem c_X12_fullest {x : xG} {l : Launch} {a0 : Nat} {K : Int32 → Wd → Prop} {w : Wd} (h : w_X12_fullest a0 K w) : Met l yX12_fullest (xws yX12_fullest cX12_fullest 4 (some .int)) (rmd 4 0 0) (xPc x [.ref (adr x a0)] w) (QcI x K) 0 0 (xA x) := by
  refine xMet (by decide) (Nat.le_of_ble_eq_true rfl) (fun p e s m below meth c C hlk hr _ => ?_)
  show GW x p l e (rmd 4 0 0) s m [.ref (adr x a0)].toArray below meth c 4 (QI x K below [.ref (adr x a0)].toArray s 0 0) 0 [(0, .ref (adr x a0))] [] w 0 0
  refine g_aload_n (pc := 0) C dX12_fullest_0 (q := 0) rfl ?_
  refine g_iconst (pc := 1) C dX12_fullest_1 (v := 0) rfl ?_
  obtain ⟨k1, h⟩ := h
  refine pfX12_58 (pc := 2) C k1 dX12_fullest_2 ?_
  refine g_aload_n (pc := 5) C dX12_fullest_5 (q := 0) rfl ?_
  refine miX12_375 (pc := 6) (w := uI w a0 4 0) C k1 h (Nat.le_of_ble_eq_true rfl) (Nat.le_of_ble_eq_true rfl) ⟨Nat.le_refl _, Nat.le_refl _⟩ dX12_fullest_6 (fun w2 h => ?_)
  refine g_iconst (pc := 9) C dX12_fullest_9 (v := 0) rfl ?_
  refine g_istore_n (pc := 10) C dX12_fullest_10 (Nat.le_of_ble_eq_true rfl) (lo' := [(1, .int 0), (0, .ref (adr x a0))]) rfl ?_
  refine g_aload_n (pc := 11) C dX12_fullest_11 (q := 1) rfl ?_
  obtain ⟨k3, h⟩ := h
  refine miX12_311 (pc := 12) C k3 h (Nat.le_of_ble_eq_true rfl) (Nat.le_of_ble_eq_true rfl) ⟨Nat.le_refl _, Nat.le_refl _⟩ dX12_fullest_12 (fun r4 w5 h => ?_)
  refine g_istore_n (pc := 15) C dX12_fullest_15 (Nat.le_of_ble_eq_true rfl) (lo' := [(2, .int r4), (1, .int 0), (0, .ref (adr x a0))]) rfl ?_
  refine g_iconst (pc := 16) C dX12_fullest_16 (v := 1) rfl ?_
  refine g_istore_n (pc := 17) C dX12_fullest_17 (Nat.le_of_ble_eq_true rfl) (lo' := [(3, .int 1), (2, .int r4), (1, .int 0), (0, .ref (adr x a0))]) rfl ?_
  obtain ⟨n18, h⟩ := h
  refine g_sub [3, 2, 1, 0] rfl ?_
  refine t_X12_fullest_18 C hlk hr n18 _ _ _ _ _ h
def j_X12_goesIn_14  (K : Wd → Prop) (a0 : Nat) (w : Wd) : Prop :=
  isK w a0 12 ∧ (((wI (uI w a0 16 ((wI w a0 16) + 1)) a0 12) = 0 → w_X12_readsOn a0 (fun w5 => K w5) (uI w a0 16 ((wI w a0 16) + 1))) ∧ (¬ (wI (uI w a0 16 ((wI w a0 16) + 1)) a0 12) = 0 → K (uI w a0 16 ((wI w a0 16) + 1))))
def w_X12_goesIn (a0 : Nat) (K : Wd → Prop) (w : Wd) : Prop :=
  isK w a0 12 ∧ (((wI w a0 16) = 6 → w_X12_blames a0 4 (fun w6 => j_X12_goesIn_14 K a0 w6) w) ∧ (¬ (wI w a0 16) = 6 → j_X12_goesIn_14 K a0 w))
theorem t_X12_goesIn_14 (C : xC x p s m c cX12_goesIn 1 args RX12) (hlk : meth.locks = false) (hr : meth.sig.returnType = none) {K : Wd → Prop}   (a0 : Nat) (w : Wd) (h : j_X12_goesIn_14 K a0 w) : GW x p l e (rmd 2 0 0) s m args below meth c 1 (QV x K below args s 0 0) 14 [(0, .ref (adr x a0))] [] w 0 0 := by
  refine g_aload_n (pc := 14) C dX12_goesIn_14 (q := 0) rfl ?_
  refine g_dup (pc := 15) C dX12_goesIn_15 rfl ?_
  obtain ⟨k3, h⟩ := h
  refine gfX12_126 (pc := 16) C k3 dX12_goesIn_16 ?_
  refine g_iconst (pc := 19) C dX12_goesIn_19 (v := 1) rfl ?_
  refine g_iadd (pc := 20) C dX12_goesIn_20 ?_
  refine pfX12_126 (pc := 21) C k3 dX12_goesIn_21 ?_
  refine g_aload_n (pc := 24) C dX12_goesIn_24 (q := 0) rfl ?_
  refine gfX12_93 (pc := 25) (w := uI w a0 16 ((wI w a0 16) + 1)) C k3 dX12_goesIn_25 ?_
  refine g_if_ne (pc := 28) C dX12_goesIn_28 (tgt := 35) rfl (fun z4 => ?_) (fun z4 => ?_)
  · replace h := h.2 z4
    exact g_vret (pc := 35) C hlk hr (Nat.le_refl _) (Nat.le_refl _) dX12_goesIn_35 h
  · replace h := h.1 z4
    refine g_aload_n (pc := 31) C dX12_goesIn_31 (q := 0) rfl ?_
    refine miX12_112 (pc := 32) (w := uI w a0 16 ((wI w a0 16) + 1)) C k3 h (Nat.le_of_ble_eq_true rfl) (Nat.le_of_ble_eq_true rfl) ⟨Nat.le_refl _, Nat.le_refl _⟩ dX12_goesIn_32 (fun w5 h => ?_)
    exact g_vret (pc := 35) C hlk hr (Nat.le_refl _) (Nat.le_refl _) dX12_goesIn_35 h
theorem c_X12_goesIn {x : xG} {l : Launch} {a0 : Nat} {K : Wd → Prop} {w : Wd} (h : w_X12_goesIn a0 K w) : Met l yX12_goesIn (xws yX12_goesIn cX12_goesIn 1 none) (rmd 2 0 0) (xPc x [.ref (adr x a0)] w) (QcV x K) 0 0 (xA x) := by
  refine xMet (by decide) (Nat.le_of_ble_eq_true rfl) (fun p e s m below meth c C hlk hr _ => ?_)
  show GW x p l e (rmd 2 0 0) s m [.ref (adr x a0)].toArray below meth c 1 (QV x K below [.ref (adr x a0)].toArray s 0 0) 0 [(0, .ref (adr x a0))] [] w 0 0
  refine g_aload_n (pc := 0) C dX12_goesIn_0 (q := 0) rfl ?_
  obtain ⟨k1, h⟩ := h
  refine gfX12_126 (pc := 1) C k1 dX12_goesIn_1 ?_
  refine g_bipush (pc := 4) C dX12_goesIn_4 (v := 6) rfl ?_
  refine g_icmp_ne (pc := 6) C dX12_goesIn_6 (tgt := 14) rfl (fun z2 => ?_) (fun z2 => ?_)
  · replace h := h.2 z2
    exact t_X12_goesIn_14 C hlk hr  _ _ h
  · replace h := h.1 z2
    refine g_aload_n (pc := 9) C dX12_goesIn_9 (q := 0) rfl ?_
    refine g_iconst (pc := 10) C dX12_goesIn_10 (v := 4) rfl ?_
    refine miX12_115 (pc := 11) C k1 h (Nat.le_of_ble_eq_true rfl) (Nat.le_of_ble_eq_true rfl) ⟨Nat.le_refl _, Nat.le_refl _⟩ dX12_goesIn_11 (fun w6 h => ?_)
    exact t_X12_goesIn_14 C hlk hr  _ _ h
def l_X12_hasIn_41  (K : Int32 → Wd → Prop) : Nat → Nat → Int32 → Int32 → Int32 → Wd → Prop
  | 0, _, _, _, _, _ => False
  | n + 1, a0, a1, a2, a3, w => ((200 < a3 → isK w a0 12 ∧ w_X12_putsBack a0 (fun w11 => ((a3 ≤ 200 → K a3 w11) ∧ (¬ a3 ≤ 200 → K (-1) w11))) w) ∧ (¬ 200 < a3 → isK w a0 12 ∧ isK w (wR w a0 0) 20 ∧ vp_in (15 + a1) (wn w (wR w a0 0)) ∧ ((a2 ≤ (wI w (wR w a0 0) (15 + a1).toNatClampNeg) → w_X12_putsBack a0 (fun w17 => ((a3 ≤ 200 → K a3 w17) ∧ (¬ a3 ≤ 200 → K (-1) w17))) w) ∧ (¬ a2 ≤ (wI w (wR w a0 0) (15 + a1).toNatClampNeg) → w_X12_hour a0 (fun w19 => l_X12_hasIn_41 K n a0 a1 a2 (a3 + 1) w19) w))))
def w_X12_hasIn (a0 : Nat) (a1 : Int32) (a2 : Int32) (K : Int32 → Wd → Prop) (w : Wd) : Prop :=
  isK w a0 12 ∧ w_X12_isWell a0 a1.toInt64 (fun r2 w3 => ((r2 = 0 → isK w3 a0 12 ∧ (((wI (uI w3 a0 4 1) a0 4) ≤ 0 → w_X12_putsAside a0 (fun w27 => ∃ n28, l_X12_hasIn_41  K n28 a0 a1 a2 0 w27) (uI w3 a0 4 1)) ∧ (¬ (wI (uI w3 a0 4 1) a0 4) ≤ 0 → K 0 (uI w3 a0 4 1)))) ∧ (¬ r2 = 0 → ((0 ≤ a2 → isK w3 a0 12 ∧ (((wI (uI w3 a0 4 0) a0 4) ≤ 0 → w_X12_putsAside a0 (fun w8 => ∃ n20, l_X12_hasIn_41  K n20 a0 a1 a2 0 w8) (uI w3 a0 4 0)) ∧ (¬ (wI (uI w3 a0 4 0) a0 4) ≤ 0 → K 0 (uI w3 a0 4 0)))) ∧ (¬ 0 ≤ a2 → isK w3 a0 12 ∧ (((wI (uI w3 a0 4 2) a0 4) ≤ 0 → w_X12_putsAside a0 (fun w23 => ∃ n24, l_X12_hasIn_41  K n24 a0 a1 a2 0 w23) (uI w3 a0 4 2)) ∧ (¬ (wI (uI w3 a0 4 2) a0 4) ≤ 0 → K 0 (uI w3 a0 4 2)))))))) w
theorem t_X12_hasIn_41 (C : xC x p s m c cX12_hasIn 4 args RX12) (hlk : meth.locks = false) (hr : meth.sig.returnType = some .int) {K : Int32 → Wd → Prop}   : ∀ (n : Nat) (a0 : Nat) (a1 : Int32) (a2 : Int32) (a3 : Int32) (w : Wd), l_X12_hasIn_41 K n a0 a1 a2 a3 w → GW x p l e (rmd 4 0 0) s m args below meth c 4 (QI x K below args s 0 0) 41 [(0, .ref (adr x a0)), (1, .int a1), (2, .int a2), (3, .int a3)] [] w 0 0 := by
  intro n
  induction n with
  | zero => intro _ _ _ _ _ h; exact False.elim h
  | succ n ih =>
    intro a0 a1 a2 a3 w h
    refine g_iload_n (pc := 41) C dX12_hasIn_41 (q := 3) rfl ?_
    refine g_sipush (pc := 42) C dX12_hasIn_42 (v := 200) rfl ?_
    refine g_icmp_gt (pc := 45) C dX12_hasIn_45 (tgt := 71) rfl (fun z9 => ?_) (fun z9 => ?_)
    · replace h := h.1 z9
      refine g_aload_n (pc := 71) C dX12_hasIn_71 (q := 0) rfl ?_
      obtain ⟨k10, h⟩ := h
      refine miX12_384 (pc := 72) C k10 h (Nat.le_of_ble_eq_true rfl) (Nat.le_of_ble_eq_true rfl) ⟨Nat.le_refl _, Nat.le_refl _⟩ dX12_hasIn_72 (fun w11 h => ?_)
      refine g_iload_n (pc := 75) C dX12_hasIn_75 (q := 3) rfl ?_
      refine g_sipush (pc := 76) C dX12_hasIn_76 (v := 200) rfl ?_
      refine g_icmp_le (pc := 79) C dX12_hasIn_79 (tgt := 86) rfl (fun z12 => ?_) (fun z12 => ?_)
      · replace h := h.1 z12
        refine g_iload_n (pc := 86) C dX12_hasIn_86 (q := 3) rfl ?_
        exact g_iret (pc := 87) C hlk hr (Nat.le_refl _) (Nat.le_refl _) dX12_hasIn_87 h
      · replace h := h.2 z12
        refine g_iconst (pc := 82) C dX12_hasIn_82 (v := (-1)) rfl ?_
        refine g_goto (pc := 83) C dX12_hasIn_83 (tgt := 87) rfl ?_
        exact g_iret (pc := 87) C hlk hr (Nat.le_refl _) (Nat.le_refl _) dX12_hasIn_87 h
    · replace h := h.2 z9
      refine g_aload_n (pc := 48) C dX12_hasIn_48 (q := 0) rfl ?_
      obtain ⟨k13, h⟩ := h
      obtain ⟨k14, h⟩ := h
      refine gfX12_9 (pc := 49) C k13 (isK_ne k14) dX12_hasIn_49 ?_
      refine g_bipush (pc := 52) C dX12_hasIn_52 (v := 15) rfl ?_
      refine g_iload_n (pc := 54) C dX12_hasIn_54 (q := 1) rfl ?_
      refine g_iadd (pc := 55) C dX12_hasIn_55 ?_
      obtain ⟨k15, h⟩ := h
      refine g_iald (pc := 56) C k14 k15 dX12_hasIn_56 ?_
      refine g_iload_n (pc := 57) C dX12_hasIn_57 (q := 2) rfl ?_
      refine g_icmp_ge (pc := 58) C dX12_hasIn_58 (tgt := 71) rfl (fun z16 => ?_) (fun z16 => ?_)
      · replace h := h.1 z16
        refine g_aload_n (pc := 71) C dX12_hasIn_71 (q := 0) rfl ?_
        refine miX12_384 (pc := 72) C k13 h (Nat.le_of_ble_eq_true rfl) (Nat.le_of_ble_eq_true rfl) ⟨Nat.le_refl _, Nat.le_refl _⟩ dX12_hasIn_72 (fun w17 h => ?_)
        refine g_iload_n (pc := 75) C dX12_hasIn_75 (q := 3) rfl ?_
        refine g_sipush (pc := 76) C dX12_hasIn_76 (v := 200) rfl ?_
        refine g_icmp_le (pc := 79) C dX12_hasIn_79 (tgt := 86) rfl (fun z18 => ?_) (fun z18 => ?_)
        · replace h := h.1 z18
          refine g_iload_n (pc := 86) C dX12_hasIn_86 (q := 3) rfl ?_
          exact g_iret (pc := 87) C hlk hr (Nat.le_refl _) (Nat.le_refl _) dX12_hasIn_87 h
        · replace h := h.2 z18
          refine g_iconst (pc := 82) C dX12_hasIn_82 (v := (-1)) rfl ?_
          refine g_goto (pc := 83) C dX12_hasIn_83 (tgt := 87) rfl ?_
          exact g_iret (pc := 87) C hlk hr (Nat.le_refl _) (Nat.le_refl _) dX12_hasIn_87 h
      · replace h := h.2 z16
        refine g_aload_n (pc := 61) C dX12_hasIn_61 (q := 0) rfl ?_
        refine miX12_347 (pc := 62) C k13 h (Nat.le_of_ble_eq_true rfl) (Nat.le_of_ble_eq_true rfl) ⟨Nat.le_refl _, Nat.le_refl _⟩ dX12_hasIn_62 (fun w19 h => ?_)
        refine g_iinc (pc := 65) C dX12_hasIn_65 (q := 3) rfl (v2 := a3 + 1) rfl (Nat.le_of_ble_eq_true rfl) (lo' := [(3, .int (a3 + 1)), (0, .ref (adr x a0)), (1, .int a1), (2, .int a2)]) rfl ?_
        refine g_goto (pc := 68) C dX12_hasIn_68 (tgt := 41) rfl ?_
        refine g_sub [1, 2, 3, 0] rfl ?_
        exact ih _ _ _ _ _ h
theorem c_X12_hasIn {x : xG} {l : Launch} {a0 : Nat} {a1 : Int32} {a2 : Int32} {K : Int32 → Wd → Prop} {w : Wd} (h : w_X12_hasIn a0 a1 a2 K w) : Met l yX12_hasIn (xws yX12_hasIn cX12_hasIn 4 (some .int)) (rmd 4 0 0) (xPc x [.ref (adr x a0), .int a1, .int a2] w) (QcI x K) 0 0 (xA x) := by
  refine xMet (by decide) (Nat.le_of_ble_eq_true rfl) (fun p e s m below meth c C hlk hr _ => ?_)
  show GW x p l e (rmd 4 0 0) s m [.ref (adr x a0), .int a1, .int a2].toArray below meth c 4 (QI x K below [.ref (adr x a0), .int a1, .int a2].toArray s 0 0) 0 [(0, .ref (adr x a0)), (1, .int a1), (2, .int a2)] [] w 0 0
  refine g_aload_n (pc := 0) C dX12_hasIn_0 (q := 0) rfl ?_
  refine g_aload_n (pc := 1) C dX12_hasIn_1 (q := 0) rfl ?_
  refine g_iload_n (pc := 2) C dX12_hasIn_2 (q := 1) rfl ?_
  refine g_i2l (pc := 3) C dX12_hasIn_3 ?_
  obtain ⟨k1, h⟩ := h
  refine miX12_302 (pc := 4) C k1 h (Nat.le_of_ble_eq_true rfl) (Nat.le_of_ble_eq_true rfl) ⟨Nat.le_refl _, Nat.le_refl _⟩ dX12_hasIn_4 (fun r2 w3 h => ?_)
  refine g_if_ne (pc := 7) C dX12_hasIn_7 (tgt := 14) rfl (fun z4 => ?_) (fun z4 => ?_)
  · replace h := h.2 z4
    refine g_iload_n (pc := 14) C dX12_hasIn_14 (q := 2) rfl ?_
    refine g_if_ge (pc := 15) C dX12_hasIn_15 (tgt := 22) rfl (fun z5 => ?_) (fun z5 => ?_)
    · replace h := h.1 z5
      refine g_iconst (pc := 22) C dX12_hasIn_22 (v := 0) rfl ?_
      obtain ⟨k6, h⟩ := h
      refine pfX12_58 (pc := 23) C k6 dX12_hasIn_23 ?_
      refine g_aload_n (pc := 26) C dX12_hasIn_26 (q := 0) rfl ?_
      refine gfX12_58 (pc := 27) (w := uI w3 a0 4 0) C k6 dX12_hasIn_27 ?_
      refine g_if_le (pc := 30) C dX12_hasIn_30 (tgt := 35) rfl (fun z7 => ?_) (fun z7 => ?_)
      · replace h := h.1 z7
        refine g_aload_n (pc := 35) C dX12_hasIn_35 (q := 0) rfl ?_
        refine miX12_375 (pc := 36) (w := uI w3 a0 4 0) C k6 h (Nat.le_of_ble_eq_true rfl) (Nat.le_of_ble_eq_true rfl) ⟨Nat.le_refl _, Nat.le_refl _⟩ dX12_hasIn_36 (fun w8 h => ?_)
        refine g_iconst (pc := 39) C dX12_hasIn_39 (v := 0) rfl ?_
        refine g_istore_n (pc := 40) C dX12_hasIn_40 (Nat.le_of_ble_eq_true rfl) (lo' := [(3, .int 0), (0, .ref (adr x a0)), (1, .int a1), (2, .int a2)]) rfl ?_
        obtain ⟨n20, h⟩ := h
        refine g_sub [1, 2, 3, 0] rfl ?_
        refine t_X12_hasIn_41 C hlk hr n20 _ _ _ _ _ h
      · replace h := h.2 z7
        refine g_iconst (pc := 33) C dX12_hasIn_33 (v := 0) rfl ?_
        exact g_iret (pc := 34) C hlk hr (Nat.le_refl _) (Nat.le_refl _) dX12_hasIn_34 h
    · replace h := h.2 z5
      refine g_iconst (pc := 18) C dX12_hasIn_18 (v := 2) rfl ?_
      refine g_goto (pc := 19) C dX12_hasIn_19 (tgt := 23) rfl ?_
      obtain ⟨k21, h⟩ := h
      refine pfX12_58 (pc := 23) C k21 dX12_hasIn_23 ?_
      refine g_aload_n (pc := 26) C dX12_hasIn_26 (q := 0) rfl ?_
      refine gfX12_58 (pc := 27) (w := uI w3 a0 4 2) C k21 dX12_hasIn_27 ?_
      refine g_if_le (pc := 30) C dX12_hasIn_30 (tgt := 35) rfl (fun z22 => ?_) (fun z22 => ?_)
      · replace h := h.1 z22
        refine g_aload_n (pc := 35) C dX12_hasIn_35 (q := 0) rfl ?_
        refine miX12_375 (pc := 36) (w := uI w3 a0 4 2) C k21 h (Nat.le_of_ble_eq_true rfl) (Nat.le_of_ble_eq_true rfl) ⟨Nat.le_refl _, Nat.le_refl _⟩ dX12_hasIn_36 (fun w23 h => ?_)
        refine g_iconst (pc := 39) C dX12_hasIn_39 (v := 0) rfl ?_
        refine g_istore_n (pc := 40) C dX12_hasIn_40 (Nat.le_of_ble_eq_true rfl) (lo' := [(3, .int 0), (0, .ref (adr x a0)), (1, .int a1), (2, .int a2)]) rfl ?_
        obtain ⟨n24, h⟩ := h
        refine g_sub [1, 2, 3, 0] rfl ?_
        refine t_X12_hasIn_41 C hlk hr n24 _ _ _ _ _ h
      · replace h := h.2 z22
        refine g_iconst (pc := 33) C dX12_hasIn_33 (v := 0) rfl ?_
        exact g_iret (pc := 34) C hlk hr (Nat.le_refl _) (Nat.le_refl _) dX12_hasIn_34 h
  · replace h := h.1 z4
    refine g_iconst (pc := 10) C dX12_hasIn_10 (v := 1) rfl ?_
    refine g_goto (pc := 11) C dX12_hasIn_11 (tgt := 23) rfl ?_
    obtain ⟨k25, h⟩ := h
    refine pfX12_58 (pc := 23) C k25 dX12_hasIn_23 ?_
    refine g_aload_n (pc := 26) C dX12_hasIn_26 (q := 0) rfl ?_
    refine gfX12_58 (pc := 27) (w := uI w3 a0 4 1) C k25 dX12_hasIn_27 ?_
    refine g_if_le (pc := 30) C dX12_hasIn_30 (tgt := 35) rfl (fun z26 => ?_) (fun z26 => ?_)
    · replace h := h.1 z26
      refine g_aload_n (pc := 35) C dX12_hasIn_35 (q := 0) rfl ?_
      refine miX12_375 (pc := 36) (w := uI w3 a0 4 1) C k25 h (Nat.le_of_ble_eq_true rfl) (Nat.le_of_ble_eq_true rfl) ⟨Nat.le_refl _, Nat.le_refl _⟩ dX12_hasIn_36 (fun w27 h => ?_)
      refine g_iconst (pc := 39) C dX12_hasIn_39 (v := 0) rfl ?_
      refine g_istore_n (pc := 40) C dX12_hasIn_40 (Nat.le_of_ble_eq_true rfl) (lo' := [(3, .int 0), (0, .ref (adr x a0)), (1, .int a1), (2, .int a2)]) rfl ?_
      obtain ⟨n28, h⟩ := h
      refine g_sub [1, 2, 3, 0] rfl ?_
      refine t_X12_hasIn_41 C hlk hr n28 _ _ _ _ _ h
    · replace h := h.2 z26
      refine g_iconst (pc := 33) C dX12_hasIn_33 (v := 0) rfl ?_
      exact g_iret (pc := 34) C hlk hr (Nat.le_refl _) (Nat.le_refl _) dX12_hasIn_34 h
def j_X12_number_36  (K : Int32 → Wd → Prop) (a0 : Nat) (a1 : Int32) (w : Wd) : Prop :=
  isK w a0 12 ∧ (((wI w a0 12) = 0 → w_X12_readsOn a0 (fun w9 => isK w9 a0 12 ∧ (((wI w9 a0 12) = 0 → K (wI w a0 11) w9) ∧ (¬ (wI w9 a0 12) = 0 → K a1 w9))) w) ∧ (¬ (wI w a0 12) = 0 → (((wI w a0 12) = 0 → K (wI w a0 11) w) ∧ (¬ (wI w a0 12) = 0 → K a1 w))))
def w_X12_number (a0 : Nat) (a1 : Int32) (a2 : Int32) (K : Int32 → Wd → Prop) (w : Wd) : Prop :=
  isK w a0 12 ∧ (((wI w a0 10) = 2 → w_X12_within ((wI w a0 11).toInt64) a1.toInt64 a2.toInt64 (fun r3 w4 => ((r3 = 0 → isK w4 a0 12 ∧ w_X12_blames a0 3 (fun w13 => j_X12_number_36 K a0 a1 w13) w4) ∧ (¬ r3 = 0 → j_X12_number_36 K a0 a1 w4))) w) ∧ (¬ (wI w a0 10) = 2 → w_X12_blames a0 2 (fun w14 => j_X12_number_36 K a0 a1 w14) w))
theorem t_X12_number_36 (C : xC x p s m c cX12_number 4 args RX12) (hlk : meth.locks = false) (hr : meth.sig.returnType = some .int) {K : Int32 → Wd → Prop}   (a0 : Nat) (a1 : Int32) (w : Wd) (h : j_X12_number_36 K a0 a1 w) : GW x p l e (rmd 2 0 0) s m args below meth c 4 (QI x K below args s 0 0) 36 [(0, .ref (adr x a0)), (1, .int a1)] [] w 0 0 := by
  refine g_aload_n (pc := 36) C dX12_number_36 (q := 0) rfl ?_
  obtain ⟨k6, h⟩ := h
  refine gfX12_87 (pc := 37) C k6 dX12_number_37 ?_
  refine g_istore_n (pc := 40) C dX12_number_40 (Nat.le_of_ble_eq_true rfl) (lo' := [(3, .int (wI w a0 11)), (0, .ref (adr x a0)), (1, .int a1)]) rfl ?_
  refine g_aload_n (pc := 41) C dX12_number_41 (q := 1) rfl ?_
  refine gfX12_93 (pc := 42) C k6 dX12_number_42 ?_
  refine g_if_ne (pc := 45) C dX12_number_45 (tgt := 52) rfl (fun z7 => ?_) (fun z7 => ?_)
  · replace h := h.2 z7
    refine g_aload_n (pc := 52) C dX12_number_52 (q := 1) rfl ?_
    refine gfX12_93 (pc := 53) C k6 dX12_number_53 ?_
    refine g_if_ne (pc := 56) C dX12_number_56 (tgt := 63) rfl (fun z8 => ?_) (fun z8 => ?_)
    · replace h := h.2 z8
      refine g_iload_n (pc := 63) C dX12_number_63 (q := 2) rfl ?_
      exact g_iret (pc := 64) C hlk hr (Nat.le_refl _) (Nat.le_refl _) dX12_number_64 h
    · replace h := h.1 z8
      refine g_iload_n (pc := 59) C dX12_number_59 (q := 0) rfl ?_
      refine g_goto (pc := 60) C dX12_number_60 (tgt := 64) rfl ?_
      exact g_iret (pc := 64) C hlk hr (Nat.le_refl _) (Nat.le_refl _) dX12_number_64 h
  · replace h := h.1 z7
    refine g_aload_n (pc := 48) C dX12_number_48 (q := 1) rfl ?_
    refine miX12_112 (pc := 49) C k6 h (Nat.le_of_ble_eq_true rfl) (Nat.le_of_ble_eq_true rfl) ⟨Nat.le_refl _, Nat.le_refl _⟩ dX12_number_49 (fun w9 h => ?_)
    refine g_aload_n (pc := 52) C dX12_number_52 (q := 1) rfl ?_
    obtain ⟨k10, h⟩ := h
    refine gfX12_93 (pc := 53) C k10 dX12_number_53 ?_
    refine g_if_ne (pc := 56) C dX12_number_56 (tgt := 63) rfl (fun z11 => ?_) (fun z11 => ?_)
    · replace h := h.2 z11
      refine g_iload_n (pc := 63) C dX12_number_63 (q := 2) rfl ?_
      exact g_iret (pc := 64) C hlk hr (Nat.le_refl _) (Nat.le_refl _) dX12_number_64 h
    · replace h := h.1 z11
      refine g_iload_n (pc := 59) C dX12_number_59 (q := 0) rfl ?_
      refine g_goto (pc := 60) C dX12_number_60 (tgt := 64) rfl ?_
      exact g_iret (pc := 64) C hlk hr (Nat.le_refl _) (Nat.le_refl _) dX12_number_64 h
theorem c_X12_number {x : xG} {l : Launch} {a0 : Nat} {a1 : Int32} {a2 : Int32} {K : Int32 → Wd → Prop} {w : Wd} (h : w_X12_number a0 a1 a2 K w) : Met l yX12_number (xws yX12_number cX12_number 4 (some .int)) (rmd 2 0 0) (xPc x [.ref (adr x a0), .int a1, .int a2] w) (QcI x K) 0 0 (xA x) := by
  refine xMet (by decide) (Nat.le_of_ble_eq_true rfl) (fun p e s m below meth c C hlk hr _ => ?_)
  show GW x p l e (rmd 2 0 0) s m [.ref (adr x a0), .int a1, .int a2].toArray below meth c 4 (QI x K below [.ref (adr x a0), .int a1, .int a2].toArray s 0 0) 0 [(0, .ref (adr x a0)), (1, .int a1), (2, .int a2)] [] w 0 0
  refine g_aload_n (pc := 0) C dX12_number_0 (q := 0) rfl ?_
  obtain ⟨k1, h⟩ := h
  refine gfX12_73 (pc := 1) C k1 dX12_number_1 ?_
  refine g_iconst (pc := 4) C dX12_number_4 (v := 2) rfl ?_
  refine g_icmp_eq (pc := 5) C dX12_number_5 (tgt := 16) rfl (fun z2 => ?_) (fun z2 => ?_)
  · replace h := h.1 z2
    refine g_aload_n (pc := 16) C dX12_number_16 (q := 0) rfl ?_
    refine gfX12_87 (pc := 17) C k1 dX12_number_17 ?_
    refine g_i2l (pc := 20) C dX12_number_20 ?_
    refine g_iload_n (pc := 21) C dX12_number_21 (q := 1) rfl ?_
    refine g_i2l (pc := 22) C dX12_number_22 ?_
    refine g_iload_n (pc := 23) C dX12_number_23 (q := 2) rfl ?_
    refine g_i2l (pc := 24) C dX12_number_24 ?_
    refine miX12_119 (pc := 25) C h (Nat.le_of_ble_eq_true rfl) (Nat.le_of_ble_eq_true rfl) ⟨Nat.le_refl _, Nat.le_refl _⟩ dX12_number_25 (fun r3 w4 h => ?_)
    refine g_if_ne (pc := 28) C dX12_number_28 (tgt := 36) rfl (fun z5 => ?_) (fun z5 => ?_)
    · replace h := h.2 z5
      refine g_sub [0, 1] rfl ?_
      exact t_X12_number_36 C hlk hr  _ _ _ h
    · replace h := h.1 z5
      refine g_aload_n (pc := 31) C dX12_number_31 (q := 0) rfl ?_
      refine g_iconst (pc := 32) C dX12_number_32 (v := 3) rfl ?_
      obtain ⟨k12, h⟩ := h
      refine miX12_115 (pc := 33) C k12 h (Nat.le_of_ble_eq_true rfl) (Nat.le_of_ble_eq_true rfl) ⟨Nat.le_refl _, Nat.le_refl _⟩ dX12_number_33 (fun w13 h => ?_)
      refine g_sub [0, 1] rfl ?_
      exact t_X12_number_36 C hlk hr  _ _ _ h
  · replace h := h.2 z2
    refine g_aload_n (pc := 8) C dX12_number_8 (q := 0) rfl ?_
    refine g_iconst (pc := 9) C dX12_number_9 (v := 2) rfl ?_
    refine miX12_115 (pc := 10) C k1 h (Nat.le_of_ble_eq_true rfl) (Nat.le_of_ble_eq_true rfl) ⟨Nat.le_refl _, Nat.le_refl _⟩ dX12_number_10 (fun w14 h => ?_)
    refine g_goto (pc := 13) C dX12_number_13 (tgt := 36) rfl ?_
    refine g_sub [0, 1] rfl ?_
    exact t_X12_number_36 C hlk hr  _ _ _ h
theorem miX12_184 (C : xC x p s m c cc nL args RX12) {a0 : Nat} {a1 : Int32} {a2 : Int32} {K : Int32 → Wd → Prop} {D MC MS : Nat} (hq : isK w a0 12) (h : w_X12_number a0 a1 a2 K w) (hD : 2 + 1 ≤ D) (hW : (st.map fun v => v.category).sum ≤ 8) (hij : i ≤ MC ∧ j ≤ MS) (hd : decode cc pc = .ok (.invokevirtual 184, 3)) (k : ∀ (r : Int32) (u : Wd), K r u → GW x p l e (rmd D MC MS) s m args below meth c nL Q (pc + 3) lo (.int r :: st) u i j) : GW x p l e (rmd D MC MS) s m args below meth c nL Q pc lo (.int a2 :: .int a1 :: .ref (adr x a0) :: st) w i j := g_callVi0 C (As := [.int a1, .int a2]) (ci := 12) (c_X12_number h) (x_cwV C 2 LMX12_184 ⟨rfl, by decide, by decide, rfl⟩ hD (by decide)) rfl hq (by decide) rfl rfl hW hd hij k
def w_X12_wellTold (a0 : Nat) (K : Int32 → Wd → Prop) (w : Wd) : Prop :=
  isK w a0 12 ∧ isK w (wR w a0 1) 20 ∧ vp_in 1 (wn w (wR w a0 1)) ∧ w_X12_number a0 0 ((wI w (wR w a0 1) (1 : Int32).toNatClampNeg) - 1) (fun r4 w5 => K r4 w5) w
theorem c_X12_wellTold {x : xG} {l : Launch} {a0 : Nat} {K : Int32 → Wd → Prop} {w : Wd} (h : w_X12_wellTold a0 K w) : Met l yX12_wellTold (xws yX12_wellTold cX12_wellTold 1 (some .int)) (rmd 3 0 0) (xPc x [.ref (adr x a0)] w) (QcI x K) 0 0 (xA x) := by
  refine xMet (by decide) (Nat.le_of_ble_eq_true rfl) (fun p e s m below meth c C hlk hr _ => ?_)
  show GW x p l e (rmd 3 0 0) s m [.ref (adr x a0)].toArray below meth c 1 (QI x K below [.ref (adr x a0)].toArray s 0 0) 0 [(0, .ref (adr x a0))] [] w 0 0
  refine g_aload_n (pc := 0) C dX12_wellTold_0 (q := 0) rfl ?_
  refine g_iconst (pc := 1) C dX12_wellTold_1 (v := 0) rfl ?_
  refine g_aload_n (pc := 2) C dX12_wellTold_2 (q := 0) rfl ?_
  obtain ⟨k1, h⟩ := h
  obtain ⟨k2, h⟩ := h
  refine gfX12_13 (pc := 3) C k1 (isK_ne k2) dX12_wellTold_3 ?_
  refine g_iconst (pc := 6) C dX12_wellTold_6 (v := 1) rfl ?_
  obtain ⟨k3, h⟩ := h
  refine g_iald (pc := 7) C k2 k3 dX12_wellTold_7 ?_
  refine g_iconst (pc := 8) C dX12_wellTold_8 (v := 1) rfl ?_
  refine g_isub (pc := 9) C dX12_wellTold_9 ?_
  refine miX12_184 (pc := 10) C k1 h (Nat.le_of_ble_eq_true rfl) (Nat.le_of_ble_eq_true rfl) ⟨Nat.le_refl _, Nat.le_refl _⟩ dX12_wellTold_10 (fun r4 w5 h => ?_)
  exact g_iret (pc := 13) C hlk hr (Nat.le_refl _) (Nat.le_refl _) dX12_wellTold_13 h
theorem miX12_205 (C : xC x p s m c cc nL args RX12) {a0 : Nat} {K : Int32 → Wd → Prop} {D MC MS : Nat} (hq : isK w a0 12) (h : w_X12_wellTold a0 K w) (hD : 3 + 1 ≤ D) (hW : (st.map fun v => v.category).sum ≤ 8) (hij : i ≤ MC ∧ j ≤ MS) (hd : decode cc pc = .ok (.invokevirtual 205, 3)) (k : ∀ (r : Int32) (u : Wd), K r u → GW x p l e (rmd D MC MS) s m args below meth c nL Q (pc + 3) lo (.int r :: st) u i j) : GW x p l e (rmd D MC MS) s m args below meth c nL Q pc lo (.ref (adr x a0) :: st) w i j := g_callVi0 C (As := []) (ci := 12) (c_X12_wellTold h) (x_cwV C 0 LMX12_205 ⟨rfl, by decide, by decide, rfl⟩ hD (by decide)) rfl hq (by decide) rfl rfl hW hd hij k
def j_X12_readBeside_33  (K : Wd → Prop) (a0 : Nat) (a1 : Int32) (w : Wd) : Prop :=
  isK w a0 12 ∧ w_X12_wellTold a0 (fun r7 w8 => isK w8 a0 12 ∧ (((wI w8 a0 12) = 0 → isK w8 (wR w8 a0 1) 20 ∧ vp_in (57 + a1) (wn w8 (wR w8 a0 1)) ∧ vp_in (57 + a1) (wn w8 (wR w8 a0 1)) ∧ vp_in (57 + r7) (wn w8 (wR w8 a0 1)) ∧ vp_in (57 + r7) (wn w8 (wR w8 a0 1)) ∧ K (uI (uI w8 (wR w8 a0 1) (57 + a1).toNatClampNeg ((wI w8 (wR w8 a0 1) (57 + a1).toNatClampNeg) ||| (x_ishl 1 r7))) (wR w8 a0 1) (57 + r7).toNatClampNeg ((wI (uI w8 (wR w8 a0 1) (57 + a1).toNatClampNeg ((wI w8 (wR w8 a0 1) (57 + a1).toNatClampNeg) ||| (x_ishl 1 r7))) (wR w8 a0 1) (57 + r7).toNatClampNeg) ||| (x_ishl 1 a1)))) ∧ (¬ (wI w8 a0 12) = 0 → K w8))) w
def w_X12_readBeside (a0 : Nat) (K : Wd → Prop) (w : Wd) : Prop :=
  isK w a0 12 ∧ w_X12_wellTold a0 (fun r2 w3 => isK w3 a0 12 ∧ (((wI w3 a0 12) = 0 → (((wI w3 a0 10) = 2 → (((wI w3 a0 11) = r2 → w_X12_blames a0 3 (fun w18 => j_X12_readBeside_33 K a0 r2 w18) w3) ∧ (¬ (wI w3 a0 11) = r2 → j_X12_readBeside_33 K a0 r2 w3))) ∧ (¬ (wI w3 a0 10) = 2 → j_X12_readBeside_33 K a0 r2 w3))) ∧ (¬ (wI w3 a0 12) = 0 → j_X12_readBeside_33 K a0 r2 w3))) w
theorem t_X12_readBeside_33 (C : xC x p s m c cX12_readBeside 3 args RX12) (hlk : meth.locks = false) (hr : meth.sig.returnType = none) {K : Wd → Prop}   (a0 : Nat) (a1 : Int32) (w : Wd) (h : j_X12_readBeside_33 K a0 a1 w) : GW x p l e (rmd 4 0 0) s m args below meth c 3 (QV x K below args s 0 0) 33 [(0, .ref (adr x a0)), (1, .int a1)] [] w 0 0 := by
  refine g_aload_n (pc := 33) C dX12_readBeside_33 (q := 0) rfl ?_
  obtain ⟨k6, h⟩ := h
  refine miX12_205 (pc := 34) C k6 h (Nat.le_of_ble_eq_true rfl) (Nat.le_of_ble_eq_true rfl) ⟨Nat.le_refl _, Nat.le_refl _⟩ dX12_readBeside_34 (fun r7 w8 h => ?_)
  refine g_istore_n (pc := 37) C dX12_readBeside_37 (Nat.le_of_ble_eq_true rfl) (lo' := [(2, .int r7), (0, .ref (adr x a0)), (1, .int a1)]) rfl ?_
  refine g_aload_n (pc := 38) C dX12_readBeside_38 (q := 1) rfl ?_
  obtain ⟨k9, h⟩ := h
  refine gfX12_93 (pc := 39) C k9 dX12_readBeside_39 ?_
  refine g_if_eq (pc := 42) C dX12_readBeside_42 (tgt := 46) rfl (fun z10 => ?_) (fun z10 => ?_)
  · replace h := h.1 z10
    refine g_aload_n (pc := 46) C dX12_readBeside_46 (q := 1) rfl ?_
    obtain ⟨k11, h⟩ := h
    refine gfX12_13 (pc := 47) C k9 (isK_ne k11) dX12_readBeside_47 ?_
    refine g_bipush (pc := 50) C dX12_readBeside_50 (v := 57) rfl ?_
    refine g_iload_n (pc := 52) C dX12_readBeside_52 (q := 2) rfl ?_
    refine g_iadd (pc := 53) C dX12_readBeside_53 ?_
    refine g_dup2 (pc := 54) C dX12_readBeside_54 rfl rfl ?_
    obtain ⟨k12, h⟩ := h
    refine g_iald (pc := 55) C k11 k12 dX12_readBeside_55 ?_
    refine g_iconst (pc := 56) C dX12_readBeside_56 (v := 1) rfl ?_
    refine g_iload_n (pc := 57) C dX12_readBeside_57 (q := 0) rfl ?_
    refine h_ishl (pc := 58) C dX12_readBeside_58 ?_
    refine g_ior (pc := 59) C dX12_readBeside_59 ?_
    obtain ⟨k13, h⟩ := h
    refine g_iast (pc := 60) C k11 k13 dX12_readBeside_60 ?_
    refine g_aload_n (pc := 61) C dX12_readBeside_61 (q := 1) rfl ?_
    refine gfX12_13 (pc := 62) (w := uI w8 (wR w8 a0 1) (57 + a1).toNatClampNeg ((wI w8 (wR w8 a0 1) (57 + a1).toNatClampNeg) ||| (x_ishl 1 r7))) C k9 (isK_ne k11) dX12_readBeside_62 ?_
    refine g_bipush (pc := 65) C dX12_readBeside_65 (v := 57) rfl ?_
    refine g_iload_n (pc := 67) C dX12_readBeside_67 (q := 0) rfl ?_
    refine g_iadd (pc := 68) C dX12_readBeside_68 ?_
    refine g_dup2 (pc := 69) C dX12_readBeside_69 rfl rfl ?_
    obtain ⟨k14, h⟩ := h
    refine g_iald (pc := 70) (w := uI w8 (wR w8 a0 1) (57 + a1).toNatClampNeg ((wI w8 (wR w8 a0 1) (57 + a1).toNatClampNeg) ||| (x_ishl 1 r7))) C k11 k14 dX12_readBeside_70 ?_
    refine g_iconst (pc := 71) C dX12_readBeside_71 (v := 1) rfl ?_
    refine g_iload_n (pc := 72) C dX12_readBeside_72 (q := 2) rfl ?_
    refine h_ishl (pc := 73) C dX12_readBeside_73 ?_
    refine g_ior (pc := 74) C dX12_readBeside_74 ?_
    obtain ⟨k15, h⟩ := h
    refine g_iast (pc := 75) (w := uI w8 (wR w8 a0 1) (57 + a1).toNatClampNeg ((wI w8 (wR w8 a0 1) (57 + a1).toNatClampNeg) ||| (x_ishl 1 r7))) C k11 k15 dX12_readBeside_75 ?_
    exact g_vret (pc := 76) C hlk hr (Nat.le_refl _) (Nat.le_refl _) dX12_readBeside_76 h
  · replace h := h.2 z10
    exact g_vret (pc := 45) C hlk hr (Nat.le_refl _) (Nat.le_refl _) dX12_readBeside_45 h
theorem c_X12_readBeside {x : xG} {l : Launch} {a0 : Nat} {K : Wd → Prop} {w : Wd} (h : w_X12_readBeside a0 K w) : Met l yX12_readBeside (xws yX12_readBeside cX12_readBeside 3 none) (rmd 4 0 0) (xPc x [.ref (adr x a0)] w) (QcV x K) 0 0 (xA x) := by
  refine xMet (by decide) (Nat.le_of_ble_eq_true rfl) (fun p e s m below meth c C hlk hr _ => ?_)
  show GW x p l e (rmd 4 0 0) s m [.ref (adr x a0)].toArray below meth c 3 (QV x K below [.ref (adr x a0)].toArray s 0 0) 0 [(0, .ref (adr x a0))] [] w 0 0
  refine g_aload_n (pc := 0) C dX12_readBeside_0 (q := 0) rfl ?_
  obtain ⟨k1, h⟩ := h
  refine miX12_205 (pc := 1) C k1 h (Nat.le_of_ble_eq_true rfl) (Nat.le_of_ble_eq_true rfl) ⟨Nat.le_refl _, Nat.le_refl _⟩ dX12_readBeside_1 (fun r2 w3 h => ?_)
  refine g_istore_n (pc := 4) C dX12_readBeside_4 (Nat.le_of_ble_eq_true rfl) (lo' := [(1, .int r2), (0, .ref (adr x a0))]) rfl ?_
  refine g_aload_n (pc := 5) C dX12_readBeside_5 (q := 1) rfl ?_
  obtain ⟨k4, h⟩ := h
  refine gfX12_93 (pc := 6) C k4 dX12_readBeside_6 ?_
  refine g_if_ne (pc := 9) C dX12_readBeside_9 (tgt := 33) rfl (fun z5 => ?_) (fun z5 => ?_)
  · replace h := h.2 z5
    refine g_sub [1, 0] rfl ?_
    exact t_X12_readBeside_33 C hlk hr  _ _ _ h
  · replace h := h.1 z5
    refine g_aload_n (pc := 12) C dX12_readBeside_12 (q := 1) rfl ?_
    refine gfX12_73 (pc := 13) C k4 dX12_readBeside_13 ?_
    refine g_iconst (pc := 16) C dX12_readBeside_16 (v := 2) rfl ?_
    refine g_icmp_ne (pc := 17) C dX12_readBeside_17 (tgt := 33) rfl (fun z16 => ?_) (fun z16 => ?_)
    · replace h := h.2 z16
      refine g_sub [1, 0] rfl ?_
      exact t_X12_readBeside_33 C hlk hr  _ _ _ h
    · replace h := h.1 z16
      refine g_aload_n (pc := 20) C dX12_readBeside_20 (q := 1) rfl ?_
      refine gfX12_87 (pc := 21) C k4 dX12_readBeside_21 ?_
      refine g_iload_n (pc := 24) C dX12_readBeside_24 (q := 0) rfl ?_
      refine g_icmp_ne (pc := 25) C dX12_readBeside_25 (tgt := 33) rfl (fun z17 => ?_) (fun z17 => ?_)
      · replace h := h.2 z17
        refine g_sub [1, 0] rfl ?_
        exact t_X12_readBeside_33 C hlk hr  _ _ _ h
      · replace h := h.1 z17
        refine g_aload_n (pc := 28) C dX12_readBeside_28 (q := 1) rfl ?_
        refine g_iconst (pc := 29) C dX12_readBeside_29 (v := 3) rfl ?_
        refine miX12_115 (pc := 30) C k4 h (Nat.le_of_ble_eq_true rfl) (Nat.le_of_ble_eq_true rfl) ⟨Nat.le_refl _, Nat.le_refl _⟩ dX12_readBeside_30 (fun w18 h => ?_)
        refine g_sub [1, 0] rfl ?_
        exact t_X12_readBeside_33 C hlk hr  _ _ _ h
def w_X12_mustSign (a0 : Nat) (a1 : Int32) (K : Wd → Prop) (w : Wd) : Prop :=
  isK w a0 12 ∧ (((wI w a0 10) = a1 → (((wI w a0 12) = 0 → w_X12_readsOn a0 (fun w4 => K w4) w) ∧ (¬ (wI w a0 12) = 0 → K w))) ∧ (¬ (wI w a0 10) = a1 → w_X12_blames a0 2 (fun w5 => isK w5 a0 12 ∧ (((wI w5 a0 12) = 0 → w_X12_readsOn a0 (fun w8 => K w8) w5) ∧ (¬ (wI w5 a0 12) = 0 → K w5))) w))
theorem c_X12_mustSign {x : xG} {l : Launch} {a0 : Nat} {a1 : Int32} {K : Wd → Prop} {w : Wd} (h : w_X12_mustSign a0 a1 K w) : Met l yX12_mustSign (xws yX12_mustSign cX12_mustSign 2 none) (rmd 2 0 0) (xPc x [.ref (adr x a0), .int a1] w) (QcV x K) 0 0 (xA x) := by
  refine xMet (by decide) (Nat.le_of_ble_eq_true rfl) (fun p e s m below meth c C hlk hr _ => ?_)
  show GW x p l e (rmd 2 0 0) s m [.ref (adr x a0), .int a1].toArray below meth c 2 (QV x K below [.ref (adr x a0), .int a1].toArray s 0 0) 0 [(0, .ref (adr x a0)), (1, .int a1)] [] w 0 0
  refine g_aload_n (pc := 0) C dX12_mustSign_0 (q := 0) rfl ?_
  obtain ⟨k1, h⟩ := h
  refine gfX12_73 (pc := 1) C k1 dX12_mustSign_1 ?_
  refine g_iload_n (pc := 4) C dX12_mustSign_4 (q := 1) rfl ?_
  refine g_icmp_eq (pc := 5) C dX12_mustSign_5 (tgt := 13) rfl (fun z2 => ?_) (fun z2 => ?_)
  · replace h := h.1 z2
    refine g_aload_n (pc := 13) C dX12_mustSign_13 (q := 0) rfl ?_
    refine gfX12_93 (pc := 14) C k1 dX12_mustSign_14 ?_
    refine g_if_ne (pc := 17) C dX12_mustSign_17 (tgt := 24) rfl (fun z3 => ?_) (fun z3 => ?_)
    · replace h := h.2 z3
      exact g_vret (pc := 24) C hlk hr (Nat.le_refl _) (Nat.le_refl _) dX12_mustSign_24 h
    · replace h := h.1 z3
      refine g_aload_n (pc := 20) C dX12_mustSign_20 (q := 0) rfl ?_
      refine miX12_112 (pc := 21) C k1 h (Nat.le_of_ble_eq_true rfl) (Nat.le_of_ble_eq_true rfl) ⟨Nat.le_refl _, Nat.le_refl _⟩ dX12_mustSign_21 (fun w4 h => ?_)
      exact g_vret (pc := 24) C hlk hr (Nat.le_refl _) (Nat.le_refl _) dX12_mustSign_24 h
  · replace h := h.2 z2
    refine g_aload_n (pc := 8) C dX12_mustSign_8 (q := 0) rfl ?_
    refine g_iconst (pc := 9) C dX12_mustSign_9 (v := 2) rfl ?_
    refine miX12_115 (pc := 10) C k1 h (Nat.le_of_ble_eq_true rfl) (Nat.le_of_ble_eq_true rfl) ⟨Nat.le_refl _, Nat.le_refl _⟩ dX12_mustSign_10 (fun w5 h => ?_)
    refine g_aload_n (pc := 13) C dX12_mustSign_13 (q := 0) rfl ?_
    obtain ⟨k6, h⟩ := h
    refine gfX12_93 (pc := 14) C k6 dX12_mustSign_14 ?_
    refine g_if_ne (pc := 17) C dX12_mustSign_17 (tgt := 24) rfl (fun z7 => ?_) (fun z7 => ?_)
    · replace h := h.2 z7
      exact g_vret (pc := 24) C hlk hr (Nat.le_refl _) (Nat.le_refl _) dX12_mustSign_24 h
    · replace h := h.1 z7
      refine g_aload_n (pc := 20) C dX12_mustSign_20 (q := 0) rfl ?_
      refine miX12_112 (pc := 21) C k6 h (Nat.le_of_ble_eq_true rfl) (Nat.le_of_ble_eq_true rfl) ⟨Nat.le_refl _, Nat.le_refl _⟩ dX12_mustSign_21 (fun w8 h => ?_)
      exact g_vret (pc := 24) C hlk hr (Nat.le_refl _) (Nat.le_refl _) dX12_mustSign_24 h
theorem miX12_153 (C : xC x p s m c cc nL args RX12) {a0 : Nat} {a1 : Int32} {K : Wd → Prop} {D MC MS : Nat} (hq : isK w a0 12) (h : w_X12_mustSign a0 a1 K w) (hD : 2 + 1 ≤ D) (hW : (st.map fun v => v.category).sum ≤ 8) (hij : i ≤ MC ∧ j ≤ MS) (hd : decode cc pc = .ok (.invokevirtual 153, 3)) (k : ∀ (u : Wd), K u → GW x p l e (rmd D MC MS) s m args below meth c nL Q (pc + 3) lo st u i j) : GW x p l e (rmd D MC MS) s m args below meth c nL Q pc lo (.int a1 :: .ref (adr x a0) :: st) w i j := g_callVv0 C (As := [.int a1]) (ci := 12) (c_X12_mustSign h) (x_cwV C 1 LMX12_153 ⟨rfl, by decide, by decide, rfl⟩ hD (by decide)) rfl hq (by decide) rfl rfl hW hd hij k
def w_X12_readStop (a0 : Nat) (K : Wd → Prop) (w : Wd) : Prop :=
  isK w a0 12 ∧ w_X12_mustSign a0 59 (fun w2 => isK w2 a0 12 ∧ (((wI w2 a0 12) = 0 → isK w2 (wR w2 a0 1) 20 ∧ vp_in 0 (wn w2 (wR w2 a0 1)) ∧ vp_in 0 (wn w2 (wR w2 a0 1)) ∧ K (uI w2 (wR w2 a0 1) (0 : Int32).toNatClampNeg ((wI w2 (wR w2 a0 1) (0 : Int32).toNatClampNeg) + 1))) ∧ (¬ (wI w2 a0 12) = 0 → K w2))) w
theorem c_X12_readStop {x : xG} {l : Launch} {a0 : Nat} {K : Wd → Prop} {w : Wd} (h : w_X12_readStop a0 K w) : Met l yX12_readStop (xws yX12_readStop cX12_readStop 1 none) (rmd 3 0 0) (xPc x [.ref (adr x a0)] w) (QcV x K) 0 0 (xA x) := by
  refine xMet (by decide) (Nat.le_of_ble_eq_true rfl) (fun p e s m below meth c C hlk hr _ => ?_)
  show GW x p l e (rmd 3 0 0) s m [.ref (adr x a0)].toArray below meth c 1 (QV x K below [.ref (adr x a0)].toArray s 0 0) 0 [(0, .ref (adr x a0))] [] w 0 0
  refine g_aload_n (pc := 0) C dX12_readStop_0 (q := 0) rfl ?_
  refine g_bipush (pc := 1) C dX12_readStop_1 (v := 59) rfl ?_
  obtain ⟨k1, h⟩ := h
  refine miX12_153 (pc := 3) C k1 h (Nat.le_of_ble_eq_true rfl) (Nat.le_of_ble_eq_true rfl) ⟨Nat.le_refl _, Nat.le_refl _⟩ dX12_readStop_3 (fun w2 h => ?_)
  refine g_aload_n (pc := 6) C dX12_readStop_6 (q := 0) rfl ?_
  obtain ⟨k3, h⟩ := h
  refine gfX12_93 (pc := 7) C k3 dX12_readStop_7 ?_
  refine g_if_ne (pc := 10) C dX12_readStop_10 (tgt := 23) rfl (fun z4 => ?_) (fun z4 => ?_)
  · replace h := h.2 z4
    exact g_vret (pc := 23) C hlk hr (Nat.le_refl _) (Nat.le_refl _) dX12_readStop_23 h
  · replace h := h.1 z4
    refine g_aload_n (pc := 13) C dX12_readStop_13 (q := 0) rfl ?_
    obtain ⟨k5, h⟩ := h
    refine gfX12_13 (pc := 14) C k3 (isK_ne k5) dX12_readStop_14 ?_
    refine g_iconst (pc := 17) C dX12_readStop_17 (v := 0) rfl ?_
    refine g_dup2 (pc := 18) C dX12_readStop_18 rfl rfl ?_
    obtain ⟨k6, h⟩ := h
    refine g_iald (pc := 19) C k5 k6 dX12_readStop_19 ?_
    refine g_iconst (pc := 20) C dX12_readStop_20 (v := 1) rfl ?_
    refine g_iadd (pc := 21) C dX12_readStop_21 ?_
    obtain ⟨k7, h⟩ := h
    refine g_iast (pc := 22) C k5 k7 dX12_readStop_22 ?_
    exact g_vret (pc := 23) C hlk hr (Nat.le_refl _) (Nat.le_refl _) dX12_readStop_23 h
def w_X12_laysStep (a0 : Nat) (a1 : Int32) (K : Wd → Prop) (w : Wd) : Prop :=
  isK w a0 12 ∧ (((wI w a0 12) = 0 → isK w (wR w a0 1) 20 ∧ vp_in 3 (wn w (wR w a0 1)) ∧ vp_in (299 + (wI w (wR w a0 1) (3 : Int32).toNatClampNeg)) (wn w (wR w a0 1)) ∧ vp_in 3 (wn w (wR w a0 1)) ∧ vp_in 3 (wn w (wR w a0 1)) ∧ K (uI (uI w (wR w a0 1) (299 + (wI w (wR w a0 1) (3 : Int32).toNatClampNeg)).toNatClampNeg a1) (wR w a0 1) (3 : Int32).toNatClampNeg ((wI (uI w (wR w a0 1) (299 + (wI w (wR w a0 1) (3 : Int32).toNatClampNeg)).toNatClampNeg a1) (wR w a0 1) (3 : Int32).toNatClampNeg) + 1))) ∧ (¬ (wI w a0 12) = 0 → K w))
theorem c_X12_laysStep {x : xG} {l : Launch} {a0 : Nat} {a1 : Int32} {K : Wd → Prop} {w : Wd} (h : w_X12_laysStep a0 a1 K w) : Met l yX12_laysStep (xws yX12_laysStep cX12_laysStep 2 none) (rmd 0 0 0) (xPc x [.ref (adr x a0), .int a1] w) (QcV x K) 0 0 (xA x) := by
  refine xMet (by decide) (Nat.le_of_ble_eq_true rfl) (fun p e s m below meth c C hlk hr _ => ?_)
  show GW x p l e (rmd 0 0 0) s m [.ref (adr x a0), .int a1].toArray below meth c 2 (QV x K below [.ref (adr x a0), .int a1].toArray s 0 0) 0 [(0, .ref (adr x a0)), (1, .int a1)] [] w 0 0
  refine g_aload_n (pc := 0) C dX12_laysStep_0 (q := 0) rfl ?_
  obtain ⟨k1, h⟩ := h
  refine gfX12_93 (pc := 1) C k1 dX12_laysStep_1 ?_
  refine g_if_eq (pc := 4) C dX12_laysStep_4 (tgt := 8) rfl (fun z2 => ?_) (fun z2 => ?_)
  · replace h := h.1 z2
    refine g_aload_n (pc := 8) C dX12_laysStep_8 (q := 0) rfl ?_
    obtain ⟨k3, h⟩ := h
    refine gfX12_13 (pc := 9) C k1 (isK_ne k3) dX12_laysStep_9 ?_
    refine g_sipush (pc := 12) C dX12_laysStep_12 (v := 299) rfl ?_
    refine g_aload_n (pc := 15) C dX12_laysStep_15 (q := 0) rfl ?_
    refine gfX12_13 (pc := 16) C k1 (isK_ne k3) dX12_laysStep_16 ?_
    refine g_iconst (pc := 19) C dX12_laysStep_19 (v := 3) rfl ?_
    obtain ⟨k4, h⟩ := h
    refine g_iald (pc := 20) C k3 k4 dX12_laysStep_20 ?_
    refine g_iadd (pc := 21) C dX12_laysStep_21 ?_
    refine g_iload_n (pc := 22) C dX12_laysStep_22 (q := 1) rfl ?_
    obtain ⟨k5, h⟩ := h
    refine g_iast (pc := 23) C k3 k5 dX12_laysStep_23 ?_
    refine g_aload_n (pc := 24) C dX12_laysStep_24 (q := 0) rfl ?_
    refine gfX12_13 (pc := 25) (w := uI w (wR w a0 1) (299 + (wI w (wR w a0 1) (3 : Int32).toNatClampNeg)).toNatClampNeg a1) C k1 (isK_ne k3) dX12_laysStep_25 ?_
    refine g_iconst (pc := 28) C dX12_laysStep_28 (v := 3) rfl ?_
    refine g_dup2 (pc := 29) C dX12_laysStep_29 rfl rfl ?_
    obtain ⟨k6, h⟩ := h
    refine g_iald (pc := 30) (w := uI w (wR w a0 1) (299 + (wI w (wR w a0 1) (3 : Int32).toNatClampNeg)).toNatClampNeg a1) C k3 k6 dX12_laysStep_30 ?_
    refine g_iconst (pc := 31) C dX12_laysStep_31 (v := 1) rfl ?_
    refine g_iadd (pc := 32) C dX12_laysStep_32 ?_
    obtain ⟨k7, h⟩ := h
    refine g_iast (pc := 33) (w := uI w (wR w a0 1) (299 + (wI w (wR w a0 1) (3 : Int32).toNatClampNeg)).toNatClampNeg a1) C k3 k7 dX12_laysStep_33 ?_
    exact g_vret (pc := 34) C hlk hr (Nat.le_refl _) (Nat.le_refl _) dX12_laysStep_34 h
  · replace h := h.2 z2
    exact g_vret (pc := 7) C hlk hr (Nat.le_refl _) (Nat.le_refl _) dX12_laysStep_7 h
def w_X12_isSign (a0 : Nat) (a1 : Int32) (K : Int32 → Wd → Prop) (w : Wd) : Prop :=
  isK w a0 12 ∧ (((wI w a0 12) = 0 → (((wI w a0 10) = a1 → K 1 w) ∧ (¬ (wI w a0 10) = a1 → K 0 w))) ∧ (¬ (wI w a0 12) = 0 → K 0 w))
theorem c_X12_isSign {x : xG} {l : Launch} {a0 : Nat} {a1 : Int32} {K : Int32 → Wd → Prop} {w : Wd} (h : w_X12_isSign a0 a1 K w) : Met l yX12_isSign (xws yX12_isSign cX12_isSign 2 (some .boolean)) (rmd 0 0 0) (xPc x [.ref (adr x a0), .int a1] w) (QcI x K) 0 0 (xA x) := by
  refine xMet (by decide) (Nat.le_of_ble_eq_true rfl) (fun p e s m below meth c C hlk hr _ => ?_)
  show GW x p l e (rmd 0 0 0) s m [.ref (adr x a0), .int a1].toArray below meth c 2 (QI x K below [.ref (adr x a0), .int a1].toArray s 0 0) 0 [(0, .ref (adr x a0)), (1, .int a1)] [] w 0 0
  refine g_aload_n (pc := 0) C dX12_isSign_0 (q := 0) rfl ?_
  obtain ⟨k1, h⟩ := h
  refine gfX12_93 (pc := 1) C k1 dX12_isSign_1 ?_
  refine g_if_ne (pc := 4) C dX12_isSign_4 (tgt := 19) rfl (fun z2 => ?_) (fun z2 => ?_)
  · replace h := h.2 z2
    refine g_iconst (pc := 19) C dX12_isSign_19 (v := 0) rfl ?_
    exact g_zret (pc := 20) C hlk hr (Nat.le_refl _) (Nat.le_refl _) dX12_isSign_20 (Or.inl rfl) h
  · replace h := h.1 z2
    refine g_aload_n (pc := 7) C dX12_isSign_7 (q := 0) rfl ?_
    refine gfX12_73 (pc := 8) C k1 dX12_isSign_8 ?_
    refine g_iload_n (pc := 11) C dX12_isSign_11 (q := 1) rfl ?_
    refine g_icmp_ne (pc := 12) C dX12_isSign_12 (tgt := 19) rfl (fun z3 => ?_) (fun z3 => ?_)
    · replace h := h.2 z3
      refine g_iconst (pc := 19) C dX12_isSign_19 (v := 0) rfl ?_
      exact g_zret (pc := 20) C hlk hr (Nat.le_refl _) (Nat.le_refl _) dX12_isSign_20 (Or.inl rfl) h
    · replace h := h.1 z3
      refine g_iconst (pc := 15) C dX12_isSign_15 (v := 1) rfl ?_
      refine g_goto (pc := 16) C dX12_isSign_16 (tgt := 20) rfl ?_
      exact g_zret (pc := 20) C hlk hr (Nat.le_refl _) (Nat.le_refl _) dX12_isSign_20 (Or.inr rfl) h
def l_X12_hours_34  (K : Int32 → Wd → Prop) : Nat → Nat → Int32 → Int32 → Int32 → Wd → Prop
  | 0, _, _, _, _, _ => False
  | n + 1, a0, a1, a2, a3, w => ((a1 ≤ a3 → isK w a0 12 ∧ w_X12_waterAll a0 (fun r12 w13 => K (r12 - a2) w13) w) ∧ (¬ a1 ≤ a3 → isK w a0 12 ∧ w_X12_hour a0 (fun w15 => l_X12_hours_34 K n a0 a1 a2 (a3 + 1) w15) w))
def w_X12_hours (a0 : Nat) (a1 : Int32) (K : Int32 → Wd → Prop) (w : Wd) : Prop :=
  isK w a0 12 ∧ w_X12_within a1.toInt64 1 99 (fun r2 w3 => ((r2 = 0 → isK w3 a0 12 ∧ w_X12_fails a0 1 (fun r18 w19 => K r18 w19) w3) ∧ (¬ r2 = 0 → isK w3 a0 12 ∧ w_X12_keeps a0 (fun w6 => isK w6 a0 12 ∧ w_X12_waterAll a0 (fun r8 w9 => ∃ n16, l_X12_hours_34  K n16 a0 a1 r8 0 w9) w6) w3))) (uI w a0 4 0)
theorem t_X12_hours_34 (C : xC x p s m c cX12_hours 4 args RX12) (hlk : meth.locks = false) (hr : meth.sig.returnType = some .int) {K : Int32 → Wd → Prop}   : ∀ (n : Nat) (a0 : Nat) (a1 : Int32) (a2 : Int32) (a3 : Int32) (w : Wd), l_X12_hours_34 K n a0 a1 a2 a3 w → GW x p l e (rmd 4 0 0) s m args below meth c 4 (QI x K below args s 0 0) 34 [(0, .ref (adr x a0)), (1, .int a1), (2, .int a2), (3, .int a3)] [] w 0 0 := by
  intro n
  induction n with
  | zero => intro _ _ _ _ _ h; exact False.elim h
  | succ n ih =>
    intro a0 a1 a2 a3 w h
    refine g_iload_n (pc := 34) C dX12_hours_34 (q := 3) rfl ?_
    refine g_iload_n (pc := 35) C dX12_hours_35 (q := 1) rfl ?_
    refine g_icmp_ge (pc := 36) C dX12_hours_36 (tgt := 49) rfl (fun z10 => ?_) (fun z10 => ?_)
    · replace h := h.1 z10
      refine g_aload_n (pc := 49) C dX12_hours_49 (q := 0) rfl ?_
      obtain ⟨k11, h⟩ := h
      refine miX12_311 (pc := 50) C k11 h (Nat.le_of_ble_eq_true rfl) (Nat.le_of_ble_eq_true rfl) ⟨Nat.le_refl _, Nat.le_refl _⟩ dX12_hours_50 (fun r12 w13 h => ?_)
      refine g_iload_n (pc := 53) C dX12_hours_53 (q := 2) rfl ?_
      refine g_isub (pc := 54) C dX12_hours_54 ?_
      exact g_iret (pc := 55) C hlk hr (Nat.le_refl _) (Nat.le_refl _) dX12_hours_55 h
    · replace h := h.2 z10
      refine g_aload_n (pc := 39) C dX12_hours_39 (q := 0) rfl ?_
      obtain ⟨k14, h⟩ := h
      refine miX12_347 (pc := 40) C k14 h (Nat.le_of_ble_eq_true rfl) (Nat.le_of_ble_eq_true rfl) ⟨Nat.le_refl _, Nat.le_refl _⟩ dX12_hours_40 (fun w15 h => ?_)
      refine g_iinc (pc := 43) C dX12_hours_43 (q := 3) rfl (v2 := a3 + 1) rfl (Nat.le_of_ble_eq_true rfl) (lo' := [(3, .int (a3 + 1)), (0, .ref (adr x a0)), (1, .int a1), (2, .int a2)]) rfl ?_
      refine g_goto (pc := 46) C dX12_hours_46 (tgt := 34) rfl ?_
      refine g_sub [1, 2, 3, 0] rfl ?_
      exact ih _ _ _ _ _ h
theorem c_X12_hours {x : xG} {l : Launch} {a0 : Nat} {a1 : Int32} {K : Int32 → Wd → Prop} {w : Wd} (h : w_X12_hours a0 a1 K w) : Met l yX12_hours (xws yX12_hours cX12_hours 4 (some .int)) (rmd 4 0 0) (xPc x [.ref (adr x a0), .int a1] w) (QcI x K) 0 0 (xA x) := by
  refine xMet (by decide) (Nat.le_of_ble_eq_true rfl) (fun p e s m below meth c C hlk hr _ => ?_)
  show GW x p l e (rmd 4 0 0) s m [.ref (adr x a0), .int a1].toArray below meth c 4 (QI x K below [.ref (adr x a0), .int a1].toArray s 0 0) 0 [(0, .ref (adr x a0)), (1, .int a1)] [] w 0 0
  refine g_aload_n (pc := 0) C dX12_hours_0 (q := 0) rfl ?_
  refine g_iconst (pc := 1) C dX12_hours_1 (v := 0) rfl ?_
  obtain ⟨k1, h⟩ := h
  refine pfX12_58 (pc := 2) C k1 dX12_hours_2 ?_
  refine g_iload_n (pc := 5) C dX12_hours_5 (q := 1) rfl ?_
  refine g_i2l (pc := 6) C dX12_hours_6 ?_
  refine g_lconst (pc := 7) C dX12_hours_7 (v := 1) rfl ?_
  refine g_ldc2 (pc := 8) C LCX12_314 dX12_hours_8 ?_
  refine miX12_119 (pc := 11) (w := uI w a0 4 0) C h (Nat.le_of_ble_eq_true rfl) (Nat.le_of_ble_eq_true rfl) ⟨Nat.le_refl _, Nat.le_refl _⟩ dX12_hours_11 (fun r2 w3 h => ?_)
  refine g_if_ne (pc := 14) C dX12_hours_14 (tgt := 23) rfl (fun z4 => ?_) (fun z4 => ?_)
  · replace h := h.2 z4
    refine g_aload_n (pc := 23) C dX12_hours_23 (q := 0) rfl ?_
    obtain ⟨k5, h⟩ := h
    refine miX12_329 (pc := 24) C k5 h (Nat.le_of_ble_eq_true rfl) (Nat.le_of_ble_eq_true rfl) ⟨Nat.le_refl _, Nat.le_refl _⟩ dX12_hours_24 (fun w6 h => ?_)
    refine g_aload_n (pc := 27) C dX12_hours_27 (q := 0) rfl ?_
    obtain ⟨k7, h⟩ := h
    refine miX12_311 (pc := 28) C k7 h (Nat.le_of_ble_eq_true rfl) (Nat.le_of_ble_eq_true rfl) ⟨Nat.le_refl _, Nat.le_refl _⟩ dX12_hours_28 (fun r8 w9 h => ?_)
    refine g_istore_n (pc := 31) C dX12_hours_31 (Nat.le_of_ble_eq_true rfl) (lo' := [(2, .int r8), (0, .ref (adr x a0)), (1, .int a1)]) rfl ?_
    refine g_iconst (pc := 32) C dX12_hours_32 (v := 0) rfl ?_
    refine g_istore_n (pc := 33) C dX12_hours_33 (Nat.le_of_ble_eq_true rfl) (lo' := [(3, .int 0), (2, .int r8), (0, .ref (adr x a0)), (1, .int a1)]) rfl ?_
    obtain ⟨n16, h⟩ := h
    refine g_sub [2, 3, 1, 0] rfl ?_
    refine t_X12_hours_34 C hlk hr n16 _ _ _ _ _ h
  · replace h := h.1 z4
    refine g_aload_n (pc := 17) C dX12_hours_17 (q := 0) rfl ?_
    refine g_iconst (pc := 18) C dX12_hours_18 (v := 1) rfl ?_
    obtain ⟨k17, h⟩ := h
    refine miX12_230 (pc := 19) C k17 h (Nat.le_of_ble_eq_true rfl) (Nat.le_of_ble_eq_true rfl) ⟨Nat.le_refl _, Nat.le_refl _⟩ dX12_hours_19 (fun r18 w19 h => ?_)
    exact g_iret (pc := 22) C hlk hr (Nat.le_refl _) (Nat.le_refl _) dX12_hours_22 h
def w_X12_isHouse (a0 : Nat) (a1 : Int32) (K : Int32 → Wd → Prop) (w : Wd) : Prop :=
  isK w a0 12 ∧ isK w (wR w a0 0) 20 ∧ vp_in 2 (wn w (wR w a0 0)) ∧ w_X12_within a1.toInt64 0 (((wI w (wR w a0 0) (2 : Int32).toNatClampNeg) - 1).toInt64) (fun r4 w5 => (r4 = 0 ∨ r4 = 1) ∧ K r4 w5) w
theorem c_X12_isHouse {x : xG} {l : Launch} {a0 : Nat} {a1 : Int32} {K : Int32 → Wd → Prop} {w : Wd} (h : w_X12_isHouse a0 a1 K w) : Met l yX12_isHouse (xws yX12_isHouse cX12_isHouse 2 (some .boolean)) (rmd 1 0 0) (xPc x [.ref (adr x a0), .int a1] w) (QcI x K) 0 0 (xA x) := by
  refine xMet (by decide) (Nat.le_of_ble_eq_true rfl) (fun p e s m below meth c C hlk hr _ => ?_)
  show GW x p l e (rmd 1 0 0) s m [.ref (adr x a0), .int a1].toArray below meth c 2 (QI x K below [.ref (adr x a0), .int a1].toArray s 0 0) 0 [(0, .ref (adr x a0)), (1, .int a1)] [] w 0 0
  refine g_iload_n (pc := 0) C dX12_isHouse_0 (q := 1) rfl ?_
  refine g_i2l (pc := 1) C dX12_isHouse_1 ?_
  refine g_lconst (pc := 2) C dX12_isHouse_2 (v := 0) rfl ?_
  refine g_aload_n (pc := 3) C dX12_isHouse_3 (q := 0) rfl ?_
  obtain ⟨k1, h⟩ := h
  obtain ⟨k2, h⟩ := h
  refine gfX12_9 (pc := 4) C k1 (isK_ne k2) dX12_isHouse_4 ?_
  refine g_iconst (pc := 7) C dX12_isHouse_7 (v := 2) rfl ?_
  obtain ⟨k3, h⟩ := h
  refine g_iald (pc := 8) C k2 k3 dX12_isHouse_8 ?_
  refine g_iconst (pc := 9) C dX12_isHouse_9 (v := 1) rfl ?_
  refine g_isub (pc := 10) C dX12_isHouse_10 ?_
  refine g_i2l (pc := 11) C dX12_isHouse_11 ?_
  refine miX12_119 (pc := 12) C h (Nat.le_of_ble_eq_true rfl) (Nat.le_of_ble_eq_true rfl) ⟨Nat.le_refl _, Nat.le_refl _⟩ dX12_isHouse_12 (fun r4 w5 h => ?_)
  exact g_zret (pc := 15) C hlk hr (Nat.le_refl _) (Nat.le_refl _) dX12_isHouse_15 h.1 h.2
theorem miX12_308 (C : xC x p s m c cc nL args RX12) {a0 : Nat} {a1 : Int32} {K : Int32 → Wd → Prop} {D MC MS : Nat} (hq : isK w a0 12) (h : w_X12_isHouse a0 a1 K w) (hD : 1 + 1 ≤ D) (hW : (st.map fun v => v.category).sum ≤ 8) (hij : i ≤ MC ∧ j ≤ MS) (hd : decode cc pc = .ok (.invokevirtual 308, 3)) (k : ∀ (r : Int32) (u : Wd), K r u → GW x p l e (rmd D MC MS) s m args below meth c nL Q (pc + 3) lo (.int r :: st) u i j) : GW x p l e (rmd D MC MS) s m args below meth c nL Q pc lo (.int a1 :: .ref (adr x a0) :: st) w i j := g_callVi0 C (As := [.int a1]) (ci := 12) (c_X12_isHouse h) (x_cwV C 1 LMX12_308 ⟨rfl, by decide, by decide, rfl⟩ hD (by decide)) rfl hq (by decide) rfl rfl hW hd hij k
def j_X12_house_28  (K : Int32 → Wd → Prop) (a0 : Nat) (a1 : Int32) (a2 : Int32) (s0 : Int32) (s1 : Nat) (w : Wd) : Prop :=
  isK w s1 12 ∧ isK w a0 12 ∧ (((wI (uI w s1 4 s0) a0 4) ≤ 0 → ((a2 = 0 → isK w (wR w a0 0) 20 ∧ vp_in (67 + a1) (wn w (wR w a0 0)) ∧ K (wI (uI w s1 4 s0) (wR w a0 0) (67 + a1).toNatClampNeg) (uI w s1 4 s0)) ∧ (¬ a2 = 0 → isK w (wR w a0 0) 20 ∧ vp_in (73 + a1) (wn w (wR w a0 0)) ∧ K (wI (uI w s1 4 s0) (wR w a0 0) (73 + a1).toNatClampNeg) (uI w s1 4 s0)))) ∧ (¬ (wI (uI w s1 4 s0) a0 4) ≤ 0 → K 0 (uI w s1 4 s0)))
def w_X12_house (a0 : Nat) (a1 : Int32) (a2 : Int32) (K : Int32 → Wd → Prop) (w : Wd) : Prop :=
  isK w a0 12 ∧ w_X12_isHouse a0 a1 (fun r2 w3 => ((r2 = 0 → j_X12_house_28 K a0 a1 a2 1 a0 w3) ∧ (¬ r2 = 0 → w_X12_within a2.toInt64 0 1 (fun r5 w6 => ((r5 = 0 → j_X12_house_28 K a0 a1 a2 2 a0 w6) ∧ (¬ r5 = 0 → j_X12_house_28 K a0 a1 a2 0 a0 w6))) w3))) w
theorem t_X12_house_28 (C : xC x p s m c cX12_house 3 args RX12) (hlk : meth.locks = false) (hr : meth.sig.returnType = some .int) {K : Int32 → Wd → Prop}   (a0 : Nat) (a1 : Int32) (a2 : Int32) (s0 : Int32) (s1 : Nat) (w : Wd) (h : j_X12_house_28 K a0 a1 a2 s0 s1 w) : GW x p l e (rmd 2 0 0) s m args below meth c 3 (QI x K below args s 0 0) 28 [(0, .ref (adr x a0)), (1, .int a1), (2, .int a2)] [.int s0, .ref (adr x s1)] w 0 0 := by
  obtain ⟨k8, h⟩ := h
  refine pfX12_58 (pc := 28) C k8 dX12_house_28 ?_
  refine g_aload_n (pc := 31) C dX12_house_31 (q := 0) rfl ?_
  obtain ⟨k9, h⟩ := h
  refine gfX12_58 (pc := 32) (w := uI w s1 4 s0) C k9 dX12_house_32 ?_
  refine g_if_le (pc := 35) C dX12_house_35 (tgt := 40) rfl (fun z10 => ?_) (fun z10 => ?_)
  · replace h := h.1 z10
    refine g_iload_n (pc := 40) C dX12_house_40 (q := 2) rfl ?_
    refine g_if_ne (pc := 41) C dX12_house_41 (tgt := 56) rfl (fun z11 => ?_) (fun z11 => ?_)
    · replace h := h.2 z11
      refine g_aload_n (pc := 56) C dX12_house_56 (q := 0) rfl ?_
      obtain ⟨k12, h⟩ := h
      refine gfX12_9 (pc := 57) (w := uI w s1 4 s0) C k9 (isK_ne k12) dX12_house_57 ?_
      refine g_bipush (pc := 60) C dX12_house_60 (v := 73) rfl ?_
      refine g_iload_n (pc := 62) C dX12_house_62 (q := 1) rfl ?_
      refine g_iadd (pc := 63) C dX12_house_63 ?_
      obtain ⟨k13, h⟩ := h
      refine g_iald (pc := 64) (w := uI w s1 4 s0) C k12 k13 dX12_house_64 ?_
      exact g_iret (pc := 65) C hlk hr (Nat.le_refl _) (Nat.le_refl _) dX12_house_65 h
    · replace h := h.1 z11
      refine g_aload_n (pc := 44) C dX12_house_44 (q := 0) rfl ?_
      obtain ⟨k14, h⟩ := h
      refine gfX12_9 (pc := 45) (w := uI w s1 4 s0) C k9 (isK_ne k14) dX12_house_45 ?_
      refine g_bipush (pc := 48) C dX12_house_48 (v := 67) rfl ?_
      refine g_iload_n (pc := 50) C dX12_house_50 (q := 1) rfl ?_
      refine g_iadd (pc := 51) C dX12_house_51 ?_
      obtain ⟨k15, h⟩ := h
      refine g_iald (pc := 52) (w := uI w s1 4 s0) C k14 k15 dX12_house_52 ?_
      refine g_goto (pc := 53) C dX12_house_53 (tgt := 65) rfl ?_
      exact g_iret (pc := 65) C hlk hr (Nat.le_refl _) (Nat.le_refl _) dX12_house_65 h
  · replace h := h.2 z10
    refine g_iconst (pc := 38) C dX12_house_38 (v := 0) rfl ?_
    exact g_iret (pc := 39) C hlk hr (Nat.le_refl _) (Nat.le_refl _) dX12_house_39 h
theorem c_X12_house {x : xG} {l : Launch} {a0 : Nat} {a1 : Int32} {a2 : Int32} {K : Int32 → Wd → Prop} {w : Wd} (h : w_X12_house a0 a1 a2 K w) : Met l yX12_house (xws yX12_house cX12_house 3 (some .int)) (rmd 2 0 0) (xPc x [.ref (adr x a0), .int a1, .int a2] w) (QcI x K) 0 0 (xA x) := by
  refine xMet (by decide) (Nat.le_of_ble_eq_true rfl) (fun p e s m below meth c C hlk hr _ => ?_)
  show GW x p l e (rmd 2 0 0) s m [.ref (adr x a0), .int a1, .int a2].toArray below meth c 3 (QI x K below [.ref (adr x a0), .int a1, .int a2].toArray s 0 0) 0 [(0, .ref (adr x a0)), (1, .int a1), (2, .int a2)] [] w 0 0
  refine g_aload_n (pc := 0) C dX12_house_0 (q := 0) rfl ?_
  refine g_aload_n (pc := 1) C dX12_house_1 (q := 0) rfl ?_
  refine g_iload_n (pc := 2) C dX12_house_2 (q := 1) rfl ?_
  obtain ⟨k1, h⟩ := h
  refine miX12_308 (pc := 3) C k1 h (Nat.le_of_ble_eq_true rfl) (Nat.le_of_ble_eq_true rfl) ⟨Nat.le_refl _, Nat.le_refl _⟩ dX12_house_3 (fun r2 w3 h => ?_)
  refine g_if_ne (pc := 6) C dX12_house_6 (tgt := 13) rfl (fun z4 => ?_) (fun z4 => ?_)
  · replace h := h.2 z4
    refine g_iload_n (pc := 13) C dX12_house_13 (q := 2) rfl ?_
    refine g_i2l (pc := 14) C dX12_house_14 ?_
    refine g_lconst (pc := 15) C dX12_house_15 (v := 0) rfl ?_
    refine g_lconst (pc := 16) C dX12_house_16 (v := 1) rfl ?_
    refine miX12_119 (pc := 17) C h (Nat.le_of_ble_eq_true rfl) (Nat.le_of_ble_eq_true rfl) ⟨Nat.le_refl _, Nat.le_refl _⟩ dX12_house_17 (fun r5 w6 h => ?_)
    refine g_if_eq (pc := 20) C dX12_house_20 (tgt := 27) rfl (fun z7 => ?_) (fun z7 => ?_)
    · replace h := h.1 z7
      refine g_iconst (pc := 27) C dX12_house_27 (v := 2) rfl ?_
      exact t_X12_house_28 C hlk hr  _ _ _ _ _ _ h
    · replace h := h.2 z7
      refine g_iconst (pc := 23) C dX12_house_23 (v := 0) rfl ?_
      refine g_goto (pc := 24) C dX12_house_24 (tgt := 28) rfl ?_
      exact t_X12_house_28 C hlk hr  _ _ _ _ _ _ h
  · replace h := h.1 z4
    refine g_iconst (pc := 9) C dX12_house_9 (v := 1) rfl ?_
    refine g_goto (pc := 10) C dX12_house_10 (tgt := 28) rfl ?_
    exact t_X12_house_28 C hlk hr  _ _ _ _ _ _ h
def l_X12_image_38  (K : Wd → Prop) : Nat → Nat → Int32 → Int32 → Wd → Prop
  | 0, _, _, _, _ => False
  | n + 1, a0, a1, a2, w => ((1215 ≤ a2 → K w) ∧ (¬ 1215 ≤ a2 → isK w a0 12 ∧ isK w (wR w a0 2) 20 ∧ isK w (wR w a0 0) 20 ∧ vp_in a2 (wn w (wR w a0 0)) ∧ vp_in ((1215 * a1) + a2) (wn w (wR w a0 2)) ∧ l_X12_image_38 K n a0 a1 (a2 + 1) (uI w (wR w a0 2) ((1215 * a1) + a2).toNatClampNeg (wI w (wR w a0 0) a2.toNatClampNeg))))
def w_X12_image (a0 : Nat) (a1 : Int32) (K : Wd → Prop) (w : Wd) : Prop :=
  w_X12_within a1.toInt64 0 2 (fun r1 w2 => ((r1 = 0 → isK w2 a0 12 ∧ (((wI (uI w2 a0 4 1) a0 4) ≤ 0 → isK w2 (wR w2 a0 3) 23 ∧ vp_in a1 (wn w2 (wR w2 a0 3)) ∧ ∃ n14, l_X12_image_38  K n14 a0 a1 0 (uI (uI w2 a0 4 1) (wR w2 a0 3) a1.toNatClampNeg (vp_nar .boolean 1))) ∧ (¬ (wI (uI w2 a0 4 1) a0 4) ≤ 0 → K (uI w2 a0 4 1)))) ∧ (¬ r1 = 0 → isK w2 a0 12 ∧ (((wI (uI w2 a0 4 0) a0 4) ≤ 0 → isK w2 (wR w2 a0 3) 23 ∧ vp_in a1 (wn w2 (wR w2 a0 3)) ∧ ∃ n19, l_X12_image_38  K n19 a0 a1 0 (uI (uI w2 a0 4 0) (wR w2 a0 3) a1.toNatClampNeg (vp_nar .boolean 1))) ∧ (¬ (wI (uI w2 a0 4 0) a0 4) ≤ 0 → K (uI w2 a0 4 0)))))) w
theorem t_X12_image_38 (C : xC x p s m c cX12_image 3 args RX12) (hlk : meth.locks = false) (hr : meth.sig.returnType = none) {K : Wd → Prop}   : ∀ (n : Nat) (a0 : Nat) (a1 : Int32) (a2 : Int32) (w : Wd), l_X12_image_38 K n a0 a1 a2 w → GW x p l e (rmd 1 0 0) s m args below meth c 3 (QV x K below args s 0 0) 38 [(0, .ref (adr x a0)), (1, .int a1), (2, .int a2)] [] w 0 0 := by
  intro n
  induction n with
  | zero => intro _ _ _ _ h; exact False.elim h
  | succ n ih =>
    intro a0 a1 a2 w h
    refine g_iload_n (pc := 38) C dX12_image_38 (q := 2) rfl ?_
    refine g_sipush (pc := 39) C dX12_image_39 (v := 1215) rfl ?_
    refine g_icmp_ge (pc := 42) C dX12_image_42 (tgt := 69) rfl (fun z8 => ?_) (fun z8 => ?_)
    · replace h := h.1 z8
      exact g_vret (pc := 69) C hlk hr (Nat.le_refl _) (Nat.le_refl _) dX12_image_69 h
    · replace h := h.2 z8
      refine g_aload_n (pc := 45) C dX12_image_45 (q := 0) rfl ?_
      obtain ⟨k9, h⟩ := h
      obtain ⟨k10, h⟩ := h
      refine gfX12_16 (pc := 46) C k9 (isK_ne k10) dX12_image_46 ?_
      refine g_sipush (pc := 49) C dX12_image_49 (v := 1215) rfl ?_
      refine g_iload_n (pc := 52) C dX12_image_52 (q := 1) rfl ?_
      refine g_imul (pc := 53) C dX12_image_53 ?_
      refine g_iload_n (pc := 54) C dX12_image_54 (q := 2) rfl ?_
      refine g_iadd (pc := 55) C dX12_image_55 ?_
      refine g_aload_n (pc := 56) C dX12_image_56 (q := 0) rfl ?_
      obtain ⟨k11, h⟩ := h
      refine gfX12_9 (pc := 57) C k9 (isK_ne k11) dX12_image_57 ?_
      refine g_iload_n (pc := 60) C dX12_image_60 (q := 2) rfl ?_
      obtain ⟨k12, h⟩ := h
      refine g_iald (pc := 61) C k11 k12 dX12_image_61 ?_
      obtain ⟨k13, h⟩ := h
      refine g_iast (pc := 62) C k10 k13 dX12_image_62 ?_
      refine g_iinc (pc := 63) C dX12_image_63 (q := 2) rfl (v2 := a2 + 1) rfl (Nat.le_of_ble_eq_true rfl) (lo' := [(2, .int (a2 + 1)), (0, .ref (adr x a0)), (1, .int a1)]) rfl ?_
      refine g_goto (pc := 66) C dX12_image_66 (tgt := 38) rfl ?_
      refine g_sub [1, 2, 0] rfl ?_
      exact ih _ _ _ _ h
theorem c_X12_image {x : xG} {l : Launch} {a0 : Nat} {a1 : Int32} {K : Wd → Prop} {w : Wd} (h : w_X12_image a0 a1 K w) : Met l yX12_image (xws yX12_image cX12_image 3 none) (rmd 1 0 0) (xPc x [.ref (adr x a0), .int a1] w) (QcV x K) 0 0 (xA x) := by
  refine xMet (by decide) (Nat.le_of_ble_eq_true rfl) (fun p e s m below meth c C hlk hr _ => ?_)
  show GW x p l e (rmd 1 0 0) s m [.ref (adr x a0), .int a1].toArray below meth c 3 (QV x K below [.ref (adr x a0), .int a1].toArray s 0 0) 0 [(0, .ref (adr x a0)), (1, .int a1)] [] w 0 0
  refine g_aload_n (pc := 0) C dX12_image_0 (q := 0) rfl ?_
  refine g_iload_n (pc := 1) C dX12_image_1 (q := 1) rfl ?_
  refine g_i2l (pc := 2) C dX12_image_2 ?_
  refine g_lconst (pc := 3) C dX12_image_3 (v := 0) rfl ?_
  refine g_ldc2 (pc := 4) C LCX12_467 dX12_image_4 ?_
  refine miX12_119 (pc := 7) C h (Nat.le_of_ble_eq_true rfl) (Nat.le_of_ble_eq_true rfl) ⟨Nat.le_refl _, Nat.le_refl _⟩ dX12_image_7 (fun r1 w2 h => ?_)
  refine g_if_eq (pc := 10) C dX12_image_10 (tgt := 17) rfl (fun z3 => ?_) (fun z3 => ?_)
  · replace h := h.1 z3
    refine g_iconst (pc := 17) C dX12_image_17 (v := 1) rfl ?_
    obtain ⟨k4, h⟩ := h
    refine pfX12_58 (pc := 18) C k4 dX12_image_18 ?_
    refine g_aload_n (pc := 21) C dX12_image_21 (q := 0) rfl ?_
    refine gfX12_58 (pc := 22) (w := uI w2 a0 4 1) C k4 dX12_image_22 ?_
    refine g_if_le (pc := 25) C dX12_image_25 (tgt := 29) rfl (fun z5 => ?_) (fun z5 => ?_)
    · replace h := h.1 z5
      refine g_aload_n (pc := 29) C dX12_image_29 (q := 0) rfl ?_
      obtain ⟨k6, h⟩ := h
      refine gfX12_19 (pc := 30) (w := uI w2 a0 4 1) C k4 (isK_ne k6) dX12_image_30 ?_
      refine g_iload_n (pc := 33) C dX12_image_33 (q := 1) rfl ?_
      refine g_iconst (pc := 34) C dX12_image_34 (v := 1) rfl ?_
      obtain ⟨k7, h⟩ := h
      refine g_zast (pc := 35) (w := uI w2 a0 4 1) C k6 k7 dX12_image_35 ?_
      refine g_iconst (pc := 36) C dX12_image_36 (v := 0) rfl ?_
      refine g_istore_n (pc := 37) C dX12_image_37 (Nat.le_of_ble_eq_true rfl) (lo' := [(2, .int 0), (0, .ref (adr x a0)), (1, .int a1)]) rfl ?_
      obtain ⟨n14, h⟩ := h
      refine g_sub [1, 2, 0] rfl ?_
      refine t_X12_image_38 C hlk hr n14 _ _ _ _ h
    · replace h := h.2 z5
      exact g_vret (pc := 28) C hlk hr (Nat.le_refl _) (Nat.le_refl _) dX12_image_28 h
  · replace h := h.2 z3
    refine g_iconst (pc := 13) C dX12_image_13 (v := 0) rfl ?_
    refine g_goto (pc := 14) C dX12_image_14 (tgt := 18) rfl ?_
    obtain ⟨k15, h⟩ := h
    refine pfX12_58 (pc := 18) C k15 dX12_image_18 ?_
    refine g_aload_n (pc := 21) C dX12_image_21 (q := 0) rfl ?_
    refine gfX12_58 (pc := 22) (w := uI w2 a0 4 0) C k15 dX12_image_22 ?_
    refine g_if_le (pc := 25) C dX12_image_25 (tgt := 29) rfl (fun z16 => ?_) (fun z16 => ?_)
    · replace h := h.1 z16
      refine g_aload_n (pc := 29) C dX12_image_29 (q := 0) rfl ?_
      obtain ⟨k17, h⟩ := h
      refine gfX12_19 (pc := 30) (w := uI w2 a0 4 0) C k15 (isK_ne k17) dX12_image_30 ?_
      refine g_iload_n (pc := 33) C dX12_image_33 (q := 1) rfl ?_
      refine g_iconst (pc := 34) C dX12_image_34 (v := 1) rfl ?_
      obtain ⟨k18, h⟩ := h
      refine g_zast (pc := 35) (w := uI w2 a0 4 0) C k17 k18 dX12_image_35 ?_
      refine g_iconst (pc := 36) C dX12_image_36 (v := 0) rfl ?_
      refine g_istore_n (pc := 37) C dX12_image_37 (Nat.le_of_ble_eq_true rfl) (lo' := [(2, .int 0), (0, .ref (adr x a0)), (1, .int a1)]) rfl ?_
      obtain ⟨n19, h⟩ := h
      refine g_sub [1, 2, 0] rfl ?_
      refine t_X12_image_38 C hlk hr n19 _ _ _ _ h
    · replace h := h.2 z16
      exact g_vret (pc := 28) C hlk hr (Nat.le_refl _) (Nat.le_refl _) dX12_image_28 h
theorem miX12_396 (C : xC x p s m c cc nL args RX12) {a0 : Int32} {a1 : Int32} {K : Int32 → Wd → Prop} {D MC MS : Nat} (h : w_X12_common a0 a1 K w) (hD : 100 + 1 ≤ D) (hW : (st.map fun v => v.category).sum ≤ 8) (hij : i ≤ MC ∧ j ≤ MS) (hd : decode cc pc = .ok (.invokestatic 396, 3)) (k : ∀ (r : Int32) (u : Wd), K r u → GW x p l e (rmd D MC MS) s m args below meth c nL Q (pc + 3) lo (.int r :: st) u i j) : GW x p l e (rmd D MC MS) s m args below meth c nL Q pc lo (.int a1 :: .int a0 :: st) w i j := g_callSi0 C (As := [.int a0, .int a1]) (c_X12_common h) (x_cwS C 2 LMX12_396 ⟨by decide, by decide, rfl⟩ hD (by decide)) rfl rfl hW hd hij k
def l_X12_jointOf_4  (K : Int32 → Wd → Prop) : Nat → Nat → Int32 → Int32 → Wd → Prop
  | 0, _, _, _, _ => False
  | n + 1, a0, a1, a2, w => isK w a0 12 ∧ w_X12_wells a0 (fun r2 w3 => ((r2 ≤ a2 → K a1 w3) ∧ (¬ r2 ≤ a2 → isK w3 a0 12 ∧ isK w3 (wR w3 a0 0) 20 ∧ vp_in (27 + a2) (wn w3 (wR w3 a0 0)) ∧ w_X12_common a1 (wI w3 (wR w3 a0 0) (27 + a2).toNatClampNeg) (fun r8 w9 => ¬ r8 = 0 ∧ isK w9 a0 12 ∧ isK w9 (wR w9 a0 0) 20 ∧ vp_in (27 + a2) (wn w9 (wR w9 a0 0)) ∧ l_X12_jointOf_4 K n a0 ((a1 / r8) * (wI w9 (wR w9 a0 0) (27 + a2).toNatClampNeg)) (a2 + 1) w9) w3))) w
def w_X12_jointOf (a0 : Nat) (K : Int32 → Wd → Prop) (w : Wd) : Prop :=
  ∃ n14, l_X12_jointOf_4  K n14 a0 1 0 w
theorem t_X12_jointOf_4 (C : xC x p s m c cX12_jointOf 3 args RX12) (hlk : meth.locks = false) (hr : meth.sig.returnType = some .int) {K : Int32 → Wd → Prop}   : ∀ (n : Nat) (a0 : Nat) (a1 : Int32) (a2 : Int32) (w : Wd), l_X12_jointOf_4 K n a0 a1 a2 w → GW x p l e (rmd 101 0 0) s m args below meth c 3 (QI x K below args s 0 0) 4 [(0, .ref (adr x a0)), (1, .int a1), (2, .int a2)] [] w 0 0 := by
  intro n
  induction n with
  | zero => intro _ _ _ _ h; exact False.elim h
  | succ n ih =>
    intro a0 a1 a2 w h
    refine g_iload_n (pc := 4) C dX12_jointOf_4 (q := 2) rfl ?_
    refine g_aload_n (pc := 5) C dX12_jointOf_5 (q := 0) rfl ?_
    obtain ⟨k1, h⟩ := h
    refine miX12_239 (pc := 6) C k1 h (Nat.le_of_ble_eq_true rfl) (Nat.le_of_ble_eq_true rfl) ⟨Nat.le_refl _, Nat.le_refl _⟩ dX12_jointOf_6 (fun r2 w3 h => ?_)
    refine g_icmp_ge (pc := 9) C dX12_jointOf_9 (tgt := 44) rfl (fun z4 => ?_) (fun z4 => ?_)
    · replace h := h.1 z4
      refine g_iload_n (pc := 44) C dX12_jointOf_44 (q := 1) rfl ?_
      exact g_iret (pc := 45) C hlk hr (Nat.le_refl _) (Nat.le_refl _) dX12_jointOf_45 h
    · replace h := h.2 z4
      refine g_iload_n (pc := 12) C dX12_jointOf_12 (q := 1) rfl ?_
      refine g_iload_n (pc := 13) C dX12_jointOf_13 (q := 1) rfl ?_
      refine g_aload_n (pc := 14) C dX12_jointOf_14 (q := 0) rfl ?_
      obtain ⟨k5, h⟩ := h
      obtain ⟨k6, h⟩ := h
      refine gfX12_9 (pc := 15) C k5 (isK_ne k6) dX12_jointOf_15 ?_
      refine g_bipush (pc := 18) C dX12_jointOf_18 (v := 27) rfl ?_
      refine g_iload_n (pc := 20) C dX12_jointOf_20 (q := 2) rfl ?_
      refine g_iadd (pc := 21) C dX12_jointOf_21 ?_
      obtain ⟨k7, h⟩ := h
      refine g_iald (pc := 22) C k6 k7 dX12_jointOf_22 ?_
      refine miX12_396 (pc := 23) C h (Nat.le_of_ble_eq_true rfl) (Nat.le_of_ble_eq_true rfl) ⟨Nat.le_refl _, Nat.le_refl _⟩ dX12_jointOf_23 (fun r8 w9 h => ?_)
      obtain ⟨k10, h⟩ := h
      refine g_idiv (pc := 26) C dX12_jointOf_26 k10 ?_
      refine g_aload_n (pc := 27) C dX12_jointOf_27 (q := 0) rfl ?_
      obtain ⟨k11, h⟩ := h
      obtain ⟨k12, h⟩ := h
      refine gfX12_9 (pc := 28) C k11 (isK_ne k12) dX12_jointOf_28 ?_
      refine g_bipush (pc := 31) C dX12_jointOf_31 (v := 27) rfl ?_
      refine g_iload_n (pc := 33) C dX12_jointOf_33 (q := 2) rfl ?_
      refine g_iadd (pc := 34) C dX12_jointOf_34 ?_
      obtain ⟨k13, h⟩ := h
      refine g_iald (pc := 35) C k12 k13 dX12_jointOf_35 ?_
      refine g_imul (pc := 36) C dX12_jointOf_36 ?_
      refine g_istore_n (pc := 37) C dX12_jointOf_37 (Nat.le_of_ble_eq_true rfl) (lo' := [(1, .int ((a1 / r8) * (wI w9 (wR w9 a0 0) (27 + a2).toNatClampNeg))), (0, .ref (adr x a0)), (2, .int a2)]) rfl ?_
      refine g_iinc (pc := 38) C dX12_jointOf_38 (q := 2) rfl (v2 := a2 + 1) rfl (Nat.le_of_ble_eq_true rfl) (lo' := [(2, .int (a2 + 1)), (1, .int ((a1 / r8) * (wI w9 (wR w9 a0 0) (27 + a2).toNatClampNeg))), (0, .ref (adr x a0))]) rfl ?_
      refine g_goto (pc := 41) C dX12_jointOf_41 (tgt := 4) rfl ?_
      refine g_sub [2, 1, 0] rfl ?_
      exact ih _ _ _ _ h
theorem c_X12_jointOf {x : xG} {l : Launch} {a0 : Nat} {K : Int32 → Wd → Prop} {w : Wd} (h : w_X12_jointOf a0 K w) : Met l yX12_jointOf (xws yX12_jointOf cX12_jointOf 3 (some .int)) (rmd 101 0 0) (xPc x [.ref (adr x a0)] w) (QcI x K) 0 0 (xA x) := by
  refine xMet (by decide) (Nat.le_of_ble_eq_true rfl) (fun p e s m below meth c C hlk hr _ => ?_)
  show GW x p l e (rmd 101 0 0) s m [.ref (adr x a0)].toArray below meth c 3 (QI x K below [.ref (adr x a0)].toArray s 0 0) 0 [(0, .ref (adr x a0))] [] w 0 0
  refine g_iconst (pc := 0) C dX12_jointOf_0 (v := 1) rfl ?_
  refine g_istore_n (pc := 1) C dX12_jointOf_1 (Nat.le_of_ble_eq_true rfl) (lo' := [(1, .int 1), (0, .ref (adr x a0))]) rfl ?_
  refine g_iconst (pc := 2) C dX12_jointOf_2 (v := 0) rfl ?_
  refine g_istore_n (pc := 3) C dX12_jointOf_3 (Nat.le_of_ble_eq_true rfl) (lo' := [(2, .int 0), (1, .int 1), (0, .ref (adr x a0))]) rfl ?_
  obtain ⟨n14, h⟩ := h
  refine g_sub [2, 1, 0] rfl ?_
  refine t_X12_jointOf_4 C hlk hr n14 _ _ _ _ h
theorem miX12_399 (C : xC x p s m c cc nL args RX12) {a0 : Nat} {K : Int32 → Wd → Prop} {D MC MS : Nat} (hq : isK w a0 12) (h : w_X12_jointOf a0 K w) (hD : 101 + 1 ≤ D) (hW : (st.map fun v => v.category).sum ≤ 8) (hij : i ≤ MC ∧ j ≤ MS) (hd : decode cc pc = .ok (.invokevirtual 399, 3)) (k : ∀ (r : Int32) (u : Wd), K r u → GW x p l e (rmd D MC MS) s m args below meth c nL Q (pc + 3) lo (.int r :: st) u i j) : GW x p l e (rmd D MC MS) s m args below meth c nL Q pc lo (.ref (adr x a0) :: st) w i j := g_callVi0 C (As := []) (ci := 12) (c_X12_jointOf h) (x_cwV C 0 LMX12_399 ⟨rfl, by decide, by decide, rfl⟩ hD (by decide)) rfl hq (by decide) rfl rfl hW hd hij k
def w_X12_joint (a0 : Nat) (K : Int32 → Wd → Prop) (w : Wd) : Prop :=
  isK w a0 12 ∧ w_X12_jointOf a0 (fun r2 w3 => K r2 w3) (uI w a0 4 0)
theorem c_X12_joint {x : xG} {l : Launch} {a0 : Nat} {K : Int32 → Wd → Prop} {w : Wd} (h : w_X12_joint a0 K w) : Met l yX12_joint (xws yX12_joint cX12_joint 1 (some .int)) (rmd 102 0 0) (xPc x [.ref (adr x a0)] w) (QcI x K) 0 0 (xA x) := by
  refine xMet (by decide) (Nat.le_of_ble_eq_true rfl) (fun p e s m below meth c C hlk hr _ => ?_)
  show GW x p l e (rmd 102 0 0) s m [.ref (adr x a0)].toArray below meth c 1 (QI x K below [.ref (adr x a0)].toArray s 0 0) 0 [(0, .ref (adr x a0))] [] w 0 0
  refine g_aload_n (pc := 0) C dX12_joint_0 (q := 0) rfl ?_
  refine g_iconst (pc := 1) C dX12_joint_1 (v := 0) rfl ?_
  obtain ⟨k1, h⟩ := h
  refine pfX12_58 (pc := 2) C k1 dX12_joint_2 ?_
  refine g_aload_n (pc := 5) C dX12_joint_5 (q := 0) rfl ?_
  refine miX12_399 (pc := 6) (w := uI w a0 4 0) C k1 h (Nat.le_of_ble_eq_true rfl) (Nat.le_of_ble_eq_true rfl) ⟨Nat.le_refl _, Nat.le_refl _⟩ dX12_joint_6 (fun r2 w3 h => ?_)
  exact g_iret (pc := 9) C hlk hr (Nat.le_refl _) (Nat.le_refl _) dX12_joint_9 h
def w_X12_trayFault (a0 : Nat) (a1 : Int32) (K : Int32 → Wd → Prop) (w : Wd) : Prop :=
  w_X12_isTray a1 (fun r1 w2 => ((r1 = 0 → K 1 w2) ∧ (¬ r1 = 0 → isK w2 a0 12 ∧ isK w2 (wR w2 a0 26) 20 ∧ vp_in a1 (wn w2 (wR w2 a0 26)) ∧ (((wI w2 (wR w2 a0 26) a1.toNatClampNeg) = (-1) → K 2 w2) ∧ (¬ (wI w2 (wR w2 a0 26) a1.toNatClampNeg) = (-1) → K 0 w2))))) w
theorem c_X12_trayFault {x : xG} {l : Launch} {a0 : Nat} {a1 : Int32} {K : Int32 → Wd → Prop} {w : Wd} (h : w_X12_trayFault a0 a1 K w) : Met l yX12_trayFault (xws yX12_trayFault cX12_trayFault 2 (some .int)) (rmd 2 0 0) (xPc x [.ref (adr x a0), .int a1] w) (QcI x K) 0 0 (xA x) := by
  refine xMet (by decide) (Nat.le_of_ble_eq_true rfl) (fun p e s m below meth c C hlk hr _ => ?_)
  show GW x p l e (rmd 2 0 0) s m [.ref (adr x a0), .int a1].toArray below meth c 2 (QI x K below [.ref (adr x a0), .int a1].toArray s 0 0) 0 [(0, .ref (adr x a0)), (1, .int a1)] [] w 0 0
  refine g_iload_n (pc := 0) C dX12_trayFault_0 (q := 1) rfl ?_
  refine miX12_351 (pc := 1) C h (Nat.le_of_ble_eq_true rfl) (Nat.le_of_ble_eq_true rfl) ⟨Nat.le_refl _, Nat.le_refl _⟩ dX12_trayFault_1 (fun r1 w2 h => ?_)
  refine g_if_ne (pc := 4) C dX12_trayFault_4 (tgt := 11) rfl (fun z3 => ?_) (fun z3 => ?_)
  · replace h := h.2 z3
    refine g_aload_n (pc := 11) C dX12_trayFault_11 (q := 0) rfl ?_
    obtain ⟨k4, h⟩ := h
    obtain ⟨k5, h⟩ := h
    refine gfX12_49 (pc := 12) C k4 (isK_ne k5) dX12_trayFault_12 ?_
    refine g_iload_n (pc := 15) C dX12_trayFault_15 (q := 1) rfl ?_
    obtain ⟨k6, h⟩ := h
    refine g_iald (pc := 16) C k5 k6 dX12_trayFault_16 ?_
    refine g_iconst (pc := 17) C dX12_trayFault_17 (v := (-1)) rfl ?_
    refine g_icmp_ne (pc := 18) C dX12_trayFault_18 (tgt := 25) rfl (fun z7 => ?_) (fun z7 => ?_)
    · replace h := h.2 z7
      refine g_iconst (pc := 25) C dX12_trayFault_25 (v := 0) rfl ?_
      exact g_iret (pc := 26) C hlk hr (Nat.le_refl _) (Nat.le_refl _) dX12_trayFault_26 h
    · replace h := h.1 z7
      refine g_iconst (pc := 21) C dX12_trayFault_21 (v := 2) rfl ?_
      refine g_goto (pc := 22) C dX12_trayFault_22 (tgt := 26) rfl ?_
      exact g_iret (pc := 26) C hlk hr (Nat.le_refl _) (Nat.le_refl _) dX12_trayFault_26 h
  · replace h := h.1 z3
    refine g_iconst (pc := 7) C dX12_trayFault_7 (v := 1) rfl ?_
    refine g_goto (pc := 8) C dX12_trayFault_8 (tgt := 26) rfl ?_
    exact g_iret (pc := 26) C hlk hr (Nat.le_refl _) (Nat.le_refl _) dX12_trayFault_26 h
def w_X12_whyLull (a0 : Nat) (a1 : Int64) (K : Int32 → Wd → Prop) (w : Wd) : Prop :=
  isK w a0 12 ∧ w_X12_isWell a0 a1 (fun r2 w3 => ((r2 = 0 → K 1 w3) ∧ (¬ r2 = 0 → isK w3 a0 12 ∧ w_X12_isUp a0 a1.toInt32 (fun r6 w7 => ((r6 = 0 → K 2 w7) ∧ (¬ r6 = 0 → isK w7 a0 12 ∧ isK w7 (wR w7 a0 0) 20 ∧ vp_in (37 + a1.toInt32) (wn w7 (wR w7 a0 0)) ∧ vp_in (27 + a1.toInt32) (wn w7 (wR w7 a0 0)) ∧ (((wI w7 (wR w7 a0 0) (37 + a1.toInt32).toNatClampNeg) = (wI w7 (wR w7 a0 0) (27 + a1.toInt32).toNatClampNeg) → K 3 w7) ∧ (¬ (wI w7 (wR w7 a0 0) (37 + a1.toInt32).toNatClampNeg) = (wI w7 (wR w7 a0 0) (27 + a1.toInt32).toNatClampNeg) → K 0 w7))))) w3))) w
theorem c_X12_whyLull {x : xG} {l : Launch} {a0 : Nat} {a1 : Int64} {K : Int32 → Wd → Prop} {w : Wd} (h : w_X12_whyLull a0 a1 K w) : Met l yX12_whyLull (xws yX12_whyLull cX12_whyLull 3 (some .int)) (rmd 3 0 0) (xPc x [.ref (adr x a0), .long a1] w) (QcI x K) 0 0 (xA x) := by
  refine xMet (by decide) (Nat.le_of_ble_eq_true rfl) (fun p e s m below meth c C hlk hr _ => ?_)
  show GW x p l e (rmd 3 0 0) s m [.ref (adr x a0), .long a1].toArray below meth c 3 (QI x K below [.ref (adr x a0), .long a1].toArray s 0 0) 0 [(0, .ref (adr x a0)), (1, .long a1)] [] w 0 0
  refine g_aload_n (pc := 0) C dX12_whyLull_0 (q := 0) rfl ?_
  refine g_lload_n (pc := 1) C dX12_whyLull_1 (q := 1) rfl ?_
  obtain ⟨k1, h⟩ := h
  refine miX12_302 (pc := 2) C k1 h (Nat.le_of_ble_eq_true rfl) (Nat.le_of_ble_eq_true rfl) ⟨Nat.le_refl _, Nat.le_refl _⟩ dX12_whyLull_2 (fun r2 w3 h => ?_)
  refine g_if_ne (pc := 5) C dX12_whyLull_5 (tgt := 10) rfl (fun z4 => ?_) (fun z4 => ?_)
  · replace h := h.2 z4
    refine g_aload_n (pc := 10) C dX12_whyLull_10 (q := 0) rfl ?_
    refine g_lload_n (pc := 11) C dX12_whyLull_11 (q := 1) rfl ?_
    refine g_l2i (pc := 12) C dX12_whyLull_12 ?_
    obtain ⟨k5, h⟩ := h
    refine miX12_271 (pc := 13) C k5 h (Nat.le_of_ble_eq_true rfl) (Nat.le_of_ble_eq_true rfl) ⟨Nat.le_refl _, Nat.le_refl _⟩ dX12_whyLull_13 (fun r6 w7 h => ?_)
    refine g_if_ne (pc := 16) C dX12_whyLull_16 (tgt := 21) rfl (fun z8 => ?_) (fun z8 => ?_)
    · replace h := h.2 z8
      refine g_aload_n (pc := 21) C dX12_whyLull_21 (q := 0) rfl ?_
      obtain ⟨k9, h⟩ := h
      obtain ⟨k10, h⟩ := h
      refine gfX12_9 (pc := 22) C k9 (isK_ne k10) dX12_whyLull_22 ?_
      refine g_bipush (pc := 25) C dX12_whyLull_25 (v := 37) rfl ?_
      refine g_lload_n (pc := 27) C dX12_whyLull_27 (q := 1) rfl ?_
      refine g_l2i (pc := 28) C dX12_whyLull_28 ?_
      refine g_iadd (pc := 29) C dX12_whyLull_29 ?_
      obtain ⟨k11, h⟩ := h
      refine g_iald (pc := 30) C k10 k11 dX12_whyLull_30 ?_
      refine g_aload_n (pc := 31) C dX12_whyLull_31 (q := 0) rfl ?_
      refine gfX12_9 (pc := 32) C k9 (isK_ne k10) dX12_whyLull_32 ?_
      refine g_bipush (pc := 35) C dX12_whyLull_35 (v := 27) rfl ?_
      refine g_lload_n (pc := 37) C dX12_whyLull_37 (q := 1) rfl ?_
      refine g_l2i (pc := 38) C dX12_whyLull_38 ?_
      refine g_iadd (pc := 39) C dX12_whyLull_39 ?_
      obtain ⟨k12, h⟩ := h
      refine g_iald (pc := 40) C k10 k12 dX12_whyLull_40 ?_
      refine g_icmp_ne (pc := 41) C dX12_whyLull_41 (tgt := 48) rfl (fun z13 => ?_) (fun z13 => ?_)
      · replace h := h.2 z13
        refine g_iconst (pc := 48) C dX12_whyLull_48 (v := 0) rfl ?_
        exact g_iret (pc := 49) C hlk hr (Nat.le_refl _) (Nat.le_refl _) dX12_whyLull_49 h
      · replace h := h.1 z13
        refine g_iconst (pc := 44) C dX12_whyLull_44 (v := 3) rfl ?_
        refine g_goto (pc := 45) C dX12_whyLull_45 (tgt := 49) rfl ?_
        exact g_iret (pc := 49) C hlk hr (Nat.le_refl _) (Nat.le_refl _) dX12_whyLull_49 h
    · replace h := h.1 z8
      refine g_iconst (pc := 19) C dX12_whyLull_19 (v := 2) rfl ?_
      exact g_iret (pc := 20) C hlk hr (Nat.le_refl _) (Nat.le_refl _) dX12_whyLull_20 h
  · replace h := h.1 z4
    refine g_iconst (pc := 8) C dX12_whyLull_8 (v := 1) rfl ?_
    exact g_iret (pc := 9) C hlk hr (Nat.le_refl _) (Nat.le_refl _) dX12_whyLull_9 h
theorem miX12_335 (C : xC x p s m c cc nL args RX12) {a0 : Nat} {a1 : Int64} {K : Int32 → Wd → Prop} {D MC MS : Nat} (hq : isK w a0 12) (h : w_X12_whyLull a0 a1 K w) (hD : 3 + 1 ≤ D) (hW : (st.map fun v => v.category).sum ≤ 8) (hij : i ≤ MC ∧ j ≤ MS) (hd : decode cc pc = .ok (.invokevirtual 335, 3)) (k : ∀ (r : Int32) (u : Wd), K r u → GW x p l e (rmd D MC MS) s m args below meth c nL Q (pc + 3) lo (.int r :: st) u i j) : GW x p l e (rmd D MC MS) s m args below meth c nL Q pc lo (.long a1 :: .ref (adr x a0) :: st) w i j := g_callVi0 C (As := [.long a1]) (ci := 12) (c_X12_whyLull h) (x_cwV C 1 LMX12_335 ⟨rfl, by decide, by decide, rfl⟩ hD (by decide)) rfl hq (by decide) rfl rfl hW hd hij k
def w_X12_whyTold (a0 : Nat) (a1 : Int64) (K : Int32 → Wd → Prop) (w : Wd) : Prop :=
  (((lg_cmp a1 (-1)) = 0 → K 0 w) ∧ (¬ (lg_cmp a1 (-1)) = 0 → (((lg_cmp a1 3000) = 0 → K 0 w) ∧ (¬ (lg_cmp a1 3000) = 0 → w_X12_within a1 0 999 (fun r3 w4 => ((r3 = 0 → w_X12_within a1 2000 2099 (fun r6 w7 => ((r6 = 0 → w_X12_within a1 2100 2199 (fun r9 w10 => ((r9 = 0 → K 1 w10) ∧ (¬ r9 = 0 → isK w10 a0 12 ∧ w_X12_whyCoin a0 (a1 - 2100) (fun r13 w14 => K r13 w14) w10))) w7) ∧ (¬ r6 = 0 → isK w7 a0 12 ∧ w_X12_whyLull a0 (a1 - 2000) (fun r16 w17 => K r16 w17) w7))) w4) ∧ (¬ r3 = 0 → isK w4 a0 12 ∧ w_X12_whyDraw a0 (a1 / 100) (x_lrem a1 100) (fun r19 w20 => K r19 w20) w4))) w))))
theorem c_X12_whyTold {x : xG} {l : Launch} {a0 : Nat} {a1 : Int64} {K : Int32 → Wd → Prop} {w : Wd} (h : w_X12_whyTold a0 a1 K w) : Met l yX12_whyTold (xws yX12_whyTold cX12_whyTold 3 (some .int)) (rmd 4 0 0) (xPc x [.ref (adr x a0), .long a1] w) (QcI x K) 0 0 (xA x) := by
  refine xMet (by decide) (Nat.le_of_ble_eq_true rfl) (fun p e s m below meth c C hlk hr _ => ?_)
  show GW x p l e (rmd 4 0 0) s m [.ref (adr x a0), .long a1].toArray below meth c 3 (QI x K below [.ref (adr x a0), .long a1].toArray s 0 0) 0 [(0, .ref (adr x a0)), (1, .long a1)] [] w 0 0
  refine g_lload_n (pc := 0) C dX12_whyTold_0 (q := 1) rfl ?_
  refine g_ldc2 (pc := 1) C LCX12_354 dX12_whyTold_1 ?_
  refine g_lcmp (pc := 4) C dX12_whyTold_4 ?_
  refine g_if_eq (pc := 5) C dX12_whyTold_5 (tgt := 16) rfl (fun z1 => ?_) (fun z1 => ?_)
  · replace h := h.1 z1
    refine g_iconst (pc := 16) C dX12_whyTold_16 (v := 0) rfl ?_
    exact g_iret (pc := 17) C hlk hr (Nat.le_refl _) (Nat.le_refl _) dX12_whyTold_17 h
  · replace h := h.2 z1
    refine g_lload_n (pc := 8) C dX12_whyTold_8 (q := 1) rfl ?_
    refine g_ldc2 (pc := 9) C LCX12_356 dX12_whyTold_9 ?_
    refine g_lcmp (pc := 12) C dX12_whyTold_12 ?_
    refine g_if_ne (pc := 13) C dX12_whyTold_13 (tgt := 18) rfl (fun z2 => ?_) (fun z2 => ?_)
    · replace h := h.2 z2
      refine g_lload_n (pc := 18) C dX12_whyTold_18 (q := 1) rfl ?_
      refine g_lconst (pc := 19) C dX12_whyTold_19 (v := 0) rfl ?_
      refine g_ldc2 (pc := 20) C LCX12_358 dX12_whyTold_20 ?_
      refine miX12_119 (pc := 23) C h (Nat.le_of_ble_eq_true rfl) (Nat.le_of_ble_eq_true rfl) ⟨Nat.le_refl _, Nat.le_refl _⟩ dX12_whyTold_23 (fun r3 w4 h => ?_)
      refine g_if_eq (pc := 26) C dX12_whyTold_26 (tgt := 44) rfl (fun z5 => ?_) (fun z5 => ?_)
      · replace h := h.1 z5
        refine g_lload_n (pc := 44) C dX12_whyTold_44 (q := 1) rfl ?_
        refine g_ldc2 (pc := 45) C LCX12_362 dX12_whyTold_45 ?_
        refine g_ldc2 (pc := 48) C LCX12_364 dX12_whyTold_48 ?_
        refine miX12_119 (pc := 51) C h (Nat.le_of_ble_eq_true rfl) (Nat.le_of_ble_eq_true rfl) ⟨Nat.le_refl _, Nat.le_refl _⟩ dX12_whyTold_51 (fun r6 w7 h => ?_)
        refine g_if_eq (pc := 54) C dX12_whyTold_54 (tgt := 67) rfl (fun z8 => ?_) (fun z8 => ?_)
        · replace h := h.1 z8
          refine g_lload_n (pc := 67) C dX12_whyTold_67 (q := 1) rfl ?_
          refine g_ldc2 (pc := 68) C LCX12_366 dX12_whyTold_68 ?_
          refine g_ldc2 (pc := 71) C LCX12_368 dX12_whyTold_71 ?_
          refine miX12_119 (pc := 74) C h (Nat.le_of_ble_eq_true rfl) (Nat.le_of_ble_eq_true rfl) ⟨Nat.le_refl _, Nat.le_refl _⟩ dX12_whyTold_74 (fun r9 w10 h => ?_)
          refine g_if_eq (pc := 77) C dX12_whyTold_77 (tgt := 92) rfl (fun z11 => ?_) (fun z11 => ?_)
          · replace h := h.1 z11
            refine g_iconst (pc := 92) C dX12_whyTold_92 (v := 1) rfl ?_
            exact g_iret (pc := 93) C hlk hr (Nat.le_refl _) (Nat.le_refl _) dX12_whyTold_93 h
          · replace h := h.2 z11
            refine g_aload_n (pc := 80) C dX12_whyTold_80 (q := 0) rfl ?_
            refine g_lload_n (pc := 81) C dX12_whyTold_81 (q := 1) rfl ?_
            refine g_ldc2 (pc := 82) C LCX12_366 dX12_whyTold_82 ?_
            refine g_lsub (pc := 85) C dX12_whyTold_85 ?_
            obtain ⟨k12, h⟩ := h
            refine miX12_338 (pc := 86) C k12 h (Nat.le_of_ble_eq_true rfl) (Nat.le_of_ble_eq_true rfl) ⟨Nat.le_refl _, Nat.le_refl _⟩ dX12_whyTold_86 (fun r13 w14 h => ?_)
            refine g_goto (pc := 89) C dX12_whyTold_89 (tgt := 93) rfl ?_
            exact g_iret (pc := 93) C hlk hr (Nat.le_refl _) (Nat.le_refl _) dX12_whyTold_93 h
        · replace h := h.2 z8
          refine g_aload_n (pc := 57) C dX12_whyTold_57 (q := 0) rfl ?_
          refine g_lload_n (pc := 58) C dX12_whyTold_58 (q := 1) rfl ?_
          refine g_ldc2 (pc := 59) C LCX12_362 dX12_whyTold_59 ?_
          refine g_lsub (pc := 62) C dX12_whyTold_62 ?_
          obtain ⟨k15, h⟩ := h
          refine miX12_335 (pc := 63) C k15 h (Nat.le_of_ble_eq_true rfl) (Nat.le_of_ble_eq_true rfl) ⟨Nat.le_refl _, Nat.le_refl _⟩ dX12_whyTold_63 (fun r16 w17 h => ?_)
          exact g_iret (pc := 66) C hlk hr (Nat.le_refl _) (Nat.le_refl _) dX12_whyTold_66 h
      · replace h := h.2 z5
        refine g_aload_n (pc := 29) C dX12_whyTold_29 (q := 0) rfl ?_
        refine g_lload_n (pc := 30) C dX12_whyTold_30 (q := 1) rfl ?_
        refine g_ldc2 (pc := 31) C LCX12_360 dX12_whyTold_31 ?_
        refine g_ldiv (pc := 34) C dX12_whyTold_34 (by decide) ?_
        refine g_lload_n (pc := 35) C dX12_whyTold_35 (q := 1) rfl ?_
        refine g_ldc2 (pc := 36) C LCX12_360 dX12_whyTold_36 ?_
        refine h_lrem (pc := 39) C dX12_whyTold_39 (by decide) ?_
        obtain ⟨k18, h⟩ := h
        refine miX12_325 (pc := 40) C k18 h (Nat.le_of_ble_eq_true rfl) (Nat.le_of_ble_eq_true rfl) ⟨Nat.le_refl _, Nat.le_refl _⟩ dX12_whyTold_40 (fun r19 w20 h => ?_)
        exact g_iret (pc := 43) C hlk hr (Nat.le_refl _) (Nat.le_refl _) dX12_whyTold_43 h
    · replace h := h.1 z2
      refine g_iconst (pc := 16) C dX12_whyTold_16 (v := 0) rfl ?_
      exact g_iret (pc := 17) C hlk hr (Nat.le_refl _) (Nat.le_refl _) dX12_whyTold_17 h
theorem miX12_370 (C : xC x p s m c cc nL args RX12) {a0 : Nat} {a1 : Int32} {K : Int32 → Wd → Prop} {D MC MS : Nat} (hq : isK w a0 12) (h : w_X12_trayFault a0 a1 K w) (hD : 2 + 1 ≤ D) (hW : (st.map fun v => v.category).sum ≤ 8) (hij : i ≤ MC ∧ j ≤ MS) (hd : decode cc pc = .ok (.invokevirtual 370, 3)) (k : ∀ (r : Int32) (u : Wd), K r u → GW x p l e (rmd D MC MS) s m args below meth c nL Q (pc + 3) lo (.int r :: st) u i j) : GW x p l e (rmd D MC MS) s m args below meth c nL Q pc lo (.int a1 :: .ref (adr x a0) :: st) w i j := g_callVi0 C (As := [.int a1]) (ci := 12) (c_X12_trayFault h) (x_cwV C 1 LMX12_370 ⟨rfl, by decide, by decide, rfl⟩ hD (by decide)) rfl hq (by decide) rfl rfl hW hd hij k
theorem miX12_378 (C : xC x p s m c cc nL args RX12) {a0 : Nat} {a1 : Int64} {K : Int32 → Wd → Prop} {D MC MS : Nat} (hq : isK w a0 12) (h : w_X12_whyTold a0 a1 K w) (hD : 4 + 1 ≤ D) (hW : (st.map fun v => v.category).sum ≤ 8) (hij : i ≤ MC ∧ j ≤ MS) (hd : decode cc pc = .ok (.invokevirtual 378, 3)) (k : ∀ (r : Int32) (u : Wd), K r u → GW x p l e (rmd D MC MS) s m args below meth c nL Q (pc + 3) lo (.int r :: st) u i j) : GW x p l e (rmd D MC MS) s m args below meth c nL Q pc lo (.long a1 :: .ref (adr x a0) :: st) w i j := g_callVi0 C (As := [.long a1]) (ci := 12) (c_X12_whyTold h) (x_cwV C 1 LMX12_378 ⟨rfl, by decide, by decide, rfl⟩ hD (by decide)) rfl hq (by decide) rfl rfl hW hd hij k
theorem miX12_381 (C : xC x p s m c cc nL args RX12) {a0 : Nat} {a1 : Int32} {K : Wd → Prop} {D MC MS : Nat} (hq : isK w a0 12) (h : w_X12_does a0 a1 K w) (hD : 7 + 1 ≤ D) (hW : (st.map fun v => v.category).sum ≤ 8) (hij : i ≤ MC ∧ j ≤ MS) (hd : decode cc pc = .ok (.invokevirtual 381, 3)) (k : ∀ (u : Wd), K u → GW x p l e (rmd D MC MS) s m args below meth c nL Q (pc + 3) lo st u i j) : GW x p l e (rmd D MC MS) s m args below meth c nL Q pc lo (.int a1 :: .ref (adr x a0) :: st) w i j := g_callVv0 C (As := [.int a1]) (ci := 12) (c_X12_does h) (x_cwV C 1 LMX12_381 ⟨rfl, by decide, by decide, rfl⟩ hD (by decide)) rfl hq (by decide) rfl rfl hW hd hij k
def l_X12_judge_54 (E122 : Nat → Int32 → Int32 → Int32 → Wd → Prop) (K : Int32 → Wd → Prop) : Nat → Nat → Int32 → Int32 → Int32 → Int32 → Int32 → Wd → Prop
  | 0, _, _, _, _, _, _, _ => False
  | n + 1, a0, a1, a2, a3, a4, a5, w => isK w a0 12 ∧ isK w (wR w a0 27) 20 ∧ vp_in a1 (wn w (wR w a0 27)) ∧ (((wI w (wR w a0 27) a1.toNatClampNeg) ≤ a5 → E122 a0 a2 a3 a4 w) ∧ (¬ (wI w (wR w a0 27) a1.toNatClampNeg) ≤ a5 → ((a3 = (-1) → isK w (wR w a0 28) 21 ∧ vp_in ((30 * a1) + a5) (wn w (wR w a0 28)) ∧ w_X12_whyTold a0 (wL w (wR w a0 28) ((30 * a1) + a5).toNatClampNeg) (fun r16 w17 => ((r16 = 0 → isK w17 a0 12 ∧ isK w17 (wR w17 a0 28) 21 ∧ vp_in ((30 * a1) + a5) (wn w17 (wR w17 a0 28)) ∧ w_X12_does a0 ((wL w17 (wR w17 a0 28) ((30 * a1) + a5).toNatClampNeg).toInt32) (fun w22 => l_X12_judge_54 E122 K n a0 a1 a2 a3 r16 (a5 + 1) w22) w17) ∧ (¬ r16 = 0 → l_X12_judge_54 E122 K n a0 a1 a2 a5 r16 (a5 + 1) w17))) w) ∧ (¬ a3 = (-1) → E122 a0 a2 a3 a4 w))))
def j_X12_judge_122  (K : Int32 → Wd → Prop) (a0 : Nat) (a2 : Int32) (a3 : Int32) (a4 : Int32) (w : Wd) : Prop :=
  isK w a0 12 ∧ w_X12_waterAll a0 (fun r29 w30 => isK w30 a0 12 ∧ w_X12_upIn a0 0 (fun r32 w33 => isK w33 a0 12 ∧ w_X12_putsBack a0 (fun w35 => ((a2 = 0 → K a3 w35) ∧ (¬ a2 = 0 → ((a2 = 1 → K a4 w35) ∧ (¬ a2 = 1 → ((a2 = 2 → K r29 w35) ∧ (¬ a2 = 2 → K r32 w35))))))) w33) w30) w
def j_X12_judge_33  (K : Int32 → Wd → Prop) (a0 : Nat) (a1 : Int32) (a2 : Int32) (w : Wd) : Prop :=
  isK w a0 12 ∧ (((wI w a0 4) ≤ 0 → w_X12_putsAside a0 (fun w8 => ∃ n39, l_X12_judge_54 (fun b23 b24 b25 b26 w27 => j_X12_judge_122 K b23 b24 b25 b26 w27) K n39 a0 a1 a2 (-1) 0 0 w8) w) ∧ (¬ (wI w a0 4) ≤ 0 → K 0 w))
def w_X12_judge (a0 : Nat) (a1 : Int32) (a2 : Int32) (K : Int32 → Wd → Prop) (w : Wd) : Prop :=
  isK w a0 12 ∧ w_X12_trayFault a0 a1 (fun r2 w3 => isK w3 a0 12 ∧ (((wI (uI w3 a0 4 r2) a0 4) = 0 → w_X12_within a2.toInt64 0 3 (fun r40 w41 => ((r40 = 0 → isK w41 a0 12 ∧ j_X12_judge_33 K a0 a1 a2 (uI w41 a0 4 3)) ∧ (¬ r40 = 0 → j_X12_judge_33 K a0 a1 a2 w41))) (uI w3 a0 4 r2)) ∧ (¬ (wI (uI w3 a0 4 r2) a0 4) = 0 → j_X12_judge_33 K a0 a1 a2 (uI w3 a0 4 r2)))) w
theorem t_X12_judge_54 (C : xC x p s m c cX12_judge 7 args RX12) (hlk : meth.locks = false) (hr : meth.sig.returnType = some .int) {K : Int32 → Wd → Prop} {E122 : Nat → Int32 → Int32 → Int32 → Wd → Prop} (hE122 : ∀ (b0 : Nat) (b2 : Int32) (b3 : Int32) (b4 : Int32) (w : Wd), E122 b0 b2 b3 b4 w → GW x p l e (rmd 8 0 0) s m args below meth c 7 (QI x K below args s 0 0) 122 [(0, .ref (adr x b0)), (2, .int b2), (3, .int b3), (4, .int b4)] [] w 0 0) : ∀ (n : Nat) (a0 : Nat) (a1 : Int32) (a2 : Int32) (a3 : Int32) (a4 : Int32) (a5 : Int32) (w : Wd), l_X12_judge_54 E122 K n a0 a1 a2 a3 a4 a5 w → GW x p l e (rmd 8 0 0) s m args below meth c 7 (QI x K below args s 0 0) 54 [(0, .ref (adr x a0)), (1, .int a1), (2, .int a2), (3, .int a3), (4, .int a4), (5, .int a5)] [] w 0 0 := by
  intro n
  induction n with
  | zero => intro _ _ _ _ _ _ _ h; exact False.elim h
  | succ n ih =>
    intro a0 a1 a2 a3 a4 a5 w h
    refine g_iload (pc := 54) C dX12_judge_54 (q := 5) rfl ?_
    refine g_aload_n (pc := 56) C dX12_judge_56 (q := 0) rfl ?_
    obtain ⟨k9, h⟩ := h
    obtain ⟨k10, h⟩ := h
    refine gfX12_52 (pc := 57) C k9 (isK_ne k10) dX12_judge_57 ?_
    refine g_iload_n (pc := 60) C dX12_judge_60 (q := 1) rfl ?_
    obtain ⟨k11, h⟩ := h
    refine g_iald (pc := 61) C k10 k11 dX12_judge_61 ?_
    refine g_icmp_ge (pc := 62) C dX12_judge_62 (tgt := 122) rfl (fun z12 => ?_) (fun z12 => ?_)
    · replace h := h.1 z12
      refine g_sub [0, 2, 3, 4] rfl ?_
      exact hE122 _ _ _ _ _ h
    · replace h := h.2 z12
      refine g_iload_n (pc := 65) C dX12_judge_65 (q := 3) rfl ?_
      refine g_iconst (pc := 66) C dX12_judge_66 (v := (-1)) rfl ?_
      refine g_icmp_ne (pc := 67) C dX12_judge_67 (tgt := 122) rfl (fun z13 => ?_) (fun z13 => ?_)
      · replace h := h.2 z13
        refine g_sub [0, 2, 3, 4] rfl ?_
        exact hE122 _ _ _ _ _ h
      · replace h := h.1 z13
        refine g_aload_n (pc := 70) C dX12_judge_70 (q := 0) rfl ?_
        refine g_aload_n (pc := 71) C dX12_judge_71 (q := 0) rfl ?_
        obtain ⟨k14, h⟩ := h
        refine gfX12_55 (pc := 72) C k9 (isK_ne k14) dX12_judge_72 ?_
        refine g_bipush (pc := 75) C dX12_judge_75 (v := 30) rfl ?_
        refine g_iload_n (pc := 77) C dX12_judge_77 (q := 1) rfl ?_
        refine g_imul (pc := 78) C dX12_judge_78 ?_
        refine g_iload (pc := 79) C dX12_judge_79 (q := 5) rfl ?_
        refine g_iadd (pc := 81) C dX12_judge_81 ?_
        obtain ⟨k15, h⟩ := h
        refine g_lald (pc := 82) C k14 k15 dX12_judge_82 ?_
        refine miX12_378 (pc := 83) C k9 h (Nat.le_of_ble_eq_true rfl) (Nat.le_of_ble_eq_true rfl) ⟨Nat.le_refl _, Nat.le_refl _⟩ dX12_judge_83 (fun r16 w17 h => ?_)
        refine g_istore (pc := 86) C dX12_judge_86 (Nat.le_of_ble_eq_true rfl) (lo' := [(4, .int r16), (0, .ref (adr x a0)), (1, .int a1), (2, .int a2), (3, .int a3), (5, .int a5)]) rfl ?_
        refine g_iload (pc := 88) C dX12_judge_88 (q := 0) rfl ?_
        refine g_if_ne (pc := 90) C dX12_judge_90 (tgt := 113) rfl (fun z18 => ?_) (fun z18 => ?_)
        · replace h := h.2 z18
          refine g_iload (pc := 113) C dX12_judge_113 (q := 5) rfl ?_
          refine g_istore_n (pc := 115) C dX12_judge_115 (Nat.le_of_ble_eq_true rfl) (lo' := [(3, .int a5), (4, .int r16), (0, .ref (adr x a0)), (1, .int a1), (2, .int a2), (5, .int a5)]) rfl ?_
          refine g_iinc (pc := 116) C dX12_judge_116 (q := 5) rfl (v2 := a5 + 1) rfl (Nat.le_of_ble_eq_true rfl) (lo' := [(5, .int (a5 + 1)), (3, .int a5), (4, .int r16), (0, .ref (adr x a0)), (1, .int a1), (2, .int a2)]) rfl ?_
          refine g_goto (pc := 119) C dX12_judge_119 (tgt := 54) rfl ?_
          refine g_sub [3, 4, 5, 1, 2, 0] rfl ?_
          exact ih _ _ _ _ _ _ _ h
        · replace h := h.1 z18
          refine g_aload_n (pc := 93) C dX12_judge_93 (q := 1) rfl ?_
          refine g_aload_n (pc := 94) C dX12_judge_94 (q := 1) rfl ?_
          obtain ⟨k19, h⟩ := h
          obtain ⟨k20, h⟩ := h
          refine gfX12_55 (pc := 95) C k19 (isK_ne k20) dX12_judge_95 ?_
          refine g_bipush (pc := 98) C dX12_judge_98 (v := 30) rfl ?_
          refine g_iload_n (pc := 100) C dX12_judge_100 (q := 2) rfl ?_
          refine g_imul (pc := 101) C dX12_judge_101 ?_
          refine g_iload (pc := 102) C dX12_judge_102 (q := 5) rfl ?_
          refine g_iadd (pc := 104) C dX12_judge_104 ?_
          obtain ⟨k21, h⟩ := h
          refine g_lald (pc := 105) C k20 k21 dX12_judge_105 ?_
          refine g_l2i (pc := 106) C dX12_judge_106 ?_
          refine miX12_381 (pc := 107) C k19 h (Nat.le_of_ble_eq_true rfl) (Nat.le_of_ble_eq_true rfl) ⟨Nat.le_refl _, Nat.le_refl _⟩ dX12_judge_107 (fun w22 h => ?_)
          refine g_goto (pc := 110) C dX12_judge_110 (tgt := 116) rfl ?_
          refine g_iinc (pc := 116) C dX12_judge_116 (q := 5) rfl (v2 := a5 + 1) rfl (Nat.le_of_ble_eq_true rfl) (lo' := [(5, .int (a5 + 1)), (4, .int r16), (0, .ref (adr x a0)), (1, .int a1), (2, .int a2), (3, .int a3)]) rfl ?_
          refine g_goto (pc := 119) C dX12_judge_119 (tgt := 54) rfl ?_
          refine g_sub [2, 3, 4, 5, 1, 0] rfl ?_
          exact ih _ _ _ _ _ _ _ h
theorem t_X12_judge_122 (C : xC x p s m c cX12_judge 7 args RX12) (hlk : meth.locks = false) (hr : meth.sig.returnType = some .int) {K : Int32 → Wd → Prop}   (a0 : Nat) (a2 : Int32) (a3 : Int32) (a4 : Int32) (w : Wd) (h : j_X12_judge_122 K a0 a2 a3 a4 w) : GW x p l e (rmd 8 0 0) s m args below meth c 7 (QI x K below args s 0 0) 122 [(0, .ref (adr x a0)), (2, .int a2), (3, .int a3), (4, .int a4)] [] w 0 0 := by
  refine g_aload_n (pc := 122) C dX12_judge_122 (q := 0) rfl ?_
  obtain ⟨k28, h⟩ := h
  refine miX12_311 (pc := 123) C k28 h (Nat.le_of_ble_eq_true rfl) (Nat.le_of_ble_eq_true rfl) ⟨Nat.le_refl _, Nat.le_refl _⟩ dX12_judge_123 (fun r29 w30 h => ?_)
  refine g_istore (pc := 126) C dX12_judge_126 (Nat.le_of_ble_eq_true rfl) (lo' := [(5, .int r29), (0, .ref (adr x a0)), (2, .int a2), (3, .int a3), (4, .int a4)]) rfl ?_
  refine g_aload_n (pc := 128) C dX12_judge_128 (q := 1) rfl ?_
  refine g_iconst (pc := 129) C dX12_judge_129 (v := 0) rfl ?_
  obtain ⟨k31, h⟩ := h
  refine miX12_294 (pc := 130) C k31 h (Nat.le_of_ble_eq_true rfl) (Nat.le_of_ble_eq_true rfl) ⟨Nat.le_refl _, Nat.le_refl _⟩ dX12_judge_130 (fun r32 w33 h => ?_)
  refine g_istore (pc := 133) C dX12_judge_133 (Nat.le_of_ble_eq_true rfl) (lo' := [(6, .int r32), (5, .int r29), (0, .ref (adr x a0)), (2, .int a2), (3, .int a3), (4, .int a4)]) rfl ?_
  refine g_aload_n (pc := 135) C dX12_judge_135 (q := 2) rfl ?_
  obtain ⟨k34, h⟩ := h
  refine miX12_384 (pc := 136) C k34 h (Nat.le_of_ble_eq_true rfl) (Nat.le_of_ble_eq_true rfl) ⟨Nat.le_refl _, Nat.le_refl _⟩ dX12_judge_136 (fun w35 h => ?_)
  refine g_iload_n (pc := 139) C dX12_judge_139 (q := 3) rfl ?_
  refine g_if_ne (pc := 140) C dX12_judge_140 (tgt := 147) rfl (fun z36 => ?_) (fun z36 => ?_)
  · replace h := h.2 z36
    refine g_iload_n (pc := 147) C dX12_judge_147 (q := 3) rfl ?_
    refine g_iconst (pc := 148) C dX12_judge_148 (v := 1) rfl ?_
    refine g_icmp_ne (pc := 149) C dX12_judge_149 (tgt := 157) rfl (fun z37 => ?_) (fun z37 => ?_)
    · replace h := h.2 z37
      refine g_iload_n (pc := 157) C dX12_judge_157 (q := 3) rfl ?_
      refine g_iconst (pc := 158) C dX12_judge_158 (v := 2) rfl ?_
      refine g_icmp_ne (pc := 159) C dX12_judge_159 (tgt := 167) rfl (fun z38 => ?_) (fun z38 => ?_)
      · replace h := h.2 z38
        refine g_iload (pc := 167) C dX12_judge_167 (q := 0) rfl ?_
        exact g_iret (pc := 169) C hlk hr (Nat.le_refl _) (Nat.le_refl _) dX12_judge_169 h
      · replace h := h.1 z38
        refine g_iload (pc := 162) C dX12_judge_162 (q := 1) rfl ?_
        refine g_goto (pc := 164) C dX12_judge_164 (tgt := 169) rfl ?_
        exact g_iret (pc := 169) C hlk hr (Nat.le_refl _) (Nat.le_refl _) dX12_judge_169 h
    · replace h := h.1 z37
      refine g_iload (pc := 152) C dX12_judge_152 (q := 5) rfl ?_
      refine g_goto (pc := 154) C dX12_judge_154 (tgt := 169) rfl ?_
      exact g_iret (pc := 169) C hlk hr (Nat.le_refl _) (Nat.le_refl _) dX12_judge_169 h
  · replace h := h.1 z36
    refine g_iload_n (pc := 143) C dX12_judge_143 (q := 4) rfl ?_
    refine g_goto (pc := 144) C dX12_judge_144 (tgt := 169) rfl ?_
    exact g_iret (pc := 169) C hlk hr (Nat.le_refl _) (Nat.le_refl _) dX12_judge_169 h
theorem t_X12_judge_33 (C : xC x p s m c cX12_judge 7 args RX12) (hlk : meth.locks = false) (hr : meth.sig.returnType = some .int) {K : Int32 → Wd → Prop}   (a0 : Nat) (a1 : Int32) (a2 : Int32) (w : Wd) (h : j_X12_judge_33 K a0 a1 a2 w) : GW x p l e (rmd 8 0 0) s m args below meth c 7 (QI x K below args s 0 0) 33 [(0, .ref (adr x a0)), (1, .int a1), (2, .int a2)] [] w 0 0 := by
  refine g_aload_n (pc := 33) C dX12_judge_33 (q := 0) rfl ?_
  obtain ⟨k6, h⟩ := h
  refine gfX12_58 (pc := 34) C k6 dX12_judge_34 ?_
  refine g_if_le (pc := 37) C dX12_judge_37 (tgt := 42) rfl (fun z7 => ?_) (fun z7 => ?_)
  · replace h := h.1 z7
    refine g_aload_n (pc := 42) C dX12_judge_42 (q := 0) rfl ?_
    refine miX12_375 (pc := 43) C k6 h (Nat.le_of_ble_eq_true rfl) (Nat.le_of_ble_eq_true rfl) ⟨Nat.le_refl _, Nat.le_refl _⟩ dX12_judge_43 (fun w8 h => ?_)
    refine g_iconst (pc := 46) C dX12_judge_46 (v := (-1)) rfl ?_
    refine g_istore_n (pc := 47) C dX12_judge_47 (Nat.le_of_ble_eq_true rfl) (lo' := [(3, .int (-1)), (0, .ref (adr x a0)), (1, .int a1), (2, .int a2)]) rfl ?_
    refine g_iconst (pc := 48) C dX12_judge_48 (v := 0) rfl ?_
    refine g_istore (pc := 49) C dX12_judge_49 (Nat.le_of_ble_eq_true rfl) (lo' := [(4, .int 0), (3, .int (-1)), (0, .ref (adr x a0)), (1, .int a1), (2, .int a2)]) rfl ?_
    refine g_iconst (pc := 51) C dX12_judge_51 (v := 0) rfl ?_
    refine g_istore (pc := 52) C dX12_judge_52 (Nat.le_of_ble_eq_true rfl) (lo' := [(5, .int 0), (4, .int 0), (3, .int (-1)), (0, .ref (adr x a0)), (1, .int a1), (2, .int a2)]) rfl ?_
    obtain ⟨n39, h⟩ := h
    refine g_sub [3, 4, 5, 2, 1, 0] rfl ?_
    refine t_X12_judge_54 C hlk hr ?_ n39 _ _ _ _ _ _ _ h
    · intro b23 b24 b25 b26 w27 h
      exact t_X12_judge_122 C hlk hr  _ _ _ _ _ h
  · replace h := h.2 z7
    refine g_iconst (pc := 40) C dX12_judge_40 (v := 0) rfl ?_
    exact g_iret (pc := 41) C hlk hr (Nat.le_refl _) (Nat.le_refl _) dX12_judge_41 h
theorem c_X12_judge {x : xG} {l : Launch} {a0 : Nat} {a1 : Int32} {a2 : Int32} {K : Int32 → Wd → Prop} {w : Wd} (h : w_X12_judge a0 a1 a2 K w) : Met l yX12_judge (xws yX12_judge cX12_judge 7 (some .int)) (rmd 8 0 0) (xPc x [.ref (adr x a0), .int a1, .int a2] w) (QcI x K) 0 0 (xA x) := by
  refine xMet (by decide) (Nat.le_of_ble_eq_true rfl) (fun p e s m below meth c C hlk hr _ => ?_)
  show GW x p l e (rmd 8 0 0) s m [.ref (adr x a0), .int a1, .int a2].toArray below meth c 7 (QI x K below [.ref (adr x a0), .int a1, .int a2].toArray s 0 0) 0 [(0, .ref (adr x a0)), (1, .int a1), (2, .int a2)] [] w 0 0
  refine g_aload_n (pc := 0) C dX12_judge_0 (q := 0) rfl ?_
  refine g_aload_n (pc := 1) C dX12_judge_1 (q := 0) rfl ?_
  refine g_iload_n (pc := 2) C dX12_judge_2 (q := 1) rfl ?_
  obtain ⟨k1, h⟩ := h
  refine miX12_370 (pc := 3) C k1 h (Nat.le_of_ble_eq_true rfl) (Nat.le_of_ble_eq_true rfl) ⟨Nat.le_refl _, Nat.le_refl _⟩ dX12_judge_3 (fun r2 w3 h => ?_)
  obtain ⟨k4, h⟩ := h
  refine pfX12_58 (pc := 6) C k4 dX12_judge_6 ?_
  refine g_aload_n (pc := 9) C dX12_judge_9 (q := 0) rfl ?_
  refine gfX12_58 (pc := 10) (w := uI w3 a0 4 r2) C k4 dX12_judge_10 ?_
  refine g_if_ne (pc := 13) C dX12_judge_13 (tgt := 33) rfl (fun z5 => ?_) (fun z5 => ?_)
  · replace h := h.2 z5
    exact t_X12_judge_33 C hlk hr  _ _ _ _ h
  · replace h := h.1 z5
    refine g_iload_n (pc := 16) C dX12_judge_16 (q := 2) rfl ?_
    refine g_i2l (pc := 17) C dX12_judge_17 ?_
    refine g_lconst (pc := 18) C dX12_judge_18 (v := 0) rfl ?_
    refine g_ldc2 (pc := 19) C LCX12_373 dX12_judge_19 ?_
    refine miX12_119 (pc := 22) (w := uI w3 a0 4 r2) C h (Nat.le_of_ble_eq_true rfl) (Nat.le_of_ble_eq_true rfl) ⟨Nat.le_refl _, Nat.le_refl _⟩ dX12_judge_22 (fun r40 w41 h => ?_)
    refine g_if_ne (pc := 25) C dX12_judge_25 (tgt := 33) rfl (fun z42 => ?_) (fun z42 => ?_)
    · replace h := h.2 z42
      exact t_X12_judge_33 C hlk hr  _ _ _ _ h
    · replace h := h.1 z42
      refine g_aload_n (pc := 28) C dX12_judge_28 (q := 0) rfl ?_
      refine g_iconst (pc := 29) C dX12_judge_29 (v := 3) rfl ?_
      obtain ⟨k43, h⟩ := h
      refine pfX12_58 (pc := 30) C k43 dX12_judge_30 ?_
      exact t_X12_judge_33 C hlk hr  _ _ _ _ h
end ME
