/-! methods: X12_servedBy, X12_laysPlan, X12_wakersOf, X12_leastNoise, X12_level, X12_seenFault, X12_listen, X12_loudHour, X12_loudest, X12_lull, X12_numberOf, X12_perform, X12_plan, X12_quietHours, X12_quietWell, X12_quietest, X12_reachedBy, X12_restore, X12_roundAt, X12_seen, X12_served, X12_shield -/
section ME
variable {x : xG} {p : Program} {l : Launch} {e : Env} {R : Room} {s : State} {m : MethodId} {args : Array Value} {below : List Frame} {meth : Method} {c : Code} {Q : State → Prop} {cc : ByteArray} {nL : Nat} {pc : Nat} {lo : List (Nat × Value)} {st : List Value} {w : Wd} {i j : Nat}
theorem miX12_432 (C : xC x p s m c cc nL args RX12) {a0 : Nat} {a1 : Int32} {a2 : Int32} {K : Int32 → Wd → Prop} {D MC MS : Nat} (hq : isK w a0 12) (h : w_X12_finds a0 a1 a2 K w) (hD : 100 + 1 ≤ D) (hW : (st.map fun v => v.category).sum ≤ 8) (hij : i ≤ MC ∧ j ≤ MS) (hd : decode cc pc = .ok (.invokevirtual 432, 3)) (k : ∀ (r : Int32) (u : Wd), K r u → GW x p l e (rmd D MC MS) s m args below meth c nL Q (pc + 3) lo (.int r :: st) u i j) : GW x p l e (rmd D MC MS) s m args below meth c nL Q pc lo (.int a2 :: .int a1 :: .ref (adr x a0) :: st) w i j := g_callVi0 C (As := [.int a1, .int a2]) (ci := 12) (c_X12_finds h) (x_cwV C 2 LMX12_432 ⟨rfl, by decide, by decide, rfl⟩ hD (by decide)) rfl hq (by decide) rfl rfl hW hd hij k
def l_X12_servedBy_2 (E21 : Nat → Int32 → Wd → Prop) (K : Int32 → Wd → Prop) : Nat → Nat → Int32 → Int32 → Wd → Prop
  | 0, _, _, _, _ => False
  | n + 1, a0, a1, a2, w => ((40 < a2 → E21 a0 a1 w) ∧ (¬ 40 < a2 → isK w a0 12 ∧ isK w (wR w a0 22) 20 ∧ vp_in a2 (wn w (wR w a0 22)) ∧ l_X12_servedBy_2 E21 K n a0 a1 (a2 + 1) (uI w (wR w a0 22) a2.toNatClampNeg (-1))))
def l_X12_servedBy_25  (K : Int32 → Wd → Prop) : Nat → Nat → Int32 → Int32 → Int32 → Wd → Prop
  | 0, _, _, _, _, _ => False
  | n + 1, a0, a1, a2, a3, w => isK w a0 12 ∧ isK w (wR w a0 0) 20 ∧ vp_in 2 (wn w (wR w a0 0)) ∧ (((wI w (wR w a0 0) (2 : Int32).toNatClampNeg) ≤ a3 → K a2 w) ∧ (¬ (wI w (wR w a0 0) (2 : Int32).toNatClampNeg) ≤ a3 → w_X12_finds a0 a3 a1 (fun r12 w13 => ((r12 = 0 → l_X12_servedBy_25 K n a0 a1 (a2 + 0) (a3 + 1) w13) ∧ (¬ r12 = 0 → l_X12_servedBy_25 K n a0 a1 (a2 + 1) (a3 + 1) w13))) (uL w a0 24 0)))
def w_X12_servedBy (a0 : Nat) (a1 : Int32) (K : Int32 → Wd → Prop) (w : Wd) : Prop :=
  ∃ n16, l_X12_servedBy_2 (fun b5 b6 w7 => ∃ n15, l_X12_servedBy_25  K n15 b5 b6 0 0 w7) K n16 a0 a1 0 w
theorem t_X12_servedBy_2 (C : xC x p s m c cX12_servedBy 4 args RX12) (hlk : meth.locks = false) (hr : meth.sig.returnType = some .int) {K : Int32 → Wd → Prop} {E21 : Nat → Int32 → Wd → Prop} (hE21 : ∀ (b0 : Nat) (b1 : Int32) (w : Wd), E21 b0 b1 w → GW x p l e (rmd 101 0 0) s m args below meth c 4 (QI x K below args s 0 0) 21 [(0, .ref (adr x b0)), (1, .int b1)] [] w 0 0) : ∀ (n : Nat) (a0 : Nat) (a1 : Int32) (a2 : Int32) (w : Wd), l_X12_servedBy_2 E21 K n a0 a1 a2 w → GW x p l e (rmd 101 0 0) s m args below meth c 4 (QI x K below args s 0 0) 2 [(0, .ref (adr x a0)), (1, .int a1), (2, .int a2)] [] w 0 0 := by
  intro n
  induction n with
  | zero => intro _ _ _ _ h; exact False.elim h
  | succ n ih =>
    intro a0 a1 a2 w h
    refine g_iload_n (pc := 2) C dX12_servedBy_2 (q := 2) rfl ?_
    refine g_bipush (pc := 3) C dX12_servedBy_3 (v := 40) rfl ?_
    refine g_icmp_gt (pc := 5) C dX12_servedBy_5 (tgt := 21) rfl (fun z1 => ?_) (fun z1 => ?_)
    · replace h := h.1 z1
      refine g_sub [0, 1] rfl ?_
      exact hE21 _ _ _ h
    · replace h := h.2 z1
      refine g_aload_n (pc := 8) C dX12_servedBy_8 (q := 0) rfl ?_
      obtain ⟨k2, h⟩ := h
      obtain ⟨k3, h⟩ := h
      refine gfX12_43 (pc := 9) C k2 (isK_ne k3) dX12_servedBy_9 ?_
      refine g_iload_n (pc := 12) C dX12_servedBy_12 (q := 2) rfl ?_
      refine g_iconst (pc := 13) C dX12_servedBy_13 (v := (-1)) rfl ?_
      obtain ⟨k4, h⟩ := h
      refine g_iast (pc := 14) C k3 k4 dX12_servedBy_14 ?_
      refine g_iinc (pc := 15) C dX12_servedBy_15 (q := 2) rfl (v2 := a2 + 1) rfl (Nat.le_of_ble_eq_true rfl) (lo' := [(2, .int (a2 + 1)), (0, .ref (adr x a0)), (1, .int a1)]) rfl ?_
      refine g_goto (pc := 18) C dX12_servedBy_18 (tgt := 2) rfl ?_
      refine g_sub [1, 2, 0] rfl ?_
      exact ih _ _ _ _ h
theorem t_X12_servedBy_25 (C : xC x p s m c cX12_servedBy 4 args RX12) (hlk : meth.locks = false) (hr : meth.sig.returnType = some .int) {K : Int32 → Wd → Prop}   : ∀ (n : Nat) (a0 : Nat) (a1 : Int32) (a2 : Int32) (a3 : Int32) (w : Wd), l_X12_servedBy_25 K n a0 a1 a2 a3 w → GW x p l e (rmd 101 0 0) s m args below meth c 4 (QI x K below args s 0 0) 25 [(0, .ref (adr x a0)), (1, .int a1), (2, .int a2), (3, .int a3)] [] w 0 0 := by
  intro n
  induction n with
  | zero => intro _ _ _ _ _ h; exact False.elim h
  | succ n ih =>
    intro a0 a1 a2 a3 w h
    refine g_iload_n (pc := 25) C dX12_servedBy_25 (q := 3) rfl ?_
    refine g_aload_n (pc := 26) C dX12_servedBy_26 (q := 0) rfl ?_
    obtain ⟨k8, h⟩ := h
    obtain ⟨k9, h⟩ := h
    refine gfX12_9 (pc := 27) C k8 (isK_ne k9) dX12_servedBy_27 ?_
    refine g_iconst (pc := 30) C dX12_servedBy_30 (v := 2) rfl ?_
    obtain ⟨k10, h⟩ := h
    refine g_iald (pc := 31) C k9 k10 dX12_servedBy_31 ?_
    refine g_icmp_ge (pc := 32) C dX12_servedBy_32 (tgt := 63) rfl (fun z11 => ?_) (fun z11 => ?_)
    · replace h := h.1 z11
      refine g_iload_n (pc := 63) C dX12_servedBy_63 (q := 2) rfl ?_
      exact g_iret (pc := 64) C hlk hr (Nat.le_refl _) (Nat.le_refl _) dX12_servedBy_64 h
    · replace h := h.2 z11
      refine g_aload_n (pc := 35) C dX12_servedBy_35 (q := 0) rfl ?_
      refine g_lconst (pc := 36) C dX12_servedBy_36 (v := 0) rfl ?_
      refine pfX12_428 (pc := 37) C k8 dX12_servedBy_37 ?_
      refine g_iload_n (pc := 40) C dX12_servedBy_40 (q := 2) rfl ?_
      refine g_aload_n (pc := 41) C dX12_servedBy_41 (q := 0) rfl ?_
      refine g_iload_n (pc := 42) C dX12_servedBy_42 (q := 3) rfl ?_
      refine g_iload_n (pc := 43) C dX12_servedBy_43 (q := 1) rfl ?_
      refine miX12_432 (pc := 44) (w := uL w a0 24 0) C k8 h (Nat.le_of_ble_eq_true rfl) (Nat.le_of_ble_eq_true rfl) ⟨Nat.le_refl _, Nat.le_refl _⟩ dX12_servedBy_44 (fun r12 w13 h => ?_)
      refine g_if_eq (pc := 47) C dX12_servedBy_47 (tgt := 54) rfl (fun z14 => ?_) (fun z14 => ?_)
      · replace h := h.1 z14
        refine g_iconst (pc := 54) C dX12_servedBy_54 (v := 0) rfl ?_
        refine g_iadd (pc := 55) C dX12_servedBy_55 ?_
        refine g_istore_n (pc := 56) C dX12_servedBy_56 (Nat.le_of_ble_eq_true rfl) (lo' := [(2, .int (a2 + 0)), (0, .ref (adr x a0)), (1, .int a1), (3, .int a3)]) rfl ?_
        refine g_iinc (pc := 57) C dX12_servedBy_57 (q := 3) rfl (v2 := a3 + 1) rfl (Nat.le_of_ble_eq_true rfl) (lo' := [(3, .int (a3 + 1)), (2, .int (a2 + 0)), (0, .ref (adr x a0)), (1, .int a1)]) rfl ?_
        refine g_goto (pc := 60) C dX12_servedBy_60 (tgt := 25) rfl ?_
        refine g_sub [2, 3, 1, 0] rfl ?_
        exact ih _ _ _ _ _ h
      · replace h := h.2 z14
        refine g_iconst (pc := 50) C dX12_servedBy_50 (v := 1) rfl ?_
        refine g_goto (pc := 51) C dX12_servedBy_51 (tgt := 55) rfl ?_
        refine g_iadd (pc := 55) C dX12_servedBy_55 ?_
        refine g_istore_n (pc := 56) C dX12_servedBy_56 (Nat.le_of_ble_eq_true rfl) (lo' := [(2, .int (a2 + 1)), (0, .ref (adr x a0)), (1, .int a1), (3, .int a3)]) rfl ?_
        refine g_iinc (pc := 57) C dX12_servedBy_57 (q := 3) rfl (v2 := a3 + 1) rfl (Nat.le_of_ble_eq_true rfl) (lo' := [(3, .int (a3 + 1)), (2, .int (a2 + 1)), (0, .ref (adr x a0)), (1, .int a1)]) rfl ?_
        refine g_goto (pc := 60) C dX12_servedBy_60 (tgt := 25) rfl ?_
        refine g_sub [2, 3, 1, 0] rfl ?_
        exact ih _ _ _ _ _ h
theorem c_X12_servedBy {x : xG} {l : Launch} {a0 : Nat} {a1 : Int32} {K : Int32 → Wd → Prop} {w : Wd} (h : w_X12_servedBy a0 a1 K w) : Met l yX12_servedBy (xws yX12_servedBy cX12_servedBy 4 (some .int)) (rmd 101 0 0) (xPc x [.ref (adr x a0), .int a1] w) (QcI x K) 0 0 (xA x) := by
  refine xMet (by decide) (Nat.le_of_ble_eq_true rfl) (fun p e s m below meth c C hlk hr _ => ?_)
  show GW x p l e (rmd 101 0 0) s m [.ref (adr x a0), .int a1].toArray below meth c 4 (QI x K below [.ref (adr x a0), .int a1].toArray s 0 0) 0 [(0, .ref (adr x a0)), (1, .int a1)] [] w 0 0
  refine g_iconst (pc := 0) C dX12_servedBy_0 (v := 0) rfl ?_
  refine g_istore_n (pc := 1) C dX12_servedBy_1 (Nat.le_of_ble_eq_true rfl) (lo' := [(2, .int 0), (0, .ref (adr x a0)), (1, .int a1)]) rfl ?_
  obtain ⟨n16, h⟩ := h
  refine g_sub [1, 2, 0] rfl ?_
  refine t_X12_servedBy_2 C hlk hr ?_ n16 _ _ _ _ h
  · intro b5 b6 w7 h
    refine g_iconst (pc := 21) C dX12_servedBy_21 (v := 0) rfl ?_
    refine g_istore_n (pc := 22) C dX12_servedBy_22 (Nat.le_of_ble_eq_true rfl) (lo' := [(2, .int 0), (0, .ref (adr x b5)), (1, .int b6)]) rfl ?_
    refine g_iconst (pc := 23) C dX12_servedBy_23 (v := 0) rfl ?_
    refine g_istore_n (pc := 24) C dX12_servedBy_24 (Nat.le_of_ble_eq_true rfl) (lo' := [(3, .int 0), (2, .int 0), (0, .ref (adr x b5)), (1, .int b6)]) rfl ?_
    obtain ⟨n15, h⟩ := h
    refine g_sub [2, 3, 1, 0] rfl ?_
    refine t_X12_servedBy_25 C hlk hr n15 _ _ _ _ _ h
theorem miX12_435 (C : xC x p s m c cc nL args RX12) {a0 : Nat} {a1 : Int32} {K : Int32 → Wd → Prop} {D MC MS : Nat} (hq : isK w a0 12) (h : w_X12_servedBy a0 a1 K w) (hD : 101 + 1 ≤ D) (hW : (st.map fun v => v.category).sum ≤ 8) (hij : i ≤ MC ∧ j ≤ MS) (hd : decode cc pc = .ok (.invokevirtual 435, 3)) (k : ∀ (r : Int32) (u : Wd), K r u → GW x p l e (rmd D MC MS) s m args below meth c nL Q (pc + 3) lo (.int r :: st) u i j) : GW x p l e (rmd D MC MS) s m args below meth c nL Q pc lo (.int a1 :: .ref (adr x a0) :: st) w i j := g_callVi0 C (As := [.int a1]) (ci := 12) (c_X12_servedBy h) (x_cwV C 1 LMX12_435 ⟨rfl, by decide, by decide, rfl⟩ hD (by decide)) rfl hq (by decide) rfl rfl hW hd hij k
def l_X12_laysPlan_13 (E32 : Nat → Int32 → Wd → Prop) (K : Int32 → Wd → Prop) : Nat → Nat → Int32 → Int32 → Wd → Prop
  | 0, _, _, _, _ => False
  | n + 1, a0, a1, a2, w => ((6 ≤ a2 → E32 a0 a1 w) ∧ (¬ 6 ≤ a2 → isK w a0 12 ∧ isK w (wR w a0 23) 20 ∧ vp_in a2 (wn w (wR w a0 23)) ∧ l_X12_laysPlan_13 E32 K n a0 a1 (a2 + 1) (uI w (wR w a0 23) a2.toNatClampNeg (-1))))
def l_X12_laysPlan_34 (E55 : Nat → Int32 → Int32 → Wd → Prop) (K : Int32 → Wd → Prop) : Nat → Nat → Int32 → Int32 → Wd → Prop
  | 0, _, _, _, _ => False
  | n + 1, a0, a1, a2, w => ((40 < a2 → E55 a0 a1 a2 w) ∧ (¬ 40 < a2 → isK w a0 12 ∧ w_X12_servedBy a0 a2 (fun r14 w15 => ((a1 ≤ r14 → E55 a0 a1 a2 w15) ∧ (¬ a1 ≤ r14 → l_X12_laysPlan_34 E55 K n a0 a1 (a2 + 1) w15))) w))
def l_X12_laysPlan_79 (E102 : Nat → Int32 → Int32 → Int32 → Wd → Prop) (K : Int32 → Wd → Prop) : Nat → Nat → Int32 → Int32 → Int32 → Int32 → Wd → Prop
  | 0, _, _, _, _, _, _ => False
  | n + 1, a0, a1, a2, a3, a4, w => isK w a0 12 ∧ w_X12_servedBy a0 a2 (fun r29 w30 => ((a1 ≤ r29 → E102 a0 a1 a2 a3 w30) ∧ (¬ a1 ≤ r29 → isK w30 a0 12 ∧ isK w30 (wR w30 a0 23) 20 ∧ vp_in a3 (wn w30 (wR w30 a0 23)) ∧ l_X12_laysPlan_79 E102 K n a0 a1 a2 a3 (a4 + 1) (uI w30 (wR w30 a0 23) a3.toNatClampNeg (a4 + 1))))) w
def l_X12_laysPlan_57  (K : Int32 → Wd → Prop) : Nat → Nat → Int32 → Int32 → Int32 → Wd → Prop
  | 0, _, _, _, _, _ => False
  | n + 1, a0, a1, a2, a3, w => ((a1 ≤ a3 → ((a2 ≤ 40 → K a2 w) ∧ (¬ a2 ≤ 40 → K (-2) w))) ∧ (¬ a1 ≤ a3 → ((40 < a2 → ((a2 ≤ 40 → K a2 w) ∧ (¬ a2 ≤ 40 → K (-2) w))) ∧ (¬ 40 < a2 → isK w a0 12 ∧ isK w (wR w a0 23) 20 ∧ vp_in a3 (wn w (wR w a0 23)) ∧ ∃ n40, l_X12_laysPlan_79 (fun b35 b36 b37 b38 w39 => l_X12_laysPlan_57 K n b35 b36 b37 (b38 + 1) w39) K n40 a0 a1 a2 a3 0 (uI w (wR w a0 23) a3.toNatClampNeg 0)))))
def w_X12_laysPlan (a0 : Nat) (K : Int32 → Wd → Prop) (w : Wd) : Prop :=
  isK w a0 12 ∧ isK w (wR w a0 0) 20 ∧ vp_in 2 (wn w (wR w a0 0)) ∧ w_X12_laysQuiet a0 (fun w4 => ∃ n43, l_X12_laysPlan_13 (fun b9 b10 w11 => ∃ n42, l_X12_laysPlan_34 (fun b17 b18 b19 w20 => ∃ n41, l_X12_laysPlan_57  K n41 b17 b18 b19 0 w20) K n42 b9 b10 0 w11) K n43 a0 (wI w (wR w a0 0) (2 : Int32).toNatClampNeg) 0 w4) w
theorem t_X12_laysPlan_13 (C : xC x p s m c cX12_laysPlan 5 args RX12) (hlk : meth.locks = false) (hr : meth.sig.returnType = some .int) {K : Int32 → Wd → Prop} {E32 : Nat → Int32 → Wd → Prop} (hE32 : ∀ (b0 : Nat) (b1 : Int32) (w : Wd), E32 b0 b1 w → GW x p l e (rmd 102 0 0) s m args below meth c 5 (QI x K below args s 0 0) 32 [(0, .ref (adr x b0)), (1, .int b1)] [] w 0 0) : ∀ (n : Nat) (a0 : Nat) (a1 : Int32) (a2 : Int32) (w : Wd), l_X12_laysPlan_13 E32 K n a0 a1 a2 w → GW x p l e (rmd 102 0 0) s m args below meth c 5 (QI x K below args s 0 0) 13 [(0, .ref (adr x a0)), (1, .int a1), (2, .int a2)] [] w 0 0 := by
  intro n
  induction n with
  | zero => intro _ _ _ _ h; exact False.elim h
  | succ n ih =>
    intro a0 a1 a2 w h
    refine g_iload_n (pc := 13) C dX12_laysPlan_13 (q := 2) rfl ?_
    refine g_bipush (pc := 14) C dX12_laysPlan_14 (v := 6) rfl ?_
    refine g_icmp_ge (pc := 16) C dX12_laysPlan_16 (tgt := 32) rfl (fun z5 => ?_) (fun z5 => ?_)
    · replace h := h.1 z5
      refine g_sub [0, 1] rfl ?_
      exact hE32 _ _ _ h
    · replace h := h.2 z5
      refine g_aload_n (pc := 19) C dX12_laysPlan_19 (q := 0) rfl ?_
      obtain ⟨k6, h⟩ := h
      obtain ⟨k7, h⟩ := h
      refine gfX12_46 (pc := 20) C k6 (isK_ne k7) dX12_laysPlan_20 ?_
      refine g_iload_n (pc := 23) C dX12_laysPlan_23 (q := 2) rfl ?_
      refine g_iconst (pc := 24) C dX12_laysPlan_24 (v := (-1)) rfl ?_
      obtain ⟨k8, h⟩ := h
      refine g_iast (pc := 25) C k7 k8 dX12_laysPlan_25 ?_
      refine g_iinc (pc := 26) C dX12_laysPlan_26 (q := 2) rfl (v2 := a2 + 1) rfl (Nat.le_of_ble_eq_true rfl) (lo' := [(2, .int (a2 + 1)), (0, .ref (adr x a0)), (1, .int a1)]) rfl ?_
      refine g_goto (pc := 29) C dX12_laysPlan_29 (tgt := 13) rfl ?_
      refine g_sub [1, 2, 0] rfl ?_
      exact ih _ _ _ _ h
theorem t_X12_laysPlan_34 (C : xC x p s m c cX12_laysPlan 5 args RX12) (hlk : meth.locks = false) (hr : meth.sig.returnType = some .int) {K : Int32 → Wd → Prop} {E55 : Nat → Int32 → Int32 → Wd → Prop} (hE55 : ∀ (b0 : Nat) (b1 : Int32) (b2 : Int32) (w : Wd), E55 b0 b1 b2 w → GW x p l e (rmd 102 0 0) s m args below meth c 5 (QI x K below args s 0 0) 55 [(0, .ref (adr x b0)), (1, .int b1), (2, .int b2)] [] w 0 0) : ∀ (n : Nat) (a0 : Nat) (a1 : Int32) (a2 : Int32) (w : Wd), l_X12_laysPlan_34 E55 K n a0 a1 a2 w → GW x p l e (rmd 102 0 0) s m args below meth c 5 (QI x K below args s 0 0) 34 [(0, .ref (adr x a0)), (1, .int a1), (2, .int a2)] [] w 0 0 := by
  intro n
  induction n with
  | zero => intro _ _ _ _ h; exact False.elim h
  | succ n ih =>
    intro a0 a1 a2 w h
    refine g_iload_n (pc := 34) C dX12_laysPlan_34 (q := 2) rfl ?_
    refine g_bipush (pc := 35) C dX12_laysPlan_35 (v := 40) rfl ?_
    refine g_icmp_gt (pc := 37) C dX12_laysPlan_37 (tgt := 55) rfl (fun z12 => ?_) (fun z12 => ?_)
    · replace h := h.1 z12
      exact hE55 _ _ _ _ h
    · replace h := h.2 z12
      refine g_aload_n (pc := 40) C dX12_laysPlan_40 (q := 0) rfl ?_
      refine g_iload_n (pc := 41) C dX12_laysPlan_41 (q := 2) rfl ?_
      obtain ⟨k13, h⟩ := h
      refine miX12_435 (pc := 42) C k13 h (Nat.le_of_ble_eq_true rfl) (Nat.le_of_ble_eq_true rfl) ⟨Nat.le_refl _, Nat.le_refl _⟩ dX12_laysPlan_42 (fun r14 w15 h => ?_)
      refine g_iload_n (pc := 45) C dX12_laysPlan_45 (q := 1) rfl ?_
      refine g_icmp_ge (pc := 46) C dX12_laysPlan_46 (tgt := 55) rfl (fun z16 => ?_) (fun z16 => ?_)
      · replace h := h.1 z16
        exact hE55 _ _ _ _ h
      · replace h := h.2 z16
        refine g_iinc (pc := 49) C dX12_laysPlan_49 (q := 2) rfl (v2 := a2 + 1) rfl (Nat.le_of_ble_eq_true rfl) (lo' := [(2, .int (a2 + 1)), (0, .ref (adr x a0)), (1, .int a1)]) rfl ?_
        refine g_goto (pc := 52) C dX12_laysPlan_52 (tgt := 34) rfl ?_
        refine g_sub [1, 2, 0] rfl ?_
        exact ih _ _ _ _ h
theorem t_X12_laysPlan_79 (C : xC x p s m c cX12_laysPlan 5 args RX12) (hlk : meth.locks = false) (hr : meth.sig.returnType = some .int) {K : Int32 → Wd → Prop} {E102 : Nat → Int32 → Int32 → Int32 → Wd → Prop} (hE102 : ∀ (b0 : Nat) (b1 : Int32) (b2 : Int32) (b3 : Int32) (w : Wd), E102 b0 b1 b2 b3 w → GW x p l e (rmd 102 0 0) s m args below meth c 5 (QI x K below args s 0 0) 102 [(0, .ref (adr x b0)), (1, .int b1), (2, .int b2), (3, .int b3)] [] w 0 0) : ∀ (n : Nat) (a0 : Nat) (a1 : Int32) (a2 : Int32) (a3 : Int32) (a4 : Int32) (w : Wd), l_X12_laysPlan_79 E102 K n a0 a1 a2 a3 a4 w → GW x p l e (rmd 102 0 0) s m args below meth c 5 (QI x K below args s 0 0) 79 [(0, .ref (adr x a0)), (1, .int a1), (2, .int a2), (3, .int a3), (4, .int a4)] [] w 0 0 := by
  intro n
  induction n with
  | zero => intro _ _ _ _ _ _ h; exact False.elim h
  | succ n ih =>
    intro a0 a1 a2 a3 a4 w h
    refine g_aload_n (pc := 79) C dX12_laysPlan_79 (q := 0) rfl ?_
    refine g_iload_n (pc := 80) C dX12_laysPlan_80 (q := 2) rfl ?_
    obtain ⟨k28, h⟩ := h
    refine miX12_435 (pc := 81) C k28 h (Nat.le_of_ble_eq_true rfl) (Nat.le_of_ble_eq_true rfl) ⟨Nat.le_refl _, Nat.le_refl _⟩ dX12_laysPlan_81 (fun r29 w30 h => ?_)
    refine g_iload_n (pc := 84) C dX12_laysPlan_84 (q := 1) rfl ?_
    refine g_icmp_ge (pc := 85) C dX12_laysPlan_85 (tgt := 102) rfl (fun z31 => ?_) (fun z31 => ?_)
    · replace h := h.1 z31
      refine g_sub [0, 1, 2, 3] rfl ?_
      exact hE102 _ _ _ _ _ h
    · replace h := h.2 z31
      refine g_iinc (pc := 88) C dX12_laysPlan_88 (q := 4) rfl (v2 := a4 + 1) rfl (Nat.le_of_ble_eq_true rfl) (lo' := [(4, .int (a4 + 1)), (0, .ref (adr x a0)), (1, .int a1), (2, .int a2), (3, .int a3)]) rfl ?_
      refine g_aload_n (pc := 91) C dX12_laysPlan_91 (q := 1) rfl ?_
      obtain ⟨k32, h⟩ := h
      obtain ⟨k33, h⟩ := h
      refine gfX12_46 (pc := 92) C k32 (isK_ne k33) dX12_laysPlan_92 ?_
      refine g_iload_n (pc := 95) C dX12_laysPlan_95 (q := 4) rfl ?_
      refine g_iload (pc := 96) C dX12_laysPlan_96 (q := 0) rfl ?_
      obtain ⟨k34, h⟩ := h
      refine g_iast (pc := 98) C k33 k34 dX12_laysPlan_98 ?_
      refine g_goto (pc := 99) C dX12_laysPlan_99 (tgt := 79) rfl ?_
      refine g_sub [1, 2, 3, 4, 0] rfl ?_
      exact ih _ _ _ _ _ _ h
theorem t_X12_laysPlan_57 (C : xC x p s m c cX12_laysPlan 5 args RX12) (hlk : meth.locks = false) (hr : meth.sig.returnType = some .int) {K : Int32 → Wd → Prop}   : ∀ (n : Nat) (a0 : Nat) (a1 : Int32) (a2 : Int32) (a3 : Int32) (w : Wd), l_X12_laysPlan_57 K n a0 a1 a2 a3 w → GW x p l e (rmd 102 0 0) s m args below meth c 5 (QI x K below args s 0 0) 57 [(0, .ref (adr x a0)), (1, .int a1), (2, .int a2), (3, .int a3)] [] w 0 0 := by
  intro n
  induction n with
  | zero => intro _ _ _ _ _ h; exact False.elim h
  | succ n ih =>
    intro a0 a1 a2 a3 w h
    refine g_iload_n (pc := 57) C dX12_laysPlan_57 (q := 3) rfl ?_
    refine g_iload_n (pc := 58) C dX12_laysPlan_58 (q := 1) rfl ?_
    refine g_icmp_ge (pc := 59) C dX12_laysPlan_59 (tgt := 108) rfl (fun z21 => ?_) (fun z21 => ?_)
    · replace h := h.1 z21
      refine g_iload_n (pc := 108) C dX12_laysPlan_108 (q := 2) rfl ?_
      refine g_bipush (pc := 109) C dX12_laysPlan_109 (v := 40) rfl ?_
      refine g_icmp_le (pc := 111) C dX12_laysPlan_111 (tgt := 119) rfl (fun z22 => ?_) (fun z22 => ?_)
      · replace h := h.1 z22
        refine g_iload_n (pc := 119) C dX12_laysPlan_119 (q := 2) rfl ?_
        exact g_iret (pc := 120) C hlk hr (Nat.le_refl _) (Nat.le_refl _) dX12_laysPlan_120 h
      · replace h := h.2 z22
        refine g_bipush (pc := 114) C dX12_laysPlan_114 (v := (-2)) rfl ?_
        refine g_goto (pc := 116) C dX12_laysPlan_116 (tgt := 120) rfl ?_
        exact g_iret (pc := 120) C hlk hr (Nat.le_refl _) (Nat.le_refl _) dX12_laysPlan_120 h
    · replace h := h.2 z21
      refine g_iload_n (pc := 62) C dX12_laysPlan_62 (q := 2) rfl ?_
      refine g_bipush (pc := 63) C dX12_laysPlan_63 (v := 40) rfl ?_
      refine g_icmp_gt (pc := 65) C dX12_laysPlan_65 (tgt := 108) rfl (fun z23 => ?_) (fun z23 => ?_)
      · replace h := h.1 z23
        refine g_iload_n (pc := 108) C dX12_laysPlan_108 (q := 2) rfl ?_
        refine g_bipush (pc := 109) C dX12_laysPlan_109 (v := 40) rfl ?_
        refine g_icmp_le (pc := 111) C dX12_laysPlan_111 (tgt := 119) rfl (fun z24 => ?_) (fun z24 => ?_)
        · replace h := h.1 z24
          refine g_iload_n (pc := 119) C dX12_laysPlan_119 (q := 2) rfl ?_
          exact g_iret (pc := 120) C hlk hr (Nat.le_refl _) (Nat.le_refl _) dX12_laysPlan_120 h
        · replace h := h.2 z24
          refine g_bipush (pc := 114) C dX12_laysPlan_114 (v := (-2)) rfl ?_
          refine g_goto (pc := 116) C dX12_laysPlan_116 (tgt := 120) rfl ?_
          exact g_iret (pc := 120) C hlk hr (Nat.le_refl _) (Nat.le_refl _) dX12_laysPlan_120 h
      · replace h := h.2 z23
        refine g_iconst (pc := 68) C dX12_laysPlan_68 (v := 0) rfl ?_
        refine g_istore (pc := 69) C dX12_laysPlan_69 (Nat.le_of_ble_eq_true rfl) (lo' := [(4, .int 0), (0, .ref (adr x a0)), (1, .int a1), (2, .int a2), (3, .int a3)]) rfl ?_
        refine g_aload_n (pc := 71) C dX12_laysPlan_71 (q := 1) rfl ?_
        obtain ⟨k25, h⟩ := h
        obtain ⟨k26, h⟩ := h
        refine gfX12_46 (pc := 72) C k25 (isK_ne k26) dX12_laysPlan_72 ?_
        refine g_iload_n (pc := 75) C dX12_laysPlan_75 (q := 4) rfl ?_
        refine g_iload (pc := 76) C dX12_laysPlan_76 (q := 0) rfl ?_
        obtain ⟨k27, h⟩ := h
        refine g_iast (pc := 78) C k26 k27 dX12_laysPlan_78 ?_
        obtain ⟨n40, h⟩ := h
        refine g_sub [1, 2, 3, 4, 0] rfl ?_
        refine t_X12_laysPlan_79 C hlk hr ?_ n40 _ _ _ _ _ _ h
        · intro b35 b36 b37 b38 w39 h
          refine g_iinc (pc := 102) C dX12_laysPlan_102 (q := 3) rfl (v2 := b38 + 1) rfl (Nat.le_of_ble_eq_true rfl) (lo' := [(3, .int (b38 + 1)), (0, .ref (adr x b35)), (1, .int b36), (2, .int b37)]) rfl ?_
          refine g_goto (pc := 105) C dX12_laysPlan_105 (tgt := 57) rfl ?_
          refine g_sub [1, 2, 3, 0] rfl ?_
          exact ih _ _ _ _ _ h
theorem c_X12_laysPlan {x : xG} {l : Launch} {a0 : Nat} {K : Int32 → Wd → Prop} {w : Wd} (h : w_X12_laysPlan a0 K w) : Met l yX12_laysPlan (xws yX12_laysPlan cX12_laysPlan 5 (some .int)) (rmd 102 0 0) (xPc x [.ref (adr x a0)] w) (QcI x K) 0 0 (xA x) := by
  refine xMet (by decide) (Nat.le_of_ble_eq_true rfl) (fun p e s m below meth c C hlk hr _ => ?_)
  show GW x p l e (rmd 102 0 0) s m [.ref (adr x a0)].toArray below meth c 5 (QI x K below [.ref (adr x a0)].toArray s 0 0) 0 [(0, .ref (adr x a0))] [] w 0 0
  refine g_aload_n (pc := 0) C dX12_laysPlan_0 (q := 0) rfl ?_
  obtain ⟨k1, h⟩ := h
  obtain ⟨k2, h⟩ := h
  refine gfX12_9 (pc := 1) C k1 (isK_ne k2) dX12_laysPlan_1 ?_
  refine g_iconst (pc := 4) C dX12_laysPlan_4 (v := 2) rfl ?_
  obtain ⟨k3, h⟩ := h
  refine g_iald (pc := 5) C k2 k3 dX12_laysPlan_5 ?_
  refine g_istore_n (pc := 6) C dX12_laysPlan_6 (Nat.le_of_ble_eq_true rfl) (lo' := [(1, .int (wI w (wR w a0 0) (2 : Int32).toNatClampNeg)), (0, .ref (adr x a0))]) rfl ?_
  refine g_aload_n (pc := 7) C dX12_laysPlan_7 (q := 1) rfl ?_
  refine miX12_423 (pc := 8) C k1 h (Nat.le_of_ble_eq_true rfl) (Nat.le_of_ble_eq_true rfl) ⟨Nat.le_refl _, Nat.le_refl _⟩ dX12_laysPlan_8 (fun w4 h => ?_)
  refine g_iconst (pc := 11) C dX12_laysPlan_11 (v := 0) rfl ?_
  refine g_istore_n (pc := 12) C dX12_laysPlan_12 (Nat.le_of_ble_eq_true rfl) (lo' := [(2, .int 0), (1, .int (wI w (wR w a0 0) (2 : Int32).toNatClampNeg)), (0, .ref (adr x a0))]) rfl ?_
  obtain ⟨n43, h⟩ := h
  refine g_sub [2, 1, 0] rfl ?_
  refine t_X12_laysPlan_13 C hlk hr ?_ n43 _ _ _ _ h
  · intro b9 b10 w11 h
    refine g_iconst (pc := 32) C dX12_laysPlan_32 (v := 0) rfl ?_
    refine g_istore_n (pc := 33) C dX12_laysPlan_33 (Nat.le_of_ble_eq_true rfl) (lo' := [(2, .int 0), (0, .ref (adr x b9)), (1, .int b10)]) rfl ?_
    obtain ⟨n42, h⟩ := h
    refine g_sub [1, 2, 0] rfl ?_
    refine t_X12_laysPlan_34 C hlk hr ?_ n42 _ _ _ _ h
    · intro b17 b18 b19 w20 h
      refine g_iconst (pc := 55) C dX12_laysPlan_55 (v := 0) rfl ?_
      refine g_istore_n (pc := 56) C dX12_laysPlan_56 (Nat.le_of_ble_eq_true rfl) (lo' := [(3, .int 0), (0, .ref (adr x b17)), (1, .int b18), (2, .int b19)]) rfl ?_
      obtain ⟨n41, h⟩ := h
      refine g_sub [1, 2, 3, 0] rfl ?_
      refine t_X12_laysPlan_57 C hlk hr n41 _ _ _ _ _ h
def l_X12_wakersOf_5  (K : Int32 → Wd → Prop) : Nat → Nat → Int32 → Int32 → Int32 → Int32 → Wd → Prop
  | 0, _, _, _, _, _, _ => False
  | n + 1, a0, a1, a2, a3, a4, w => isK w a0 12 ∧ w_X12_wells a0 (fun r2 w3 => ((r2 ≤ a4 → K a3 w3) ∧ (¬ r2 ≤ a4 → ((a4 = a1 → l_X12_wakersOf_5 K n a0 a1 a2 (a3 ||| 0) (a4 + 1) w3) ∧ (¬ a4 = a1 → isK w3 a0 12 ∧ w_X12_isUp a0 a4 (fun r7 w8 => ((r7 = 0 → l_X12_wakersOf_5 K n a0 a1 a2 (a3 ||| 0) (a4 + 1) w8) ∧ (¬ r7 = 0 → isK w8 a0 12 ∧ w_X12_chainOf a0 a4 a2 (fun r11 w12 => w_X12_has r11 a1 (fun r13 w14 => ((r13 = 0 → l_X12_wakersOf_5 K n a0 a1 a2 (a3 ||| 0) (a4 + 1) w14) ∧ (¬ r13 = 0 → l_X12_wakersOf_5 K n a0 a1 a2 (a3 ||| (x_ishl 1 a4)) (a4 + 1) w14))) w12) w8))) w3))))) w
def w_X12_wakersOf (a0 : Nat) (a1 : Int32) (a2 : Int32) (K : Int32 → Wd → Prop) (w : Wd) : Prop :=
  ∃ n16, l_X12_wakersOf_5  K n16 a0 a1 a2 0 0 w
theorem t_X12_wakersOf_5 (C : xC x p s m c cX12_wakersOf 5 args RX12) (hlk : meth.locks = false) (hr : meth.sig.returnType = some .int) {K : Int32 → Wd → Prop}   : ∀ (n : Nat) (a0 : Nat) (a1 : Int32) (a2 : Int32) (a3 : Int32) (a4 : Int32) (w : Wd), l_X12_wakersOf_5 K n a0 a1 a2 a3 a4 w → GW x p l e (rmd 6 0 0) s m args below meth c 5 (QI x K below args s 0 0) 5 [(0, .ref (adr x a0)), (1, .int a1), (2, .int a2), (3, .int a3), (4, .int a4)] [] w 0 0 := by
  intro n
  induction n with
  | zero => intro _ _ _ _ _ _ h; exact False.elim h
  | succ n ih =>
    intro a0 a1 a2 a3 a4 w h
    refine g_iload (pc := 5) C dX12_wakersOf_5 (q := 4) rfl ?_
    refine g_aload_n (pc := 7) C dX12_wakersOf_7 (q := 0) rfl ?_
    obtain ⟨k1, h⟩ := h
    refine miX12_239 (pc := 8) C k1 h (Nat.le_of_ble_eq_true rfl) (Nat.le_of_ble_eq_true rfl) ⟨Nat.le_refl _, Nat.le_refl _⟩ dX12_wakersOf_8 (fun r2 w3 h => ?_)
    refine g_icmp_ge (pc := 11) C dX12_wakersOf_11 (tgt := 60) rfl (fun z4 => ?_) (fun z4 => ?_)
    · replace h := h.1 z4
      refine g_iload_n (pc := 60) C dX12_wakersOf_60 (q := 3) rfl ?_
      exact g_iret (pc := 61) C hlk hr (Nat.le_refl _) (Nat.le_refl _) dX12_wakersOf_61 h
    · replace h := h.2 z4
      refine g_iload_n (pc := 14) C dX12_wakersOf_14 (q := 3) rfl ?_
      refine g_iload (pc := 15) C dX12_wakersOf_15 (q := 4) rfl ?_
      refine g_iload_n (pc := 17) C dX12_wakersOf_17 (q := 1) rfl ?_
      refine g_icmp_eq (pc := 18) C dX12_wakersOf_18 (tgt := 51) rfl (fun z5 => ?_) (fun z5 => ?_)
      · replace h := h.1 z5
        refine g_iconst (pc := 51) C dX12_wakersOf_51 (v := 0) rfl ?_
        refine g_ior (pc := 52) C dX12_wakersOf_52 ?_
        refine g_istore_n (pc := 53) C dX12_wakersOf_53 (Nat.le_of_ble_eq_true rfl) (lo' := [(3, .int (a3 ||| 0)), (0, .ref (adr x a0)), (1, .int a1), (2, .int a2), (4, .int a4)]) rfl ?_
        refine g_iinc (pc := 54) C dX12_wakersOf_54 (q := 4) rfl (v2 := a4 + 1) rfl (Nat.le_of_ble_eq_true rfl) (lo' := [(4, .int (a4 + 1)), (3, .int (a3 ||| 0)), (0, .ref (adr x a0)), (1, .int a1), (2, .int a2)]) rfl ?_
        refine g_goto (pc := 57) C dX12_wakersOf_57 (tgt := 5) rfl ?_
        refine g_sub [2, 3, 4, 1, 0] rfl ?_
        exact ih _ _ _ _ _ _ h
      · replace h := h.2 z5
        refine g_aload_n (pc := 21) C dX12_wakersOf_21 (q := 0) rfl ?_
        refine g_iload (pc := 22) C dX12_wakersOf_22 (q := 4) rfl ?_
        obtain ⟨k6, h⟩ := h
        refine miX12_271 (pc := 24) C k6 h (Nat.le_of_ble_eq_true rfl) (Nat.le_of_ble_eq_true rfl) ⟨Nat.le_refl _, Nat.le_refl _⟩ dX12_wakersOf_24 (fun r7 w8 h => ?_)
        refine g_if_eq (pc := 27) C dX12_wakersOf_27 (tgt := 51) rfl (fun z9 => ?_) (fun z9 => ?_)
        · replace h := h.1 z9
          refine g_iconst (pc := 51) C dX12_wakersOf_51 (v := 0) rfl ?_
          refine g_ior (pc := 52) C dX12_wakersOf_52 ?_
          refine g_istore_n (pc := 53) C dX12_wakersOf_53 (Nat.le_of_ble_eq_true rfl) (lo' := [(3, .int (a3 ||| 0)), (0, .ref (adr x a0)), (1, .int a1), (2, .int a2), (4, .int a4)]) rfl ?_
          refine g_iinc (pc := 54) C dX12_wakersOf_54 (q := 4) rfl (v2 := a4 + 1) rfl (Nat.le_of_ble_eq_true rfl) (lo' := [(4, .int (a4 + 1)), (3, .int (a3 ||| 0)), (0, .ref (adr x a0)), (1, .int a1), (2, .int a2)]) rfl ?_
          refine g_goto (pc := 57) C dX12_wakersOf_57 (tgt := 5) rfl ?_
          refine g_sub [2, 3, 4, 1, 0] rfl ?_
          exact ih _ _ _ _ _ _ h
        · replace h := h.2 z9
          refine g_aload_n (pc := 30) C dX12_wakersOf_30 (q := 0) rfl ?_
          refine g_iload (pc := 31) C dX12_wakersOf_31 (q := 4) rfl ?_
          refine g_iload_n (pc := 33) C dX12_wakersOf_33 (q := 2) rfl ?_
          obtain ⟨k10, h⟩ := h
          refine miX12_316 (pc := 34) C k10 h (Nat.le_of_ble_eq_true rfl) (Nat.le_of_ble_eq_true rfl) ⟨Nat.le_refl _, Nat.le_refl _⟩ dX12_wakersOf_34 (fun r11 w12 h => ?_)
          refine g_iload_n (pc := 37) C dX12_wakersOf_37 (q := 1) rfl ?_
          refine miX12_268 (pc := 38) C h (Nat.le_of_ble_eq_true rfl) (Nat.le_of_ble_eq_true rfl) ⟨Nat.le_refl _, Nat.le_refl _⟩ dX12_wakersOf_38 (fun r13 w14 h => ?_)
          refine g_if_eq (pc := 41) C dX12_wakersOf_41 (tgt := 51) rfl (fun z15 => ?_) (fun z15 => ?_)
          · replace h := h.1 z15
            refine g_iconst (pc := 51) C dX12_wakersOf_51 (v := 0) rfl ?_
            refine g_ior (pc := 52) C dX12_wakersOf_52 ?_
            refine g_istore_n (pc := 53) C dX12_wakersOf_53 (Nat.le_of_ble_eq_true rfl) (lo' := [(3, .int (a3 ||| 0)), (0, .ref (adr x a0)), (1, .int a1), (2, .int a2), (4, .int a4)]) rfl ?_
            refine g_iinc (pc := 54) C dX12_wakersOf_54 (q := 4) rfl (v2 := a4 + 1) rfl (Nat.le_of_ble_eq_true rfl) (lo' := [(4, .int (a4 + 1)), (3, .int (a3 ||| 0)), (0, .ref (adr x a0)), (1, .int a1), (2, .int a2)]) rfl ?_
            refine g_goto (pc := 57) C dX12_wakersOf_57 (tgt := 5) rfl ?_
            refine g_sub [2, 3, 4, 1, 0] rfl ?_
            exact ih _ _ _ _ _ _ h
          · replace h := h.2 z15
            refine g_iconst (pc := 44) C dX12_wakersOf_44 (v := 1) rfl ?_
            refine g_iload (pc := 45) C dX12_wakersOf_45 (q := 4) rfl ?_
            refine h_ishl (pc := 47) C dX12_wakersOf_47 ?_
            refine g_goto (pc := 48) C dX12_wakersOf_48 (tgt := 52) rfl ?_
            refine g_ior (pc := 52) C dX12_wakersOf_52 ?_
            refine g_istore_n (pc := 53) C dX12_wakersOf_53 (Nat.le_of_ble_eq_true rfl) (lo' := [(3, .int (a3 ||| (x_ishl 1 a4))), (0, .ref (adr x a0)), (1, .int a1), (2, .int a2), (4, .int a4)]) rfl ?_
            refine g_iinc (pc := 54) C dX12_wakersOf_54 (q := 4) rfl (v2 := a4 + 1) rfl (Nat.le_of_ble_eq_true rfl) (lo' := [(4, .int (a4 + 1)), (3, .int (a3 ||| (x_ishl 1 a4))), (0, .ref (adr x a0)), (1, .int a1), (2, .int a2)]) rfl ?_
            refine g_goto (pc := 57) C dX12_wakersOf_57 (tgt := 5) rfl ?_
            refine g_sub [2, 3, 4, 1, 0] rfl ?_
            exact ih _ _ _ _ _ _ h
theorem c_X12_wakersOf {x : xG} {l : Launch} {a0 : Nat} {a1 : Int32} {a2 : Int32} {K : Int32 → Wd → Prop} {w : Wd} (h : w_X12_wakersOf a0 a1 a2 K w) : Met l yX12_wakersOf (xws yX12_wakersOf cX12_wakersOf 5 (some .int)) (rmd 6 0 0) (xPc x [.ref (adr x a0), .int a1, .int a2] w) (QcI x K) 0 0 (xA x) := by
  refine xMet (by decide) (Nat.le_of_ble_eq_true rfl) (fun p e s m below meth c C hlk hr _ => ?_)
  show GW x p l e (rmd 6 0 0) s m [.ref (adr x a0), .int a1, .int a2].toArray below meth c 5 (QI x K below [.ref (adr x a0), .int a1, .int a2].toArray s 0 0) 0 [(0, .ref (adr x a0)), (1, .int a1), (2, .int a2)] [] w 0 0
  refine g_iconst (pc := 0) C dX12_wakersOf_0 (v := 0) rfl ?_
  refine g_istore_n (pc := 1) C dX12_wakersOf_1 (Nat.le_of_ble_eq_true rfl) (lo' := [(3, .int 0), (0, .ref (adr x a0)), (1, .int a1), (2, .int a2)]) rfl ?_
  refine g_iconst (pc := 2) C dX12_wakersOf_2 (v := 0) rfl ?_
  refine g_istore (pc := 3) C dX12_wakersOf_3 (Nat.le_of_ble_eq_true rfl) (lo' := [(4, .int 0), (3, .int 0), (0, .ref (adr x a0)), (1, .int a1), (2, .int a2)]) rfl ?_
  obtain ⟨n16, h⟩ := h
  refine g_sub [2, 3, 4, 1, 0] rfl ?_
  refine t_X12_wakersOf_5 C hlk hr n16 _ _ _ _ _ _ h
theorem miX12_408 (C : xC x p s m c cc nL args RX12) {a0 : Nat} {a1 : Int32} {a2 : Int32} {K : Int32 → Wd → Prop} {D MC MS : Nat} (hq : isK w a0 12) (h : w_X12_wakersOf a0 a1 a2 K w) (hD : 6 + 1 ≤ D) (hW : (st.map fun v => v.category).sum ≤ 8) (hij : i ≤ MC ∧ j ≤ MS) (hd : decode cc pc = .ok (.invokevirtual 408, 3)) (k : ∀ (r : Int32) (u : Wd), K r u → GW x p l e (rmd D MC MS) s m args below meth c nL Q (pc + 3) lo (.int r :: st) u i j) : GW x p l e (rmd D MC MS) s m args below meth c nL Q pc lo (.int a2 :: .int a1 :: .ref (adr x a0) :: st) w i j := g_callVi0 C (As := [.int a1, .int a2]) (ci := 12) (c_X12_wakersOf h) (x_cwV C 2 LMX12_408 ⟨rfl, by decide, by decide, rfl⟩ hD (by decide)) rfl hq (by decide) rfl rfl hW hd hij k
theorem miX12_411 (C : xC x p s m c cc nL args RX12) {a0 : Int32} {K : Int32 → Wd → Prop} {D MC MS : Nat} (h : w_X12_firstOf a0 K w) (hD : 1 + 1 ≤ D) (hW : (st.map fun v => v.category).sum ≤ 8) (hij : i ≤ MC ∧ j ≤ MS) (hd : decode cc pc = .ok (.invokestatic 411, 3)) (k : ∀ (r : Int32) (u : Wd), K r u → GW x p l e (rmd D MC MS) s m args below meth c nL Q (pc + 3) lo (.int r :: st) u i j) : GW x p l e (rmd D MC MS) s m args below meth c nL Q pc lo (.int a0 :: st) w i j := g_callSi0 C (As := [.int a0]) (c_X12_firstOf h) (x_cwS C 1 LMX12_411 ⟨by decide, by decide, rfl⟩ hD (by decide)) rfl rfl hW hd hij k
def l_X12_leastNoise_43  (K : Int32 → Wd → Prop) : Nat → Nat → Int32 → Int32 → Int32 → Wd → Prop
  | 0, _, _, _, _, _ => False
  | n + 1, a0, a1, a2, a3, w => ((99 < a3 → K (-1) w) ∧ (¬ 99 < a3 → isK w a0 12 ∧ w_X12_wakersOf a0 a1 a3 (fun r12 w13 => ((r12 = 0 → l_X12_leastNoise_43 K n a0 a1 a2 (a3 + 1) w13) ∧ (¬ r12 = 0 → ((a2 = 0 → K a3 w13) ∧ (¬ a2 = 0 → w_X12_firstOf r12 (fun r16 w17 => K r16 w17) w13))))) w))
def w_X12_leastNoise (a0 : Nat) (a1 : Int32) (a2 : Int32) (K : Int32 → Wd → Prop) (w : Wd) : Prop :=
  isK w a0 12 ∧ w_X12_isWell a0 a1.toInt64 (fun r2 w3 => ((r2 = 0 → isK w3 a0 12 ∧ (((wI (uI w3 a0 4 1) a0 4) ≤ 0 → ∃ n24, l_X12_leastNoise_43  K n24 a0 a1 a2 0 (uI w3 a0 4 1)) ∧ (¬ (wI (uI w3 a0 4 1) a0 4) ≤ 0 → K 0 (uI w3 a0 4 1)))) ∧ (¬ r2 = 0 → w_X12_within a2.toInt64 0 1 (fun r5 w6 => ((r5 = 0 → isK w6 a0 12 ∧ (((wI (uI w6 a0 4 2) a0 4) ≤ 0 → ∃ n18, l_X12_leastNoise_43  K n18 a0 a1 a2 0 (uI w6 a0 4 2)) ∧ (¬ (wI (uI w6 a0 4 2) a0 4) ≤ 0 → K 0 (uI w6 a0 4 2)))) ∧ (¬ r5 = 0 → isK w6 a0 12 ∧ (((wI (uI w6 a0 4 0) a0 4) ≤ 0 → ∃ n21, l_X12_leastNoise_43  K n21 a0 a1 a2 0 (uI w6 a0 4 0)) ∧ (¬ (wI (uI w6 a0 4 0) a0 4) ≤ 0 → K 0 (uI w6 a0 4 0)))))) w3))) w
theorem t_X12_leastNoise_43 (C : xC x p s m c cX12_leastNoise 5 args RX12) (hlk : meth.locks = false) (hr : meth.sig.returnType = some .int) {K : Int32 → Wd → Prop}   : ∀ (n : Nat) (a0 : Nat) (a1 : Int32) (a2 : Int32) (a3 : Int32) (w : Wd), l_X12_leastNoise_43 K n a0 a1 a2 a3 w → GW x p l e (rmd 7 0 0) s m args below meth c 5 (QI x K below args s 0 0) 43 [(0, .ref (adr x a0)), (1, .int a1), (2, .int a2), (3, .int a3)] [] w 0 0 := by
  intro n
  induction n with
  | zero => intro _ _ _ _ _ h; exact False.elim h
  | succ n ih =>
    intro a0 a1 a2 a3 w h
    refine g_iload_n (pc := 43) C dX12_leastNoise_43 (q := 3) rfl ?_
    refine g_bipush (pc := 44) C dX12_leastNoise_44 (v := 99) rfl ?_
    refine g_icmp_gt (pc := 46) C dX12_leastNoise_46 (tgt := 82) rfl (fun z10 => ?_) (fun z10 => ?_)
    · replace h := h.1 z10
      refine g_iconst (pc := 82) C dX12_leastNoise_82 (v := (-1)) rfl ?_
      exact g_iret (pc := 83) C hlk hr (Nat.le_refl _) (Nat.le_refl _) dX12_leastNoise_83 h
    · replace h := h.2 z10
      refine g_aload_n (pc := 49) C dX12_leastNoise_49 (q := 0) rfl ?_
      refine g_iload_n (pc := 50) C dX12_leastNoise_50 (q := 1) rfl ?_
      refine g_iload_n (pc := 51) C dX12_leastNoise_51 (q := 3) rfl ?_
      obtain ⟨k11, h⟩ := h
      refine miX12_408 (pc := 52) C k11 h (Nat.le_of_ble_eq_true rfl) (Nat.le_of_ble_eq_true rfl) ⟨Nat.le_refl _, Nat.le_refl _⟩ dX12_leastNoise_52 (fun r12 w13 h => ?_)
      refine g_istore (pc := 55) C dX12_leastNoise_55 (Nat.le_of_ble_eq_true rfl) (lo' := [(4, .int r12), (0, .ref (adr x a0)), (1, .int a1), (2, .int a2), (3, .int a3)]) rfl ?_
      refine g_iload (pc := 57) C dX12_leastNoise_57 (q := 0) rfl ?_
      refine g_if_eq (pc := 59) C dX12_leastNoise_59 (tgt := 76) rfl (fun z14 => ?_) (fun z14 => ?_)
      · replace h := h.1 z14
        refine g_iinc (pc := 76) C dX12_leastNoise_76 (q := 4) rfl (v2 := a3 + 1) rfl (Nat.le_of_ble_eq_true rfl) (lo' := [(3, .int (a3 + 1)), (4, .int r12), (0, .ref (adr x a0)), (1, .int a1), (2, .int a2)]) rfl ?_
        refine g_goto (pc := 79) C dX12_leastNoise_79 (tgt := 43) rfl ?_
        refine g_sub [2, 3, 4, 0] rfl ?_
        exact ih _ _ _ _ _ h
      · replace h := h.2 z14
        refine g_iload_n (pc := 62) C dX12_leastNoise_62 (q := 3) rfl ?_
        refine g_if_ne (pc := 63) C dX12_leastNoise_63 (tgt := 70) rfl (fun z15 => ?_) (fun z15 => ?_)
        · replace h := h.2 z15
          refine g_iload (pc := 70) C dX12_leastNoise_70 (q := 0) rfl ?_
          refine miX12_411 (pc := 72) C h (Nat.le_of_ble_eq_true rfl) (Nat.le_of_ble_eq_true rfl) ⟨Nat.le_refl _, Nat.le_refl _⟩ dX12_leastNoise_72 (fun r16 w17 h => ?_)
          exact g_iret (pc := 75) C hlk hr (Nat.le_refl _) (Nat.le_refl _) dX12_leastNoise_75 h
        · replace h := h.1 z15
          refine g_iload_n (pc := 66) C dX12_leastNoise_66 (q := 4) rfl ?_
          refine g_goto (pc := 67) C dX12_leastNoise_67 (tgt := 75) rfl ?_
          exact g_iret (pc := 75) C hlk hr (Nat.le_refl _) (Nat.le_refl _) dX12_leastNoise_75 h
theorem c_X12_leastNoise {x : xG} {l : Launch} {a0 : Nat} {a1 : Int32} {a2 : Int32} {K : Int32 → Wd → Prop} {w : Wd} (h : w_X12_leastNoise a0 a1 a2 K w) : Met l yX12_leastNoise (xws yX12_leastNoise cX12_leastNoise 5 (some .int)) (rmd 7 0 0) (xPc x [.ref (adr x a0), .int a1, .int a2] w) (QcI x K) 0 0 (xA x) := by
  refine xMet (by decide) (Nat.le_of_ble_eq_true rfl) (fun p e s m below meth c C hlk hr _ => ?_)
  show GW x p l e (rmd 7 0 0) s m [.ref (adr x a0), .int a1, .int a2].toArray below meth c 5 (QI x K below [.ref (adr x a0), .int a1, .int a2].toArray s 0 0) 0 [(0, .ref (adr x a0)), (1, .int a1), (2, .int a2)] [] w 0 0
  refine g_aload_n (pc := 0) C dX12_leastNoise_0 (q := 0) rfl ?_
  refine g_aload_n (pc := 1) C dX12_leastNoise_1 (q := 0) rfl ?_
  refine g_iload_n (pc := 2) C dX12_leastNoise_2 (q := 1) rfl ?_
  refine g_i2l (pc := 3) C dX12_leastNoise_3 ?_
  obtain ⟨k1, h⟩ := h
  refine miX12_302 (pc := 4) C k1 h (Nat.le_of_ble_eq_true rfl) (Nat.le_of_ble_eq_true rfl) ⟨Nat.le_refl _, Nat.le_refl _⟩ dX12_leastNoise_4 (fun r2 w3 h => ?_)
  refine g_if_ne (pc := 7) C dX12_leastNoise_7 (tgt := 14) rfl (fun z4 => ?_) (fun z4 => ?_)
  · replace h := h.2 z4
    refine g_iload_n (pc := 14) C dX12_leastNoise_14 (q := 2) rfl ?_
    refine g_i2l (pc := 15) C dX12_leastNoise_15 ?_
    refine g_lconst (pc := 16) C dX12_leastNoise_16 (v := 0) rfl ?_
    refine g_lconst (pc := 17) C dX12_leastNoise_17 (v := 1) rfl ?_
    refine miX12_119 (pc := 18) C h (Nat.le_of_ble_eq_true rfl) (Nat.le_of_ble_eq_true rfl) ⟨Nat.le_refl _, Nat.le_refl _⟩ dX12_leastNoise_18 (fun r5 w6 h => ?_)
    refine g_if_eq (pc := 21) C dX12_leastNoise_21 (tgt := 28) rfl (fun z7 => ?_) (fun z7 => ?_)
    · replace h := h.1 z7
      refine g_iconst (pc := 28) C dX12_leastNoise_28 (v := 2) rfl ?_
      obtain ⟨k8, h⟩ := h
      refine pfX12_58 (pc := 29) C k8 dX12_leastNoise_29 ?_
      refine g_aload_n (pc := 32) C dX12_leastNoise_32 (q := 0) rfl ?_
      refine gfX12_58 (pc := 33) (w := uI w6 a0 4 2) C k8 dX12_leastNoise_33 ?_
      refine g_if_le (pc := 36) C dX12_leastNoise_36 (tgt := 41) rfl (fun z9 => ?_) (fun z9 => ?_)
      · replace h := h.1 z9
        refine g_iconst (pc := 41) C dX12_leastNoise_41 (v := 0) rfl ?_
        refine g_istore_n (pc := 42) C dX12_leastNoise_42 (Nat.le_of_ble_eq_true rfl) (lo' := [(3, .int 0), (0, .ref (adr x a0)), (1, .int a1), (2, .int a2)]) rfl ?_
        obtain ⟨n18, h⟩ := h
        refine g_sub [1, 2, 3, 0] rfl ?_
        refine t_X12_leastNoise_43 C hlk hr n18 _ _ _ _ _ h
      · replace h := h.2 z9
        refine g_iconst (pc := 39) C dX12_leastNoise_39 (v := 0) rfl ?_
        exact g_iret (pc := 40) C hlk hr (Nat.le_refl _) (Nat.le_refl _) dX12_leastNoise_40 h
    · replace h := h.2 z7
      refine g_iconst (pc := 24) C dX12_leastNoise_24 (v := 0) rfl ?_
      refine g_goto (pc := 25) C dX12_leastNoise_25 (tgt := 29) rfl ?_
      obtain ⟨k19, h⟩ := h
      refine pfX12_58 (pc := 29) C k19 dX12_leastNoise_29 ?_
      refine g_aload_n (pc := 32) C dX12_leastNoise_32 (q := 0) rfl ?_
      refine gfX12_58 (pc := 33) (w := uI w6 a0 4 0) C k19 dX12_leastNoise_33 ?_
      refine g_if_le (pc := 36) C dX12_leastNoise_36 (tgt := 41) rfl (fun z20 => ?_) (fun z20 => ?_)
      · replace h := h.1 z20
        refine g_iconst (pc := 41) C dX12_leastNoise_41 (v := 0) rfl ?_
        refine g_istore_n (pc := 42) C dX12_leastNoise_42 (Nat.le_of_ble_eq_true rfl) (lo' := [(3, .int 0), (0, .ref (adr x a0)), (1, .int a1), (2, .int a2)]) rfl ?_
        obtain ⟨n21, h⟩ := h
        refine g_sub [1, 2, 3, 0] rfl ?_
        refine t_X12_leastNoise_43 C hlk hr n21 _ _ _ _ _ h
      · replace h := h.2 z20
        refine g_iconst (pc := 39) C dX12_leastNoise_39 (v := 0) rfl ?_
        exact g_iret (pc := 40) C hlk hr (Nat.le_refl _) (Nat.le_refl _) dX12_leastNoise_40 h
  · replace h := h.1 z4
    refine g_iconst (pc := 10) C dX12_leastNoise_10 (v := 1) rfl ?_
    refine g_goto (pc := 11) C dX12_leastNoise_11 (tgt := 29) rfl ?_
    obtain ⟨k22, h⟩ := h
    refine pfX12_58 (pc := 29) C k22 dX12_leastNoise_29 ?_
    refine g_aload_n (pc := 32) C dX12_leastNoise_32 (q := 0) rfl ?_
    refine gfX12_58 (pc := 33) (w := uI w3 a0 4 1) C k22 dX12_leastNoise_33 ?_
    refine g_if_le (pc := 36) C dX12_leastNoise_36 (tgt := 41) rfl (fun z23 => ?_) (fun z23 => ?_)
    · replace h := h.1 z23
      refine g_iconst (pc := 41) C dX12_leastNoise_41 (v := 0) rfl ?_
      refine g_istore_n (pc := 42) C dX12_leastNoise_42 (Nat.le_of_ble_eq_true rfl) (lo' := [(3, .int 0), (0, .ref (adr x a0)), (1, .int a1), (2, .int a2)]) rfl ?_
      obtain ⟨n24, h⟩ := h
      refine g_sub [1, 2, 3, 0] rfl ?_
      refine t_X12_leastNoise_43 C hlk hr n24 _ _ _ _ _ h
    · replace h := h.2 z23
      refine g_iconst (pc := 39) C dX12_leastNoise_39 (v := 0) rfl ?_
      exact g_iret (pc := 40) C hlk hr (Nat.le_refl _) (Nat.le_refl _) dX12_leastNoise_40 h
def l_X12_level_67  (K : Int32 → Wd → Prop) : Nat → Nat → Int32 → Int32 → Int32 → Wd → Prop
  | 0, _, _, _, _, _ => False
  | n + 1, a0, a1, a2, a3, w => ((200 < a3 → isK w a0 12 ∧ w_X12_putsBack a0 (fun w11 => ((a3 ≤ 200 → K a3 w11) ∧ (¬ a3 ≤ 200 → K (-1) w11))) w) ∧ (¬ 200 < a3 → isK w a0 12 ∧ isK w (wR w a0 0) 20 ∧ vp_in (15 + a1) (wn w (wR w a0 0)) ∧ vp_in (15 + a2) (wn w (wR w a0 0)) ∧ (((wI w (wR w a0 0) (15 + a1).toNatClampNeg) = (wI w (wR w a0 0) (15 + a2).toNatClampNeg) → w_X12_putsBack a0 (fun w18 => ((a3 ≤ 200 → K a3 w18) ∧ (¬ a3 ≤ 200 → K (-1) w18))) w) ∧ (¬ (wI w (wR w a0 0) (15 + a1).toNatClampNeg) = (wI w (wR w a0 0) (15 + a2).toNatClampNeg) → w_X12_hour a0 (fun w20 => l_X12_level_67 K n a0 a1 a2 (a3 + 1) w20) w))))
def j_X12_level_19  (K : Int32 → Wd → Prop) (a0 : Nat) (a1 : Int32) (a2 : Int32) (s0 : Nat) (w : Wd) : Prop :=
  isK w s0 12 ∧ isK w a0 12 ∧ (((wI (uI w s0 4 1) a0 4) ≤ 0 → w_X12_putsAside a0 (fun w8 => ∃ n21, l_X12_level_67  K n21 a0 a1 a2 0 w8) (uI w s0 4 1)) ∧ (¬ (wI (uI w s0 4 1) a0 4) ≤ 0 → K 0 (uI w s0 4 1)))
def w_X12_level (a0 : Nat) (a1 : Int32) (a2 : Int32) (K : Int32 → Wd → Prop) (w : Wd) : Prop :=
  isK w a0 12 ∧ w_X12_isWell a0 a1.toInt64 (fun r2 w3 => ((r2 = 0 → j_X12_level_19 K a0 a1 a2 a0 w3) ∧ (¬ r2 = 0 → isK w3 a0 12 ∧ w_X12_isWell a0 a2.toInt64 (fun r23 w24 => ((r23 = 0 → j_X12_level_19 K a0 a1 a2 a0 w24) ∧ (¬ r23 = 0 → ((a1 = a2 → isK w24 a0 12 ∧ (((wI (uI w24 a0 4 2) a0 4) ≤ 0 → w_X12_putsAside a0 (fun w29 => ∃ n30, l_X12_level_67  K n30 a0 a1 a2 0 w29) (uI w24 a0 4 2)) ∧ (¬ (wI (uI w24 a0 4 2) a0 4) ≤ 0 → K 0 (uI w24 a0 4 2)))) ∧ (¬ a1 = a2 → isK w24 a0 12 ∧ isK w24 (wR w24 a0 0) 20 ∧ vp_in (57 + a1) (wn w24 (wR w24 a0 0)) ∧ w_X12_has (wI w24 (wR w24 a0 0) (57 + a1).toNatClampNeg) a2 (fun r34 w35 => ((r34 = 0 → isK w35 a0 12 ∧ (((wI (uI w35 a0 4 2) a0 4) ≤ 0 → w_X12_putsAside a0 (fun w39 => ∃ n40, l_X12_level_67  K n40 a0 a1 a2 0 w39) (uI w35 a0 4 2)) ∧ (¬ (wI (uI w35 a0 4 2) a0 4) ≤ 0 → K 0 (uI w35 a0 4 2)))) ∧ (¬ r34 = 0 → isK w35 a0 12 ∧ (((wI (uI w35 a0 4 0) a0 4) ≤ 0 → w_X12_putsAside a0 (fun w43 => ∃ n44, l_X12_level_67  K n44 a0 a1 a2 0 w43) (uI w35 a0 4 0)) ∧ (¬ (wI (uI w35 a0 4 0) a0 4) ≤ 0 → K 0 (uI w35 a0 4 0)))))) w24))))) w3))) w
theorem t_X12_level_67 (C : xC x p s m c cX12_level 4 args RX12) (hlk : meth.locks = false) (hr : meth.sig.returnType = some .int) {K : Int32 → Wd → Prop}   : ∀ (n : Nat) (a0 : Nat) (a1 : Int32) (a2 : Int32) (a3 : Int32) (w : Wd), l_X12_level_67 K n a0 a1 a2 a3 w → GW x p l e (rmd 4 0 0) s m args below meth c 4 (QI x K below args s 0 0) 67 [(0, .ref (adr x a0)), (1, .int a1), (2, .int a2), (3, .int a3)] [] w 0 0 := by
  intro n
  induction n with
  | zero => intro _ _ _ _ _ h; exact False.elim h
  | succ n ih =>
    intro a0 a1 a2 a3 w h
    refine g_iload_n (pc := 67) C dX12_level_67 (q := 3) rfl ?_
    refine g_sipush (pc := 68) C dX12_level_68 (v := 200) rfl ?_
    refine g_icmp_gt (pc := 71) C dX12_level_71 (tgt := 105) rfl (fun z9 => ?_) (fun z9 => ?_)
    · replace h := h.1 z9
      refine g_aload_n (pc := 105) C dX12_level_105 (q := 0) rfl ?_
      obtain ⟨k10, h⟩ := h
      refine miX12_384 (pc := 106) C k10 h (Nat.le_of_ble_eq_true rfl) (Nat.le_of_ble_eq_true rfl) ⟨Nat.le_refl _, Nat.le_refl _⟩ dX12_level_106 (fun w11 h => ?_)
      refine g_iload_n (pc := 109) C dX12_level_109 (q := 3) rfl ?_
      refine g_sipush (pc := 110) C dX12_level_110 (v := 200) rfl ?_
      refine g_icmp_le (pc := 113) C dX12_level_113 (tgt := 120) rfl (fun z12 => ?_) (fun z12 => ?_)
      · replace h := h.1 z12
        refine g_iload_n (pc := 120) C dX12_level_120 (q := 3) rfl ?_
        exact g_iret (pc := 121) C hlk hr (Nat.le_refl _) (Nat.le_refl _) dX12_level_121 h
      · replace h := h.2 z12
        refine g_iconst (pc := 116) C dX12_level_116 (v := (-1)) rfl ?_
        refine g_goto (pc := 117) C dX12_level_117 (tgt := 121) rfl ?_
        exact g_iret (pc := 121) C hlk hr (Nat.le_refl _) (Nat.le_refl _) dX12_level_121 h
    · replace h := h.2 z9
      refine g_aload_n (pc := 74) C dX12_level_74 (q := 0) rfl ?_
      obtain ⟨k13, h⟩ := h
      obtain ⟨k14, h⟩ := h
      refine gfX12_9 (pc := 75) C k13 (isK_ne k14) dX12_level_75 ?_
      refine g_bipush (pc := 78) C dX12_level_78 (v := 15) rfl ?_
      refine g_iload_n (pc := 80) C dX12_level_80 (q := 1) rfl ?_
      refine g_iadd (pc := 81) C dX12_level_81 ?_
      obtain ⟨k15, h⟩ := h
      refine g_iald (pc := 82) C k14 k15 dX12_level_82 ?_
      refine g_aload_n (pc := 83) C dX12_level_83 (q := 0) rfl ?_
      refine gfX12_9 (pc := 84) C k13 (isK_ne k14) dX12_level_84 ?_
      refine g_bipush (pc := 87) C dX12_level_87 (v := 15) rfl ?_
      refine g_iload_n (pc := 89) C dX12_level_89 (q := 2) rfl ?_
      refine g_iadd (pc := 90) C dX12_level_90 ?_
      obtain ⟨k16, h⟩ := h
      refine g_iald (pc := 91) C k14 k16 dX12_level_91 ?_
      refine g_icmp_eq (pc := 92) C dX12_level_92 (tgt := 105) rfl (fun z17 => ?_) (fun z17 => ?_)
      · replace h := h.1 z17
        refine g_aload_n (pc := 105) C dX12_level_105 (q := 0) rfl ?_
        refine miX12_384 (pc := 106) C k13 h (Nat.le_of_ble_eq_true rfl) (Nat.le_of_ble_eq_true rfl) ⟨Nat.le_refl _, Nat.le_refl _⟩ dX12_level_106 (fun w18 h => ?_)
        refine g_iload_n (pc := 109) C dX12_level_109 (q := 3) rfl ?_
        refine g_sipush (pc := 110) C dX12_level_110 (v := 200) rfl ?_
        refine g_icmp_le (pc := 113) C dX12_level_113 (tgt := 120) rfl (fun z19 => ?_) (fun z19 => ?_)
        · replace h := h.1 z19
          refine g_iload_n (pc := 120) C dX12_level_120 (q := 3) rfl ?_
          exact g_iret (pc := 121) C hlk hr (Nat.le_refl _) (Nat.le_refl _) dX12_level_121 h
        · replace h := h.2 z19
          refine g_iconst (pc := 116) C dX12_level_116 (v := (-1)) rfl ?_
          refine g_goto (pc := 117) C dX12_level_117 (tgt := 121) rfl ?_
          exact g_iret (pc := 121) C hlk hr (Nat.le_refl _) (Nat.le_refl _) dX12_level_121 h
      · replace h := h.2 z17
        refine g_aload_n (pc := 95) C dX12_level_95 (q := 0) rfl ?_
        refine miX12_347 (pc := 96) C k13 h (Nat.le_of_ble_eq_true rfl) (Nat.le_of_ble_eq_true rfl) ⟨Nat.le_refl _, Nat.le_refl _⟩ dX12_level_96 (fun w20 h => ?_)
        refine g_iinc (pc := 99) C dX12_level_99 (q := 3) rfl (v2 := a3 + 1) rfl (Nat.le_of_ble_eq_true rfl) (lo' := [(3, .int (a3 + 1)), (0, .ref (adr x a0)), (1, .int a1), (2, .int a2)]) rfl ?_
        refine g_goto (pc := 102) C dX12_level_102 (tgt := 67) rfl ?_
        refine g_sub [1, 2, 3, 0] rfl ?_
        exact ih _ _ _ _ _ h
theorem t_X12_level_19 (C : xC x p s m c cX12_level 4 args RX12) (hlk : meth.locks = false) (hr : meth.sig.returnType = some .int) {K : Int32 → Wd → Prop}   (a0 : Nat) (a1 : Int32) (a2 : Int32) (s0 : Nat) (w : Wd) (h : j_X12_level_19 K a0 a1 a2 s0 w) : GW x p l e (rmd 4 0 0) s m args below meth c 4 (QI x K below args s 0 0) 19 [(0, .ref (adr x a0)), (1, .int a1), (2, .int a2)] [.ref (adr x s0)] w 0 0 := by
  refine g_iconst (pc := 19) C dX12_level_19 (v := 1) rfl ?_
  refine g_goto (pc := 20) C dX12_level_20 (tgt := 49) rfl ?_
  obtain ⟨k5, h⟩ := h
  refine pfX12_58 (pc := 49) C k5 dX12_level_49 ?_
  refine g_aload_n (pc := 52) C dX12_level_52 (q := 0) rfl ?_
  obtain ⟨k6, h⟩ := h
  refine gfX12_58 (pc := 53) (w := uI w s0 4 1) C k6 dX12_level_53 ?_
  refine g_if_le (pc := 56) C dX12_level_56 (tgt := 61) rfl (fun z7 => ?_) (fun z7 => ?_)
  · replace h := h.1 z7
    refine g_aload_n (pc := 61) C dX12_level_61 (q := 0) rfl ?_
    refine miX12_375 (pc := 62) (w := uI w s0 4 1) C k6 h (Nat.le_of_ble_eq_true rfl) (Nat.le_of_ble_eq_true rfl) ⟨Nat.le_refl _, Nat.le_refl _⟩ dX12_level_62 (fun w8 h => ?_)
    refine g_iconst (pc := 65) C dX12_level_65 (v := 0) rfl ?_
    refine g_istore_n (pc := 66) C dX12_level_66 (Nat.le_of_ble_eq_true rfl) (lo' := [(3, .int 0), (0, .ref (adr x a0)), (1, .int a1), (2, .int a2)]) rfl ?_
    obtain ⟨n21, h⟩ := h
    refine g_sub [1, 2, 3, 0] rfl ?_
    refine t_X12_level_67 C hlk hr n21 _ _ _ _ _ h
  · replace h := h.2 z7
    refine g_iconst (pc := 59) C dX12_level_59 (v := 0) rfl ?_
    exact g_iret (pc := 60) C hlk hr (Nat.le_refl _) (Nat.le_refl _) dX12_level_60 h
theorem c_X12_level {x : xG} {l : Launch} {a0 : Nat} {a1 : Int32} {a2 : Int32} {K : Int32 → Wd → Prop} {w : Wd} (h : w_X12_level a0 a1 a2 K w) : Met l yX12_level (xws yX12_level cX12_level 4 (some .int)) (rmd 4 0 0) (xPc x [.ref (adr x a0), .int a1, .int a2] w) (QcI x K) 0 0 (xA x) := by
  refine xMet (by decide) (Nat.le_of_ble_eq_true rfl) (fun p e s m below meth c C hlk hr _ => ?_)
  show GW x p l e (rmd 4 0 0) s m [.ref (adr x a0), .int a1, .int a2].toArray below meth c 4 (QI x K below [.ref (adr x a0), .int a1, .int a2].toArray s 0 0) 0 [(0, .ref (adr x a0)), (1, .int a1), (2, .int a2)] [] w 0 0
  refine g_aload_n (pc := 0) C dX12_level_0 (q := 0) rfl ?_
  refine g_aload_n (pc := 1) C dX12_level_1 (q := 0) rfl ?_
  refine g_iload_n (pc := 2) C dX12_level_2 (q := 1) rfl ?_
  refine g_i2l (pc := 3) C dX12_level_3 ?_
  obtain ⟨k1, h⟩ := h
  refine miX12_302 (pc := 4) C k1 h (Nat.le_of_ble_eq_true rfl) (Nat.le_of_ble_eq_true rfl) ⟨Nat.le_refl _, Nat.le_refl _⟩ dX12_level_4 (fun r2 w3 h => ?_)
  refine g_if_eq (pc := 7) C dX12_level_7 (tgt := 19) rfl (fun z4 => ?_) (fun z4 => ?_)
  · replace h := h.1 z4
    exact t_X12_level_19 C hlk hr  _ _ _ _ _ h
  · replace h := h.2 z4
    refine g_aload_n (pc := 10) C dX12_level_10 (q := 0) rfl ?_
    refine g_iload_n (pc := 11) C dX12_level_11 (q := 2) rfl ?_
    refine g_i2l (pc := 12) C dX12_level_12 ?_
    obtain ⟨k22, h⟩ := h
    refine miX12_302 (pc := 13) C k22 h (Nat.le_of_ble_eq_true rfl) (Nat.le_of_ble_eq_true rfl) ⟨Nat.le_refl _, Nat.le_refl _⟩ dX12_level_13 (fun r23 w24 h => ?_)
    refine g_if_ne (pc := 16) C dX12_level_16 (tgt := 23) rfl (fun z25 => ?_) (fun z25 => ?_)
    · replace h := h.2 z25
      refine g_iload_n (pc := 23) C dX12_level_23 (q := 1) rfl ?_
      refine g_iload_n (pc := 24) C dX12_level_24 (q := 2) rfl ?_
      refine g_icmp_eq (pc := 25) C dX12_level_25 (tgt := 48) rfl (fun z26 => ?_) (fun z26 => ?_)
      · replace h := h.1 z26
        refine g_iconst (pc := 48) C dX12_level_48 (v := 2) rfl ?_
        obtain ⟨k27, h⟩ := h
        refine pfX12_58 (pc := 49) C k27 dX12_level_49 ?_
        refine g_aload_n (pc := 52) C dX12_level_52 (q := 0) rfl ?_
        refine gfX12_58 (pc := 53) (w := uI w24 a0 4 2) C k27 dX12_level_53 ?_
        refine g_if_le (pc := 56) C dX12_level_56 (tgt := 61) rfl (fun z28 => ?_) (fun z28 => ?_)
        · replace h := h.1 z28
          refine g_aload_n (pc := 61) C dX12_level_61 (q := 0) rfl ?_
          refine miX12_375 (pc := 62) (w := uI w24 a0 4 2) C k27 h (Nat.le_of_ble_eq_true rfl) (Nat.le_of_ble_eq_true rfl) ⟨Nat.le_refl _, Nat.le_refl _⟩ dX12_level_62 (fun w29 h => ?_)
          refine g_iconst (pc := 65) C dX12_level_65 (v := 0) rfl ?_
          refine g_istore_n (pc := 66) C dX12_level_66 (Nat.le_of_ble_eq_true rfl) (lo' := [(3, .int 0), (0, .ref (adr x a0)), (1, .int a1), (2, .int a2)]) rfl ?_
          obtain ⟨n30, h⟩ := h
          refine g_sub [1, 2, 3, 0] rfl ?_
          refine t_X12_level_67 C hlk hr n30 _ _ _ _ _ h
        · replace h := h.2 z28
          refine g_iconst (pc := 59) C dX12_level_59 (v := 0) rfl ?_
          exact g_iret (pc := 60) C hlk hr (Nat.le_refl _) (Nat.le_refl _) dX12_level_60 h
      · replace h := h.2 z26
        refine g_aload_n (pc := 28) C dX12_level_28 (q := 0) rfl ?_
        obtain ⟨k31, h⟩ := h
        obtain ⟨k32, h⟩ := h
        refine gfX12_9 (pc := 29) C k31 (isK_ne k32) dX12_level_29 ?_
        refine g_bipush (pc := 32) C dX12_level_32 (v := 57) rfl ?_
        refine g_iload_n (pc := 34) C dX12_level_34 (q := 1) rfl ?_
        refine g_iadd (pc := 35) C dX12_level_35 ?_
        obtain ⟨k33, h⟩ := h
        refine g_iald (pc := 36) C k32 k33 dX12_level_36 ?_
        refine g_iload_n (pc := 37) C dX12_level_37 (q := 2) rfl ?_
        refine miX12_268 (pc := 38) C h (Nat.le_of_ble_eq_true rfl) (Nat.le_of_ble_eq_true rfl) ⟨Nat.le_refl _, Nat.le_refl _⟩ dX12_level_38 (fun r34 w35 h => ?_)
        refine g_if_eq (pc := 41) C dX12_level_41 (tgt := 48) rfl (fun z36 => ?_) (fun z36 => ?_)
        · replace h := h.1 z36
          refine g_iconst (pc := 48) C dX12_level_48 (v := 2) rfl ?_
          obtain ⟨k37, h⟩ := h
          refine pfX12_58 (pc := 49) C k37 dX12_level_49 ?_
          refine g_aload_n (pc := 52) C dX12_level_52 (q := 0) rfl ?_
          refine gfX12_58 (pc := 53) (w := uI w35 a0 4 2) C k37 dX12_level_53 ?_
          refine g_if_le (pc := 56) C dX12_level_56 (tgt := 61) rfl (fun z38 => ?_) (fun z38 => ?_)
          · replace h := h.1 z38
            refine g_aload_n (pc := 61) C dX12_level_61 (q := 0) rfl ?_
            refine miX12_375 (pc := 62) (w := uI w35 a0 4 2) C k37 h (Nat.le_of_ble_eq_true rfl) (Nat.le_of_ble_eq_true rfl) ⟨Nat.le_refl _, Nat.le_refl _⟩ dX12_level_62 (fun w39 h => ?_)
            refine g_iconst (pc := 65) C dX12_level_65 (v := 0) rfl ?_
            refine g_istore_n (pc := 66) C dX12_level_66 (Nat.le_of_ble_eq_true rfl) (lo' := [(3, .int 0), (0, .ref (adr x a0)), (1, .int a1), (2, .int a2)]) rfl ?_
            obtain ⟨n40, h⟩ := h
            refine g_sub [1, 2, 3, 0] rfl ?_
            refine t_X12_level_67 C hlk hr n40 _ _ _ _ _ h
          · replace h := h.2 z38
            refine g_iconst (pc := 59) C dX12_level_59 (v := 0) rfl ?_
            exact g_iret (pc := 60) C hlk hr (Nat.le_refl _) (Nat.le_refl _) dX12_level_60 h
        · replace h := h.2 z36
          refine g_iconst (pc := 44) C dX12_level_44 (v := 0) rfl ?_
          refine g_goto (pc := 45) C dX12_level_45 (tgt := 49) rfl ?_
          obtain ⟨k41, h⟩ := h
          refine pfX12_58 (pc := 49) C k41 dX12_level_49 ?_
          refine g_aload_n (pc := 52) C dX12_level_52 (q := 0) rfl ?_
          refine gfX12_58 (pc := 53) (w := uI w35 a0 4 0) C k41 dX12_level_53 ?_
          refine g_if_le (pc := 56) C dX12_level_56 (tgt := 61) rfl (fun z42 => ?_) (fun z42 => ?_)
          · replace h := h.1 z42
            refine g_aload_n (pc := 61) C dX12_level_61 (q := 0) rfl ?_
            refine miX12_375 (pc := 62) (w := uI w35 a0 4 0) C k41 h (Nat.le_of_ble_eq_true rfl) (Nat.le_of_ble_eq_true rfl) ⟨Nat.le_refl _, Nat.le_refl _⟩ dX12_level_62 (fun w43 h => ?_)
            refine g_iconst (pc := 65) C dX12_level_65 (v := 0) rfl ?_
            refine g_istore_n (pc := 66) C dX12_level_66 (Nat.le_of_ble_eq_true rfl) (lo' := [(3, .int 0), (0, .ref (adr x a0)), (1, .int a1), (2, .int a2)]) rfl ?_
            obtain ⟨n44, h⟩ := h
            refine g_sub [1, 2, 3, 0] rfl ?_
            refine t_X12_level_67 C hlk hr n44 _ _ _ _ _ h
          · replace h := h.2 z42
            refine g_iconst (pc := 59) C dX12_level_59 (v := 0) rfl ?_
            exact g_iret (pc := 60) C hlk hr (Nat.le_refl _) (Nat.le_refl _) dX12_level_60 h
    · replace h := h.1 z25
      exact t_X12_level_19 C hlk hr  _ _ _ _ _ h
def l_X12_seenFault_33  (K : Int32 → Wd → Prop) : Nat → Nat → Int32 → Int32 → Wd → Prop
  | 0, _, _, _, _ => False
  | n + 1, a0, a1, a3, w => isK w a0 12 ∧ isK w (wR w a0 27) 20 ∧ vp_in a1 (wn w (wR w a0 27)) ∧ (((wI w (wR w a0 27) a1.toNatClampNeg) ≤ a3 → K 0 w) ∧ (¬ (wI w (wR w a0 27) a1.toNatClampNeg) ≤ a3 → isK w (wR w a0 28) 21 ∧ vp_in ((30 * a1) + a3) (wn w (wR w a0 28)) ∧ w_X12_within (wL w (wR w a0 28) ((30 * a1) + a3).toNatClampNeg) (-1) 1 (fun r17 w18 => ((r17 = 0 → K 3 w18) ∧ (¬ r17 = 0 → l_X12_seenFault_33 K n a0 a1 (a3 + 1) w18))) w))
def w_X12_seenFault (a0 : Nat) (a1 : Int32) (K : Int32 → Wd → Prop) (w : Wd) : Prop :=
  isK w a0 12 ∧ w_X12_trayFault a0 a1 (fun r2 w3 => ((r2 = 0 → isK w3 a0 12 ∧ isK w3 (wR w3 a0 27) 20 ∧ vp_in a1 (wn w3 (wR w3 a0 27)) ∧ w_X12_within ((wI w3 (wR w3 a0 27) a1.toNatClampNeg).toInt64) 1 24 (fun r8 w9 => ((r8 = 0 → K 3 w9) ∧ (¬ r8 = 0 → ∃ n20, l_X12_seenFault_33  K n20 a0 a1 0 w9))) w3) ∧ (¬ r2 = 0 → K r2 w3))) w
theorem t_X12_seenFault_33 (C : xC x p s m c cX12_seenFault 4 args RX12) (hlk : meth.locks = false) (hr : meth.sig.returnType = some .int) {K : Int32 → Wd → Prop}   : ∀ (n : Nat) (a0 : Nat) (a1 : Int32) (a3 : Int32) (w : Wd), l_X12_seenFault_33 K n a0 a1 a3 w → GW x p l e (rmd 3 0 0) s m args below meth c 4 (QI x K below args s 0 0) 33 [(0, .ref (adr x a0)), (1, .int a1), (3, .int a3)] [] w 0 0 := by
  intro n
  induction n with
  | zero => intro _ _ _ _ h; exact False.elim h
  | succ n ih =>
    intro a0 a1 a3 w h
    refine g_iload_n (pc := 33) C dX12_seenFault_33 (q := 2) rfl ?_
    refine g_aload_n (pc := 34) C dX12_seenFault_34 (q := 0) rfl ?_
    obtain ⟨k11, h⟩ := h
    obtain ⟨k12, h⟩ := h
    refine gfX12_52 (pc := 35) C k11 (isK_ne k12) dX12_seenFault_35 ?_
    refine g_iload_n (pc := 38) C dX12_seenFault_38 (q := 1) rfl ?_
    obtain ⟨k13, h⟩ := h
    refine g_iald (pc := 39) C k12 k13 dX12_seenFault_39 ?_
    refine g_icmp_ge (pc := 40) C dX12_seenFault_40 (tgt := 72) rfl (fun z14 => ?_) (fun z14 => ?_)
    · replace h := h.1 z14
      refine g_iconst (pc := 72) C dX12_seenFault_72 (v := 0) rfl ?_
      exact g_iret (pc := 73) C hlk hr (Nat.le_refl _) (Nat.le_refl _) dX12_seenFault_73 h
    · replace h := h.2 z14
      refine g_aload_n (pc := 43) C dX12_seenFault_43 (q := 0) rfl ?_
      obtain ⟨k15, h⟩ := h
      refine gfX12_55 (pc := 44) C k11 (isK_ne k15) dX12_seenFault_44 ?_
      refine g_bipush (pc := 47) C dX12_seenFault_47 (v := 30) rfl ?_
      refine g_iload_n (pc := 49) C dX12_seenFault_49 (q := 1) rfl ?_
      refine g_imul (pc := 50) C dX12_seenFault_50 ?_
      refine g_iload_n (pc := 51) C dX12_seenFault_51 (q := 2) rfl ?_
      refine g_iadd (pc := 52) C dX12_seenFault_52 ?_
      obtain ⟨k16, h⟩ := h
      refine g_lald (pc := 53) C k15 k16 dX12_seenFault_53 ?_
      refine g_ldc2 (pc := 54) C LCX12_354 dX12_seenFault_54 ?_
      refine g_lconst (pc := 57) C dX12_seenFault_57 (v := 1) rfl ?_
      refine miX12_119 (pc := 58) C h (Nat.le_of_ble_eq_true rfl) (Nat.le_of_ble_eq_true rfl) ⟨Nat.le_refl _, Nat.le_refl _⟩ dX12_seenFault_58 (fun r17 w18 h => ?_)
      refine g_if_ne (pc := 61) C dX12_seenFault_61 (tgt := 66) rfl (fun z19 => ?_) (fun z19 => ?_)
      · replace h := h.2 z19
        refine g_iinc (pc := 66) C dX12_seenFault_66 (q := 2) rfl (v2 := a3 + 1) rfl (Nat.le_of_ble_eq_true rfl) (lo' := [(3, .int (a3 + 1)), (0, .ref (adr x a0)), (1, .int a1)]) rfl ?_
        refine g_goto (pc := 69) C dX12_seenFault_69 (tgt := 33) rfl ?_
        refine g_sub [1, 2, 0] rfl ?_
        exact ih _ _ _ _ h
      · replace h := h.1 z19
        refine g_iconst (pc := 64) C dX12_seenFault_64 (v := 3) rfl ?_
        exact g_iret (pc := 65) C hlk hr (Nat.le_refl _) (Nat.le_refl _) dX12_seenFault_65 h
theorem c_X12_seenFault {x : xG} {l : Launch} {a0 : Nat} {a1 : Int32} {K : Int32 → Wd → Prop} {w : Wd} (h : w_X12_seenFault a0 a1 K w) : Met l yX12_seenFault (xws yX12_seenFault cX12_seenFault 4 (some .int)) (rmd 3 0 0) (xPc x [.ref (adr x a0), .int a1] w) (QcI x K) 0 0 (xA x) := by
  refine xMet (by decide) (Nat.le_of_ble_eq_true rfl) (fun p e s m below meth c C hlk hr _ => ?_)
  show GW x p l e (rmd 3 0 0) s m [.ref (adr x a0), .int a1].toArray below meth c 4 (QI x K below [.ref (adr x a0), .int a1].toArray s 0 0) 0 [(0, .ref (adr x a0)), (1, .int a1)] [] w 0 0
  refine g_aload_n (pc := 0) C dX12_seenFault_0 (q := 0) rfl ?_
  refine g_iload_n (pc := 1) C dX12_seenFault_1 (q := 1) rfl ?_
  obtain ⟨k1, h⟩ := h
  refine miX12_370 (pc := 2) C k1 h (Nat.le_of_ble_eq_true rfl) (Nat.le_of_ble_eq_true rfl) ⟨Nat.le_refl _, Nat.le_refl _⟩ dX12_seenFault_2 (fun r2 w3 h => ?_)
  refine g_istore_n (pc := 5) C dX12_seenFault_5 (Nat.le_of_ble_eq_true rfl) (lo' := [(2, .int r2), (0, .ref (adr x a0)), (1, .int a1)]) rfl ?_
  refine g_iload_n (pc := 6) C dX12_seenFault_6 (q := 0) rfl ?_
  refine g_if_eq (pc := 7) C dX12_seenFault_7 (tgt := 12) rfl (fun z4 => ?_) (fun z4 => ?_)
  · replace h := h.1 z4
    refine g_aload_n (pc := 12) C dX12_seenFault_12 (q := 1) rfl ?_
    obtain ⟨k5, h⟩ := h
    obtain ⟨k6, h⟩ := h
    refine gfX12_52 (pc := 13) C k5 (isK_ne k6) dX12_seenFault_13 ?_
    refine g_iload_n (pc := 16) C dX12_seenFault_16 (q := 2) rfl ?_
    obtain ⟨k7, h⟩ := h
    refine g_iald (pc := 17) C k6 k7 dX12_seenFault_17 ?_
    refine g_i2l (pc := 18) C dX12_seenFault_18 ?_
    refine g_lconst (pc := 19) C dX12_seenFault_19 (v := 1) rfl ?_
    refine g_ldc2 (pc := 20) C LCX12_445 dX12_seenFault_20 ?_
    refine miX12_119 (pc := 23) C h (Nat.le_of_ble_eq_true rfl) (Nat.le_of_ble_eq_true rfl) ⟨Nat.le_refl _, Nat.le_refl _⟩ dX12_seenFault_23 (fun r8 w9 h => ?_)
    refine g_if_ne (pc := 26) C dX12_seenFault_26 (tgt := 31) rfl (fun z10 => ?_) (fun z10 => ?_)
    · replace h := h.2 z10
      refine g_iconst (pc := 31) C dX12_seenFault_31 (v := 0) rfl ?_
      refine g_istore_n (pc := 32) C dX12_seenFault_32 (Nat.le_of_ble_eq_true rfl) (lo' := [(3, .int 0), (2, .int r2), (0, .ref (adr x a0)), (1, .int a1)]) rfl ?_
      obtain ⟨n20, h⟩ := h
      refine g_sub [2, 3, 0] rfl ?_
      refine t_X12_seenFault_33 C hlk hr n20 _ _ _ _ h
    · replace h := h.1 z10
      refine g_iconst (pc := 29) C dX12_seenFault_29 (v := 3) rfl ?_
      exact g_iret (pc := 30) C hlk hr (Nat.le_refl _) (Nat.le_refl _) dX12_seenFault_30 h
  · replace h := h.2 z4
    refine g_iload_n (pc := 10) C dX12_seenFault_10 (q := 0) rfl ?_
    exact g_iret (pc := 11) C hlk hr (Nat.le_refl _) (Nat.le_refl _) dX12_seenFault_11 h
theorem miX12_457 (C : xC x p s m c cc nL args RX12) {a0 : Nat} {a1 : Int32} {K : Int32 → Wd → Prop} {D MC MS : Nat} (hq : isK w a0 12) (h : w_X12_seenFault a0 a1 K w) (hD : 3 + 1 ≤ D) (hW : (st.map fun v => v.category).sum ≤ 8) (hij : i ≤ MC ∧ j ≤ MS) (hd : decode cc pc = .ok (.invokevirtual 457, 3)) (k : ∀ (r : Int32) (u : Wd), K r u → GW x p l e (rmd D MC MS) s m args below meth c nL Q (pc + 3) lo (.int r :: st) u i j) : GW x p l e (rmd D MC MS) s m args below meth c nL Q pc lo (.int a1 :: .ref (adr x a0) :: st) w i j := g_callVi0 C (As := [.int a1]) (ci := 12) (c_X12_seenFault h) (x_cwV C 1 LMX12_457 ⟨rfl, by decide, by decide, rfl⟩ hD (by decide)) rfl hq (by decide) rfl rfl hW hd hij k
theorem miX12_460 (C : xC x p s m c cc nL args RX12) {a0 : Nat} {a1 : Int32} {a2 : Int32} {a3 : Int32} {K : Int32 → Wd → Prop} {D MC MS : Nat} (hq : isK w a0 12) (h : w_X12_fitting a0 a1 a2 a3 K w) (hD : 2 + 1 ≤ D) (hW : (st.map fun v => v.category).sum ≤ 8) (hij : i ≤ MC ∧ j ≤ MS) (hd : decode cc pc = .ok (.invokevirtual 460, 3)) (k : ∀ (r : Int32) (u : Wd), K r u → GW x p l e (rmd D MC MS) s m args below meth c nL Q (pc + 3) lo (.int r :: st) u i j) : GW x p l e (rmd D MC MS) s m args below meth c nL Q pc lo (.int a3 :: .int a2 :: .int a1 :: .ref (adr x a0) :: st) w i j := g_callVi0 C (As := [.int a1, .int a2, .int a3]) (ci := 12) (c_X12_fitting h) (x_cwV C 3 LMX12_460 ⟨rfl, by decide, by decide, rfl⟩ hD (by decide)) rfl hq (by decide) rfl rfl hW hd hij k
def l_X12_listen_40  (K : Int32 → Wd → Prop) : Nat → Nat → Int32 → Int32 → Int32 → Int32 → Int32 → Wd → Prop
  | 0, _, _, _, _, _, _, _ => False
  | n + 1, a0, a1, a2, a3, a4, a5, w => ((24 ≤ a5 → K a3 w) ∧ (¬ 24 ≤ a5 → isK w a0 12 ∧ isK w (wR w a0 27) 20 ∧ vp_in a1 (wn w (wR w a0 27)) ∧ w_X12_fitting a0 a1 ((wI w (wR w a0 27) a1.toNatClampNeg) + a5) (-1) (fun r13 w14 => w_J9_min_7cf53 r13 (a2 - r13) (fun r15 w16 => ((a4 < r15 → l_X12_listen_40 K n a0 a1 a2 (a5 + 1) r15 (a5 + 1) w16) ∧ (¬ a4 < r15 → l_X12_listen_40 K n a0 a1 a2 a3 a4 (a5 + 1) w16))) w14) w))
def w_X12_listen (a0 : Nat) (a1 : Int32) (K : Int32 → Wd → Prop) (w : Wd) : Prop :=
  isK w a0 12 ∧ w_X12_seenFault a0 a1 (fun r2 w3 => isK w3 a0 12 ∧ (((wI (uI w3 a0 4 r2) a0 4) ≤ 0 → w_X12_fitting a0 a1 (-1) (-1) (fun r6 w7 => ((r6 = 0 → K (-1) w7) ∧ (¬ r6 = 0 → ∃ n18, l_X12_listen_40  K n18 a0 a1 r6 (-1) (-1) 0 w7))) (uI w3 a0 4 r2)) ∧ (¬ (wI (uI w3 a0 4 r2) a0 4) ≤ 0 → K 0 (uI w3 a0 4 r2)))) w
theorem t_X12_listen_40 (C : xC x p s m c cX12_listen 8 args RX12) (hlk : meth.locks = false) (hr : meth.sig.returnType = some .int) {K : Int32 → Wd → Prop}   : ∀ (n : Nat) (a0 : Nat) (a1 : Int32) (a2 : Int32) (a3 : Int32) (a4 : Int32) (a5 : Int32) (w : Wd), l_X12_listen_40 K n a0 a1 a2 a3 a4 a5 w → GW x p l e (rmd 4 0 0) s m args below meth c 8 (QI x K below args s 0 0) 40 [(0, .ref (adr x a0)), (1, .int a1), (2, .int a2), (3, .int a3), (4, .int a4), (5, .int a5)] [] w 0 0 := by
  intro n
  induction n with
  | zero => intro _ _ _ _ _ _ _ h; exact False.elim h
  | succ n ih =>
    intro a0 a1 a2 a3 a4 a5 w h
    refine g_iload (pc := 40) C dX12_listen_40 (q := 5) rfl ?_
    refine g_bipush (pc := 42) C dX12_listen_42 (v := 24) rfl ?_
    refine g_icmp_ge (pc := 44) C dX12_listen_44 (tgt := 100) rfl (fun z9 => ?_) (fun z9 => ?_)
    · replace h := h.1 z9
      refine g_iload_n (pc := 100) C dX12_listen_100 (q := 3) rfl ?_
      exact g_iret (pc := 101) C hlk hr (Nat.le_refl _) (Nat.le_refl _) dX12_listen_101 h
    · replace h := h.2 z9
      refine g_aload_n (pc := 47) C dX12_listen_47 (q := 0) rfl ?_
      refine g_iload_n (pc := 48) C dX12_listen_48 (q := 1) rfl ?_
      refine g_aload_n (pc := 49) C dX12_listen_49 (q := 0) rfl ?_
      obtain ⟨k10, h⟩ := h
      obtain ⟨k11, h⟩ := h
      refine gfX12_52 (pc := 50) C k10 (isK_ne k11) dX12_listen_50 ?_
      refine g_iload_n (pc := 53) C dX12_listen_53 (q := 1) rfl ?_
      obtain ⟨k12, h⟩ := h
      refine g_iald (pc := 54) C k11 k12 dX12_listen_54 ?_
      refine g_iload (pc := 55) C dX12_listen_55 (q := 5) rfl ?_
      refine g_iadd (pc := 57) C dX12_listen_57 ?_
      refine g_iconst (pc := 58) C dX12_listen_58 (v := (-1)) rfl ?_
      refine miX12_460 (pc := 59) C k10 h (Nat.le_of_ble_eq_true rfl) (Nat.le_of_ble_eq_true rfl) ⟨Nat.le_refl _, Nat.le_refl _⟩ dX12_listen_59 (fun r13 w14 h => ?_)
      refine g_istore (pc := 62) C dX12_listen_62 (Nat.le_of_ble_eq_true rfl) (lo' := [(6, .int r13), (0, .ref (adr x a0)), (1, .int a1), (2, .int a2), (3, .int a3), (4, .int a4), (5, .int a5)]) rfl ?_
      refine g_iload (pc := 64) C dX12_listen_64 (q := 0) rfl ?_
      refine g_iload_n (pc := 66) C dX12_listen_66 (q := 3) rfl ?_
      refine g_iload (pc := 67) C dX12_listen_67 (q := 0) rfl ?_
      refine g_isub (pc := 69) C dX12_listen_69 ?_
      refine miX12_297 (pc := 70) C h (Nat.le_of_ble_eq_true rfl) (Nat.le_of_ble_eq_true rfl) ⟨Nat.le_refl _, Nat.le_refl _⟩ dX12_listen_70 (fun r15 w16 h => ?_)
      refine g_istore (pc := 73) C dX12_listen_73 (Nat.le_of_ble_eq_true rfl) (lo' := [(7, .int r15), (6, .int r13), (0, .ref (adr x a0)), (1, .int a1), (2, .int a2), (3, .int a3), (4, .int a4), (5, .int a5)]) rfl ?_
      refine g_iload (pc := 75) C dX12_listen_75 (q := 0) rfl ?_
      refine g_iload (pc := 77) C dX12_listen_77 (q := 6) rfl ?_
      refine g_icmp_gt (pc := 79) C dX12_listen_79 (tgt := 85) rfl (fun z17 => ?_) (fun z17 => ?_)
      · replace h := h.1 z17
        refine g_iload (pc := 85) C dX12_listen_85 (q := 7) rfl ?_
        refine g_iconst (pc := 87) C dX12_listen_87 (v := 1) rfl ?_
        refine g_iadd (pc := 88) C dX12_listen_88 ?_
        refine g_istore_n (pc := 89) C dX12_listen_89 (Nat.le_of_ble_eq_true rfl) (lo' := [(3, .int (a5 + 1)), (7, .int r15), (6, .int r13), (0, .ref (adr x a0)), (1, .int a1), (2, .int a2), (4, .int a4), (5, .int a5)]) rfl ?_
        refine g_iload (pc := 90) C dX12_listen_90 (q := 1) rfl ?_
        refine g_istore (pc := 92) C dX12_listen_92 (Nat.le_of_ble_eq_true rfl) (lo' := [(4, .int r15), (3, .int (a5 + 1)), (7, .int r15), (6, .int r13), (0, .ref (adr x a0)), (1, .int a1), (2, .int a2), (5, .int a5)]) rfl ?_
        refine g_iinc (pc := 94) C dX12_listen_94 (q := 7) rfl (v2 := a5 + 1) rfl (Nat.le_of_ble_eq_true rfl) (lo' := [(5, .int (a5 + 1)), (4, .int r15), (3, .int (a5 + 1)), (7, .int r15), (6, .int r13), (0, .ref (adr x a0)), (1, .int a1), (2, .int a2)]) rfl ?_
        refine g_goto (pc := 97) C dX12_listen_97 (tgt := 40) rfl ?_
        refine g_sub [5, 6, 7, 2, 1, 0] rfl ?_
        exact ih _ _ _ _ _ _ _ h
      · replace h := h.2 z17
        refine g_goto (pc := 82) C dX12_listen_82 (tgt := 94) rfl ?_
        refine g_iinc (pc := 94) C dX12_listen_94 (q := 7) rfl (v2 := a5 + 1) rfl (Nat.le_of_ble_eq_true rfl) (lo' := [(5, .int (a5 + 1)), (7, .int r15), (6, .int r13), (0, .ref (adr x a0)), (1, .int a1), (2, .int a2), (3, .int a3), (4, .int a4)]) rfl ?_
        refine g_goto (pc := 97) C dX12_listen_97 (tgt := 40) rfl ?_
        refine g_sub [3, 4, 5, 6, 7, 0] rfl ?_
        exact ih _ _ _ _ _ _ _ h
theorem c_X12_listen {x : xG} {l : Launch} {a0 : Nat} {a1 : Int32} {K : Int32 → Wd → Prop} {w : Wd} (h : w_X12_listen a0 a1 K w) : Met l yX12_listen (xws yX12_listen cX12_listen 8 (some .int)) (rmd 4 0 0) (xPc x [.ref (adr x a0), .int a1] w) (QcI x K) 0 0 (xA x) := by
  refine xMet (by decide) (Nat.le_of_ble_eq_true rfl) (fun p e s m below meth c C hlk hr _ => ?_)
  show GW x p l e (rmd 4 0 0) s m [.ref (adr x a0), .int a1].toArray below meth c 8 (QI x K below [.ref (adr x a0), .int a1].toArray s 0 0) 0 [(0, .ref (adr x a0)), (1, .int a1)] [] w 0 0
  refine g_aload_n (pc := 0) C dX12_listen_0 (q := 0) rfl ?_
  refine g_aload_n (pc := 1) C dX12_listen_1 (q := 0) rfl ?_
  refine g_iload_n (pc := 2) C dX12_listen_2 (q := 1) rfl ?_
  obtain ⟨k1, h⟩ := h
  refine miX12_457 (pc := 3) C k1 h (Nat.le_of_ble_eq_true rfl) (Nat.le_of_ble_eq_true rfl) ⟨Nat.le_refl _, Nat.le_refl _⟩ dX12_listen_3 (fun r2 w3 h => ?_)
  obtain ⟨k4, h⟩ := h
  refine pfX12_58 (pc := 6) C k4 dX12_listen_6 ?_
  refine g_aload_n (pc := 9) C dX12_listen_9 (q := 0) rfl ?_
  refine gfX12_58 (pc := 10) (w := uI w3 a0 4 r2) C k4 dX12_listen_10 ?_
  refine g_if_le (pc := 13) C dX12_listen_13 (tgt := 18) rfl (fun z5 => ?_) (fun z5 => ?_)
  · replace h := h.1 z5
    refine g_aload_n (pc := 18) C dX12_listen_18 (q := 0) rfl ?_
    refine g_iload_n (pc := 19) C dX12_listen_19 (q := 1) rfl ?_
    refine g_iconst (pc := 20) C dX12_listen_20 (v := (-1)) rfl ?_
    refine g_iconst (pc := 21) C dX12_listen_21 (v := (-1)) rfl ?_
    refine miX12_460 (pc := 22) (w := uI w3 a0 4 r2) C k4 h (Nat.le_of_ble_eq_true rfl) (Nat.le_of_ble_eq_true rfl) ⟨Nat.le_refl _, Nat.le_refl _⟩ dX12_listen_22 (fun r6 w7 h => ?_)
    refine g_istore_n (pc := 25) C dX12_listen_25 (Nat.le_of_ble_eq_true rfl) (lo' := [(2, .int r6), (0, .ref (adr x a0)), (1, .int a1)]) rfl ?_
    refine g_iload_n (pc := 26) C dX12_listen_26 (q := 0) rfl ?_
    refine g_if_ne (pc := 27) C dX12_listen_27 (tgt := 32) rfl (fun z8 => ?_) (fun z8 => ?_)
    · replace h := h.2 z8
      refine g_iconst (pc := 32) C dX12_listen_32 (v := (-1)) rfl ?_
      refine g_istore_n (pc := 33) C dX12_listen_33 (Nat.le_of_ble_eq_true rfl) (lo' := [(3, .int (-1)), (2, .int r6), (0, .ref (adr x a0)), (1, .int a1)]) rfl ?_
      refine g_iconst (pc := 34) C dX12_listen_34 (v := (-1)) rfl ?_
      refine g_istore (pc := 35) C dX12_listen_35 (Nat.le_of_ble_eq_true rfl) (lo' := [(4, .int (-1)), (3, .int (-1)), (2, .int r6), (0, .ref (adr x a0)), (1, .int a1)]) rfl ?_
      refine g_iconst (pc := 37) C dX12_listen_37 (v := 0) rfl ?_
      refine g_istore (pc := 38) C dX12_listen_38 (Nat.le_of_ble_eq_true rfl) (lo' := [(5, .int 0), (4, .int (-1)), (3, .int (-1)), (2, .int r6), (0, .ref (adr x a0)), (1, .int a1)]) rfl ?_
      obtain ⟨n18, h⟩ := h
      refine g_sub [4, 5, 3, 2, 1, 0] rfl ?_
      refine t_X12_listen_40 C hlk hr n18 _ _ _ _ _ _ _ h
    · replace h := h.1 z8
      refine g_iconst (pc := 30) C dX12_listen_30 (v := (-1)) rfl ?_
      exact g_iret (pc := 31) C hlk hr (Nat.le_refl _) (Nat.le_refl _) dX12_listen_31 h
  · replace h := h.2 z5
    refine g_iconst (pc := 16) C dX12_listen_16 (v := 0) rfl ?_
    exact g_iret (pc := 17) C hlk hr (Nat.le_refl _) (Nat.le_refl _) dX12_listen_17 h
def l_X12_loudHour_50  (K : Int32 → Wd → Prop) : Nat → Nat → Int32 → Int32 → Int32 → Int32 → Int32 → Wd → Prop
  | 0, _, _, _, _, _, _, _ => False
  | n + 1, a0, a1, a2, a3, a4, a5, w => ((40 < a5 → isK w a0 12 ∧ w_X12_putsBack a0 (fun w14 => K a3 w14) w) ∧ (¬ 40 < a5 → isK w a0 12 ∧ w_X12_chainOf a0 a1 a2 (fun r16 w17 => w_X12_size r16 (fun r18 w19 => ((r18 ≤ a4 → isK w19 a0 12 ∧ w_X12_hour a0 (fun w22 => l_X12_loudHour_50 K n a0 a1 a2 a3 a4 (a5 + 1) w22) w19) ∧ (¬ r18 ≤ a4 → isK w19 a0 12 ∧ w_X12_hour a0 (fun w24 => l_X12_loudHour_50 K n a0 a1 a2 a5 r18 (a5 + 1) w24) w19))) w17) w))
def j_X12_loudHour_26  (K : Int32 → Wd → Prop) (a0 : Nat) (a1 : Int32) (a2 : Int32) (s0 : Int32) (s1 : Nat) (w : Wd) : Prop :=
  isK w s1 12 ∧ isK w a0 12 ∧ (((wI (uI w s1 4 s0) a0 4) ≤ 0 → w_X12_putsAside a0 (fun w11 => ∃ n25, l_X12_loudHour_50  K n25 a0 a1 a2 0 (-1) 0 w11) (uI w s1 4 s0)) ∧ (¬ (wI (uI w s1 4 s0) a0 4) ≤ 0 → K 0 (uI w s1 4 s0)))
def w_X12_loudHour (a0 : Nat) (a1 : Int32) (a2 : Int32) (K : Int32 → Wd → Prop) (w : Wd) : Prop :=
  isK w a0 12 ∧ w_X12_isWell a0 a1.toInt64 (fun r2 w3 => ((r2 = 0 → j_X12_loudHour_26 K a0 a1 a2 1 a0 w3) ∧ (¬ r2 = 0 → w_X12_isNoise a2 (fun r5 w6 => ((r5 = 0 → j_X12_loudHour_26 K a0 a1 a2 2 a0 w6) ∧ (¬ r5 = 0 → j_X12_loudHour_26 K a0 a1 a2 0 a0 w6))) w3))) w
theorem t_X12_loudHour_50 (C : xC x p s m c cX12_loudHour 7 args RX12) (hlk : meth.locks = false) (hr : meth.sig.returnType = some .int) {K : Int32 → Wd → Prop}   : ∀ (n : Nat) (a0 : Nat) (a1 : Int32) (a2 : Int32) (a3 : Int32) (a4 : Int32) (a5 : Int32) (w : Wd), l_X12_loudHour_50 K n a0 a1 a2 a3 a4 a5 w → GW x p l e (rmd 6 0 0) s m args below meth c 7 (QI x K below args s 0 0) 50 [(0, .ref (adr x a0)), (1, .int a1), (2, .int a2), (3, .int a3), (4, .int a4), (5, .int a5)] [] w 0 0 := by
  intro n
  induction n with
  | zero => intro _ _ _ _ _ _ _ h; exact False.elim h
  | succ n ih =>
    intro a0 a1 a2 a3 a4 a5 w h
    refine g_iload (pc := 50) C dX12_loudHour_50 (q := 5) rfl ?_
    refine g_bipush (pc := 52) C dX12_loudHour_52 (v := 40) rfl ?_
    refine g_icmp_gt (pc := 54) C dX12_loudHour_54 (tgt := 92) rfl (fun z12 => ?_) (fun z12 => ?_)
    · replace h := h.1 z12
      refine g_aload_n (pc := 92) C dX12_loudHour_92 (q := 0) rfl ?_
      obtain ⟨k13, h⟩ := h
      refine miX12_384 (pc := 93) C k13 h (Nat.le_of_ble_eq_true rfl) (Nat.le_of_ble_eq_true rfl) ⟨Nat.le_refl _, Nat.le_refl _⟩ dX12_loudHour_93 (fun w14 h => ?_)
      refine g_iload_n (pc := 96) C dX12_loudHour_96 (q := 3) rfl ?_
      exact g_iret (pc := 97) C hlk hr (Nat.le_refl _) (Nat.le_refl _) dX12_loudHour_97 h
    · replace h := h.2 z12
      refine g_aload_n (pc := 57) C dX12_loudHour_57 (q := 0) rfl ?_
      refine g_iload_n (pc := 58) C dX12_loudHour_58 (q := 1) rfl ?_
      refine g_iload_n (pc := 59) C dX12_loudHour_59 (q := 2) rfl ?_
      obtain ⟨k15, h⟩ := h
      refine miX12_316 (pc := 60) C k15 h (Nat.le_of_ble_eq_true rfl) (Nat.le_of_ble_eq_true rfl) ⟨Nat.le_refl _, Nat.le_refl _⟩ dX12_loudHour_60 (fun r16 w17 h => ?_)
      refine miX12_265 (pc := 63) C h (Nat.le_of_ble_eq_true rfl) (Nat.le_of_ble_eq_true rfl) ⟨Nat.le_refl _, Nat.le_refl _⟩ dX12_loudHour_63 (fun r18 w19 h => ?_)
      refine g_istore (pc := 66) C dX12_loudHour_66 (Nat.le_of_ble_eq_true rfl) (lo' := [(6, .int r18), (0, .ref (adr x a0)), (1, .int a1), (2, .int a2), (3, .int a3), (4, .int a4), (5, .int a5)]) rfl ?_
      refine g_iload (pc := 68) C dX12_loudHour_68 (q := 0) rfl ?_
      refine g_iload (pc := 70) C dX12_loudHour_70 (q := 5) rfl ?_
      refine g_icmp_le (pc := 72) C dX12_loudHour_72 (tgt := 82) rfl (fun z20 => ?_) (fun z20 => ?_)
      · replace h := h.1 z20
        refine g_aload_n (pc := 82) C dX12_loudHour_82 (q := 1) rfl ?_
        obtain ⟨k21, h⟩ := h
        refine miX12_347 (pc := 83) C k21 h (Nat.le_of_ble_eq_true rfl) (Nat.le_of_ble_eq_true rfl) ⟨Nat.le_refl _, Nat.le_refl _⟩ dX12_loudHour_83 (fun w22 h => ?_)
        refine g_iinc (pc := 86) C dX12_loudHour_86 (q := 6) rfl (v2 := a5 + 1) rfl (Nat.le_of_ble_eq_true rfl) (lo' := [(5, .int (a5 + 1)), (6, .int r18), (0, .ref (adr x a0)), (1, .int a1), (2, .int a2), (3, .int a3), (4, .int a4)]) rfl ?_
        refine g_goto (pc := 89) C dX12_loudHour_89 (tgt := 50) rfl ?_
        refine g_sub [2, 3, 4, 5, 6, 0] rfl ?_
        exact ih _ _ _ _ _ _ _ h
      · replace h := h.2 z20
        refine g_iload (pc := 75) C dX12_loudHour_75 (q := 6) rfl ?_
        refine g_istore_n (pc := 77) C dX12_loudHour_77 (Nat.le_of_ble_eq_true rfl) (lo' := [(3, .int a5), (6, .int r18), (0, .ref (adr x a0)), (1, .int a1), (2, .int a2), (4, .int a4), (5, .int a5)]) rfl ?_
        refine g_iload (pc := 78) C dX12_loudHour_78 (q := 1) rfl ?_
        refine g_istore (pc := 80) C dX12_loudHour_80 (Nat.le_of_ble_eq_true rfl) (lo' := [(4, .int r18), (3, .int a5), (6, .int r18), (0, .ref (adr x a0)), (1, .int a1), (2, .int a2), (5, .int a5)]) rfl ?_
        refine g_aload_n (pc := 82) C dX12_loudHour_82 (q := 3) rfl ?_
        obtain ⟨k23, h⟩ := h
        refine miX12_347 (pc := 83) C k23 h (Nat.le_of_ble_eq_true rfl) (Nat.le_of_ble_eq_true rfl) ⟨Nat.le_refl _, Nat.le_refl _⟩ dX12_loudHour_83 (fun w24 h => ?_)
        refine g_iinc (pc := 86) C dX12_loudHour_86 (q := 6) rfl (v2 := a5 + 1) rfl (Nat.le_of_ble_eq_true rfl) (lo' := [(5, .int (a5 + 1)), (4, .int r18), (3, .int a5), (6, .int r18), (0, .ref (adr x a0)), (1, .int a1), (2, .int a2)]) rfl ?_
        refine g_goto (pc := 89) C dX12_loudHour_89 (tgt := 50) rfl ?_
        refine g_sub [4, 5, 6, 2, 1, 0] rfl ?_
        exact ih _ _ _ _ _ _ _ h
theorem t_X12_loudHour_26 (C : xC x p s m c cX12_loudHour 7 args RX12) (hlk : meth.locks = false) (hr : meth.sig.returnType = some .int) {K : Int32 → Wd → Prop}   (a0 : Nat) (a1 : Int32) (a2 : Int32) (s0 : Int32) (s1 : Nat) (w : Wd) (h : j_X12_loudHour_26 K a0 a1 a2 s0 s1 w) : GW x p l e (rmd 6 0 0) s m args below meth c 7 (QI x K below args s 0 0) 26 [(0, .ref (adr x a0)), (1, .int a1), (2, .int a2)] [.int s0, .ref (adr x s1)] w 0 0 := by
  obtain ⟨k8, h⟩ := h
  refine pfX12_58 (pc := 26) C k8 dX12_loudHour_26 ?_
  refine g_aload_n (pc := 29) C dX12_loudHour_29 (q := 0) rfl ?_
  obtain ⟨k9, h⟩ := h
  refine gfX12_58 (pc := 30) (w := uI w s1 4 s0) C k9 dX12_loudHour_30 ?_
  refine g_if_le (pc := 33) C dX12_loudHour_33 (tgt := 38) rfl (fun z10 => ?_) (fun z10 => ?_)
  · replace h := h.1 z10
    refine g_aload_n (pc := 38) C dX12_loudHour_38 (q := 0) rfl ?_
    refine miX12_375 (pc := 39) (w := uI w s1 4 s0) C k9 h (Nat.le_of_ble_eq_true rfl) (Nat.le_of_ble_eq_true rfl) ⟨Nat.le_refl _, Nat.le_refl _⟩ dX12_loudHour_39 (fun w11 h => ?_)
    refine g_iconst (pc := 42) C dX12_loudHour_42 (v := 0) rfl ?_
    refine g_istore_n (pc := 43) C dX12_loudHour_43 (Nat.le_of_ble_eq_true rfl) (lo' := [(3, .int 0), (0, .ref (adr x a0)), (1, .int a1), (2, .int a2)]) rfl ?_
    refine g_iconst (pc := 44) C dX12_loudHour_44 (v := (-1)) rfl ?_
    refine g_istore (pc := 45) C dX12_loudHour_45 (Nat.le_of_ble_eq_true rfl) (lo' := [(4, .int (-1)), (3, .int 0), (0, .ref (adr x a0)), (1, .int a1), (2, .int a2)]) rfl ?_
    refine g_iconst (pc := 47) C dX12_loudHour_47 (v := 0) rfl ?_
    refine g_istore (pc := 48) C dX12_loudHour_48 (Nat.le_of_ble_eq_true rfl) (lo' := [(5, .int 0), (4, .int (-1)), (3, .int 0), (0, .ref (adr x a0)), (1, .int a1), (2, .int a2)]) rfl ?_
    obtain ⟨n25, h⟩ := h
    refine g_sub [3, 4, 5, 2, 1, 0] rfl ?_
    refine t_X12_loudHour_50 C hlk hr n25 _ _ _ _ _ _ _ h
  · replace h := h.2 z10
    refine g_iconst (pc := 36) C dX12_loudHour_36 (v := 0) rfl ?_
    exact g_iret (pc := 37) C hlk hr (Nat.le_refl _) (Nat.le_refl _) dX12_loudHour_37 h
theorem c_X12_loudHour {x : xG} {l : Launch} {a0 : Nat} {a1 : Int32} {a2 : Int32} {K : Int32 → Wd → Prop} {w : Wd} (h : w_X12_loudHour a0 a1 a2 K w) : Met l yX12_loudHour (xws yX12_loudHour cX12_loudHour 7 (some .int)) (rmd 6 0 0) (xPc x [.ref (adr x a0), .int a1, .int a2] w) (QcI x K) 0 0 (xA x) := by
  refine xMet (by decide) (Nat.le_of_ble_eq_true rfl) (fun p e s m below meth c C hlk hr _ => ?_)
  show GW x p l e (rmd 6 0 0) s m [.ref (adr x a0), .int a1, .int a2].toArray below meth c 7 (QI x K below [.ref (adr x a0), .int a1, .int a2].toArray s 0 0) 0 [(0, .ref (adr x a0)), (1, .int a1), (2, .int a2)] [] w 0 0
  refine g_aload_n (pc := 0) C dX12_loudHour_0 (q := 0) rfl ?_
  refine g_aload_n (pc := 1) C dX12_loudHour_1 (q := 0) rfl ?_
  refine g_iload_n (pc := 2) C dX12_loudHour_2 (q := 1) rfl ?_
  refine g_i2l (pc := 3) C dX12_loudHour_3 ?_
  obtain ⟨k1, h⟩ := h
  refine miX12_302 (pc := 4) C k1 h (Nat.le_of_ble_eq_true rfl) (Nat.le_of_ble_eq_true rfl) ⟨Nat.le_refl _, Nat.le_refl _⟩ dX12_loudHour_4 (fun r2 w3 h => ?_)
  refine g_if_ne (pc := 7) C dX12_loudHour_7 (tgt := 14) rfl (fun z4 => ?_) (fun z4 => ?_)
  · replace h := h.2 z4
    refine g_iload_n (pc := 14) C dX12_loudHour_14 (q := 2) rfl ?_
    refine miX12_402 (pc := 15) C h (Nat.le_of_ble_eq_true rfl) (Nat.le_of_ble_eq_true rfl) ⟨Nat.le_refl _, Nat.le_refl _⟩ dX12_loudHour_15 (fun r5 w6 h => ?_)
    refine g_if_eq (pc := 18) C dX12_loudHour_18 (tgt := 25) rfl (fun z7 => ?_) (fun z7 => ?_)
    · replace h := h.1 z7
      refine g_iconst (pc := 25) C dX12_loudHour_25 (v := 2) rfl ?_
      exact t_X12_loudHour_26 C hlk hr  _ _ _ _ _ _ h
    · replace h := h.2 z7
      refine g_iconst (pc := 21) C dX12_loudHour_21 (v := 0) rfl ?_
      refine g_goto (pc := 22) C dX12_loudHour_22 (tgt := 26) rfl ?_
      exact t_X12_loudHour_26 C hlk hr  _ _ _ _ _ _ h
  · replace h := h.1 z4
    refine g_iconst (pc := 10) C dX12_loudHour_10 (v := 1) rfl ?_
    refine g_goto (pc := 11) C dX12_loudHour_11 (tgt := 26) rfl ?_
    exact t_X12_loudHour_26 C hlk hr  _ _ _ _ _ _ h
def l_X12_loudest_22  (K : Int32 → Wd → Prop) : Nat → Nat → Int32 → Int32 → Int32 → Wd → Prop
  | 0, _, _, _, _, _ => False
  | n + 1, a0, a1, a2, a3, w => isK w a0 12 ∧ w_X12_wells a0 (fun r6 w7 => ((r6 ≤ a3 → K a2 w7) ∧ (¬ r6 ≤ a3 → ((a2 = (-1) → l_X12_loudest_22 K n a0 a1 a3 (a3 + 1) w7) ∧ (¬ a2 = (-1) → isK w7 a0 12 ∧ w_X12_chainOf a0 a3 a1 (fun r11 w12 => w_X12_size r11 (fun r13 w14 => isK w14 a0 12 ∧ w_X12_chainOf a0 a2 a1 (fun r16 w17 => w_X12_size r16 (fun r18 w19 => ((r13 ≤ r18 → l_X12_loudest_22 K n a0 a1 a2 (a3 + 1) w19) ∧ (¬ r13 ≤ r18 → l_X12_loudest_22 K n a0 a1 a3 (a3 + 1) w19))) w17) w14) w12) w7))))) w
def w_X12_loudest (a0 : Nat) (a1 : Int32) (K : Int32 → Wd → Prop) (w : Wd) : Prop :=
  isK w a0 12 ∧ w_X12_isNoise a1 (fun r2 w3 => ((r2 = 0 → isK w3 a0 12 ∧ w_X12_fails a0 1 (fun r23 w24 => K r23 w24) w3) ∧ (¬ r2 = 0 → ∃ n21, l_X12_loudest_22  K n21 a0 a1 (-1) 0 w3))) (uI w a0 4 0)
theorem t_X12_loudest_22 (C : xC x p s m c cX12_loudest 4 args RX12) (hlk : meth.locks = false) (hr : meth.sig.returnType = some .int) {K : Int32 → Wd → Prop}   : ∀ (n : Nat) (a0 : Nat) (a1 : Int32) (a2 : Int32) (a3 : Int32) (w : Wd), l_X12_loudest_22 K n a0 a1 a2 a3 w → GW x p l e (rmd 6 0 0) s m args below meth c 4 (QI x K below args s 0 0) 22 [(0, .ref (adr x a0)), (1, .int a1), (2, .int a2), (3, .int a3)] [] w 0 0 := by
  intro n
  induction n with
  | zero => intro _ _ _ _ _ h; exact False.elim h
  | succ n ih =>
    intro a0 a1 a2 a3 w h
    refine g_iload_n (pc := 22) C dX12_loudest_22 (q := 3) rfl ?_
    refine g_aload_n (pc := 23) C dX12_loudest_23 (q := 0) rfl ?_
    obtain ⟨k5, h⟩ := h
    refine miX12_239 (pc := 24) C k5 h (Nat.le_of_ble_eq_true rfl) (Nat.le_of_ble_eq_true rfl) ⟨Nat.le_refl _, Nat.le_refl _⟩ dX12_loudest_24 (fun r6 w7 h => ?_)
    refine g_icmp_ge (pc := 27) C dX12_loudest_27 (tgt := 64) rfl (fun z8 => ?_) (fun z8 => ?_)
    · replace h := h.1 z8
      refine g_iload_n (pc := 64) C dX12_loudest_64 (q := 2) rfl ?_
      exact g_iret (pc := 65) C hlk hr (Nat.le_refl _) (Nat.le_refl _) dX12_loudest_65 h
    · replace h := h.2 z8
      refine g_iload_n (pc := 30) C dX12_loudest_30 (q := 2) rfl ?_
      refine g_iconst (pc := 31) C dX12_loudest_31 (v := (-1)) rfl ?_
      refine g_icmp_eq (pc := 32) C dX12_loudest_32 (tgt := 56) rfl (fun z9 => ?_) (fun z9 => ?_)
      · replace h := h.1 z9
        refine g_iload_n (pc := 56) C dX12_loudest_56 (q := 3) rfl ?_
        refine g_istore_n (pc := 57) C dX12_loudest_57 (Nat.le_of_ble_eq_true rfl) (lo' := [(2, .int a3), (0, .ref (adr x a0)), (1, .int a1), (3, .int a3)]) rfl ?_
        refine g_iinc (pc := 58) C dX12_loudest_58 (q := 3) rfl (v2 := a3 + 1) rfl (Nat.le_of_ble_eq_true rfl) (lo' := [(3, .int (a3 + 1)), (2, .int a3), (0, .ref (adr x a0)), (1, .int a1)]) rfl ?_
        refine g_goto (pc := 61) C dX12_loudest_61 (tgt := 22) rfl ?_
        refine g_sub [2, 3, 1, 0] rfl ?_
        exact ih _ _ _ _ _ h
      · replace h := h.2 z9
        refine g_aload_n (pc := 35) C dX12_loudest_35 (q := 0) rfl ?_
        refine g_iload_n (pc := 36) C dX12_loudest_36 (q := 3) rfl ?_
        refine g_iload_n (pc := 37) C dX12_loudest_37 (q := 1) rfl ?_
        obtain ⟨k10, h⟩ := h
        refine miX12_316 (pc := 38) C k10 h (Nat.le_of_ble_eq_true rfl) (Nat.le_of_ble_eq_true rfl) ⟨Nat.le_refl _, Nat.le_refl _⟩ dX12_loudest_38 (fun r11 w12 h => ?_)
        refine miX12_265 (pc := 41) C h (Nat.le_of_ble_eq_true rfl) (Nat.le_of_ble_eq_true rfl) ⟨Nat.le_refl _, Nat.le_refl _⟩ dX12_loudest_41 (fun r13 w14 h => ?_)
        refine g_aload_n (pc := 44) C dX12_loudest_44 (q := 0) rfl ?_
        refine g_iload_n (pc := 45) C dX12_loudest_45 (q := 2) rfl ?_
        refine g_iload_n (pc := 46) C dX12_loudest_46 (q := 1) rfl ?_
        obtain ⟨k15, h⟩ := h
        refine miX12_316 (pc := 47) C k15 h (Nat.le_of_ble_eq_true rfl) (Nat.le_of_ble_eq_true rfl) ⟨Nat.le_refl _, Nat.le_refl _⟩ dX12_loudest_47 (fun r16 w17 h => ?_)
        refine miX12_265 (pc := 50) C h (Nat.le_of_ble_eq_true rfl) (Nat.le_of_ble_eq_true rfl) ⟨Nat.le_refl _, Nat.le_refl _⟩ dX12_loudest_50 (fun r18 w19 h => ?_)
        refine g_icmp_le (pc := 53) C dX12_loudest_53 (tgt := 58) rfl (fun z20 => ?_) (fun z20 => ?_)
        · replace h := h.1 z20
          refine g_iinc (pc := 58) C dX12_loudest_58 (q := 3) rfl (v2 := a3 + 1) rfl (Nat.le_of_ble_eq_true rfl) (lo' := [(3, .int (a3 + 1)), (0, .ref (adr x a0)), (1, .int a1), (2, .int a2)]) rfl ?_
          refine g_goto (pc := 61) C dX12_loudest_61 (tgt := 22) rfl ?_
          refine g_sub [1, 2, 3, 0] rfl ?_
          exact ih _ _ _ _ _ h
        · replace h := h.2 z20
          refine g_iload_n (pc := 56) C dX12_loudest_56 (q := 3) rfl ?_
          refine g_istore_n (pc := 57) C dX12_loudest_57 (Nat.le_of_ble_eq_true rfl) (lo' := [(2, .int a3), (0, .ref (adr x a0)), (1, .int a1), (3, .int a3)]) rfl ?_
          refine g_iinc (pc := 58) C dX12_loudest_58 (q := 3) rfl (v2 := a3 + 1) rfl (Nat.le_of_ble_eq_true rfl) (lo' := [(3, .int (a3 + 1)), (2, .int a3), (0, .ref (adr x a0)), (1, .int a1)]) rfl ?_
          refine g_goto (pc := 61) C dX12_loudest_61 (tgt := 22) rfl ?_
          refine g_sub [2, 3, 1, 0] rfl ?_
          exact ih _ _ _ _ _ h
theorem c_X12_loudest {x : xG} {l : Launch} {a0 : Nat} {a1 : Int32} {K : Int32 → Wd → Prop} {w : Wd} (h : w_X12_loudest a0 a1 K w) : Met l yX12_loudest (xws yX12_loudest cX12_loudest 4 (some .int)) (rmd 6 0 0) (xPc x [.ref (adr x a0), .int a1] w) (QcI x K) 0 0 (xA x) := by
  refine xMet (by decide) (Nat.le_of_ble_eq_true rfl) (fun p e s m below meth c C hlk hr _ => ?_)
  show GW x p l e (rmd 6 0 0) s m [.ref (adr x a0), .int a1].toArray below meth c 4 (QI x K below [.ref (adr x a0), .int a1].toArray s 0 0) 0 [(0, .ref (adr x a0)), (1, .int a1)] [] w 0 0
  refine g_aload_n (pc := 0) C dX12_loudest_0 (q := 0) rfl ?_
  refine g_iconst (pc := 1) C dX12_loudest_1 (v := 0) rfl ?_
  obtain ⟨k1, h⟩ := h
  refine pfX12_58 (pc := 2) C k1 dX12_loudest_2 ?_
  refine g_iload_n (pc := 5) C dX12_loudest_5 (q := 1) rfl ?_
  refine miX12_402 (pc := 6) (w := uI w a0 4 0) C h (Nat.le_of_ble_eq_true rfl) (Nat.le_of_ble_eq_true rfl) ⟨Nat.le_refl _, Nat.le_refl _⟩ dX12_loudest_6 (fun r2 w3 h => ?_)
  refine g_if_ne (pc := 9) C dX12_loudest_9 (tgt := 18) rfl (fun z4 => ?_) (fun z4 => ?_)
  · replace h := h.2 z4
    refine g_iconst (pc := 18) C dX12_loudest_18 (v := (-1)) rfl ?_
    refine g_istore_n (pc := 19) C dX12_loudest_19 (Nat.le_of_ble_eq_true rfl) (lo' := [(2, .int (-1)), (0, .ref (adr x a0)), (1, .int a1)]) rfl ?_
    refine g_iconst (pc := 20) C dX12_loudest_20 (v := 0) rfl ?_
    refine g_istore_n (pc := 21) C dX12_loudest_21 (Nat.le_of_ble_eq_true rfl) (lo' := [(3, .int 0), (2, .int (-1)), (0, .ref (adr x a0)), (1, .int a1)]) rfl ?_
    obtain ⟨n21, h⟩ := h
    refine g_sub [2, 3, 1, 0] rfl ?_
    refine t_X12_loudest_22 C hlk hr n21 _ _ _ _ _ h
  · replace h := h.1 z4
    refine g_aload_n (pc := 12) C dX12_loudest_12 (q := 0) rfl ?_
    refine g_iconst (pc := 13) C dX12_loudest_13 (v := 1) rfl ?_
    obtain ⟨k22, h⟩ := h
    refine miX12_230 (pc := 14) C k22 h (Nat.le_of_ble_eq_true rfl) (Nat.le_of_ble_eq_true rfl) ⟨Nat.le_refl _, Nat.le_refl _⟩ dX12_loudest_14 (fun r23 w24 h => ?_)
    exact g_iret (pc := 17) C hlk hr (Nat.le_refl _) (Nat.le_refl _) dX12_loudest_17 h
def w_X12_lull (a0 : Nat) (a1 : Int32) (K : Int32 → Wd → Prop) (w : Wd) : Prop :=
  isK w a0 12 ∧ w_X12_whyLull a0 a1.toInt64 (fun r2 w3 => ((r2 = 0 → isK w3 a0 12 ∧ w_X12_keeps a0 (fun w6 => isK w6 a0 12 ∧ isK w6 (wR w6 a0 0) 20 ∧ vp_in (37 + a1) (wn w6 (wR w6 a0 0)) ∧ w_X12_shiftsTo a0 a1 (wI w6 (wR w6 a0 0) (37 + a1).toNatClampNeg) (fun w10 => isK w10 a0 12 ∧ isK w10 (wR w10 a0 0) 20 ∧ vp_in (5 + a1) (wn w10 (wR w10 a0 0)) ∧ K (wI w10 (wR w10 a0 0) (5 + a1).toNatClampNeg) w10) w6) w3) ∧ (¬ r2 = 0 → K ((-10) - r2) w3))) (uI w a0 4 0)
theorem c_X12_lull {x : xG} {l : Launch} {a0 : Nat} {a1 : Int32} {K : Int32 → Wd → Prop} {w : Wd} (h : w_X12_lull a0 a1 K w) : Met l yX12_lull (xws yX12_lull cX12_lull 3 (some .int)) (rmd 4 0 0) (xPc x [.ref (adr x a0), .int a1] w) (QcI x K) 0 0 (xA x) := by
  refine xMet (by decide) (Nat.le_of_ble_eq_true rfl) (fun p e s m below meth c C hlk hr _ => ?_)
  show GW x p l e (rmd 4 0 0) s m [.ref (adr x a0), .int a1].toArray below meth c 3 (QI x K below [.ref (adr x a0), .int a1].toArray s 0 0) 0 [(0, .ref (adr x a0)), (1, .int a1)] [] w 0 0
  refine g_aload_n (pc := 0) C dX12_lull_0 (q := 0) rfl ?_
  refine g_iconst (pc := 1) C dX12_lull_1 (v := 0) rfl ?_
  obtain ⟨k1, h⟩ := h
  refine pfX12_58 (pc := 2) C k1 dX12_lull_2 ?_
  refine g_aload_n (pc := 5) C dX12_lull_5 (q := 0) rfl ?_
  refine g_iload_n (pc := 6) C dX12_lull_6 (q := 1) rfl ?_
  refine g_i2l (pc := 7) C dX12_lull_7 ?_
  refine miX12_335 (pc := 8) (w := uI w a0 4 0) C k1 h (Nat.le_of_ble_eq_true rfl) (Nat.le_of_ble_eq_true rfl) ⟨Nat.le_refl _, Nat.le_refl _⟩ dX12_lull_8 (fun r2 w3 h => ?_)
  refine g_istore_n (pc := 11) C dX12_lull_11 (Nat.le_of_ble_eq_true rfl) (lo' := [(2, .int r2), (0, .ref (adr x a0)), (1, .int a1)]) rfl ?_
  refine g_iload_n (pc := 12) C dX12_lull_12 (q := 0) rfl ?_
  refine g_if_eq (pc := 13) C dX12_lull_13 (tgt := 21) rfl (fun z4 => ?_) (fun z4 => ?_)
  · replace h := h.1 z4
    refine g_aload_n (pc := 21) C dX12_lull_21 (q := 1) rfl ?_
    obtain ⟨k5, h⟩ := h
    refine miX12_329 (pc := 22) C k5 h (Nat.le_of_ble_eq_true rfl) (Nat.le_of_ble_eq_true rfl) ⟨Nat.le_refl _, Nat.le_refl _⟩ dX12_lull_22 (fun w6 h => ?_)
    refine g_aload_n (pc := 25) C dX12_lull_25 (q := 1) rfl ?_
    refine g_iload_n (pc := 26) C dX12_lull_26 (q := 2) rfl ?_
    refine g_aload_n (pc := 27) C dX12_lull_27 (q := 1) rfl ?_
    obtain ⟨k7, h⟩ := h
    obtain ⟨k8, h⟩ := h
    refine gfX12_9 (pc := 28) C k7 (isK_ne k8) dX12_lull_28 ?_
    refine g_bipush (pc := 31) C dX12_lull_31 (v := 37) rfl ?_
    refine g_iload_n (pc := 33) C dX12_lull_33 (q := 2) rfl ?_
    refine g_iadd (pc := 34) C dX12_lull_34 ?_
    obtain ⟨k9, h⟩ := h
    refine g_iald (pc := 35) C k8 k9 dX12_lull_35 ?_
    refine miX12_290 (pc := 36) C k7 h (Nat.le_of_ble_eq_true rfl) (Nat.le_of_ble_eq_true rfl) ⟨Nat.le_refl _, Nat.le_refl _⟩ dX12_lull_36 (fun w10 h => ?_)
    refine g_aload_n (pc := 39) C dX12_lull_39 (q := 1) rfl ?_
    obtain ⟨k11, h⟩ := h
    obtain ⟨k12, h⟩ := h
    refine gfX12_9 (pc := 40) C k11 (isK_ne k12) dX12_lull_40 ?_
    refine g_iconst (pc := 43) C dX12_lull_43 (v := 5) rfl ?_
    refine g_iload_n (pc := 44) C dX12_lull_44 (q := 2) rfl ?_
    refine g_iadd (pc := 45) C dX12_lull_45 ?_
    obtain ⟨k13, h⟩ := h
    refine g_iald (pc := 46) C k12 k13 dX12_lull_46 ?_
    exact g_iret (pc := 47) C hlk hr (Nat.le_refl _) (Nat.le_refl _) dX12_lull_47 h
  · replace h := h.2 z4
    refine g_bipush (pc := 16) C dX12_lull_16 (v := (-10)) rfl ?_
    refine g_iload_n (pc := 18) C dX12_lull_18 (q := 0) rfl ?_
    refine g_isub (pc := 19) C dX12_lull_19 ?_
    exact g_iret (pc := 20) C hlk hr (Nat.le_refl _) (Nat.le_refl _) dX12_lull_20 h
def w_X12_numberOf (a0 : Nat) (a1 : Int32) (K : Int32 → Wd → Prop) (w : Wd) : Prop :=
  isK w a0 12 ∧ ¬ a1 = 0 ∧ K (x_irem (x_iushr (wI (uI w a0 19 ((1103515245 * (wI w a0 19)) + 12345)) a0 19) 16) a1) (uI w a0 19 ((1103515245 * (wI w a0 19)) + 12345))
theorem c_X12_numberOf {x : xG} {l : Launch} {a0 : Nat} {a1 : Int32} {K : Int32 → Wd → Prop} {w : Wd} (h : w_X12_numberOf a0 a1 K w) : Met l yX12_numberOf (xws yX12_numberOf cX12_numberOf 2 (some .int)) (rmd 0 0 0) (xPc x [.ref (adr x a0), .int a1] w) (QcI x K) 0 0 (xA x) := by
  refine xMet (by decide) (Nat.le_of_ble_eq_true rfl) (fun p e s m below meth c C hlk hr _ => ?_)
  show GW x p l e (rmd 0 0 0) s m [.ref (adr x a0), .int a1].toArray below meth c 2 (QI x K below [.ref (adr x a0), .int a1].toArray s 0 0) 0 [(0, .ref (adr x a0)), (1, .int a1)] [] w 0 0
  refine g_aload_n (pc := 0) C dX12_numberOf_0 (q := 0) rfl ?_
  refine g_ldcw (pc := 1) C LCX12_387 dX12_numberOf_1 ?_
  refine g_aload_n (pc := 4) C dX12_numberOf_4 (q := 0) rfl ?_
  obtain ⟨k1, h⟩ := h
  refine gfX12_388 (pc := 5) C k1 dX12_numberOf_5 ?_
  refine g_imul (pc := 8) C dX12_numberOf_8 ?_
  refine g_sipush (pc := 9) C dX12_numberOf_9 (v := 12345) rfl ?_
  refine g_iadd (pc := 12) C dX12_numberOf_12 ?_
  refine pfX12_388 (pc := 13) C k1 dX12_numberOf_13 ?_
  refine g_aload_n (pc := 16) C dX12_numberOf_16 (q := 0) rfl ?_
  refine gfX12_388 (pc := 17) (w := uI w a0 19 ((1103515245 * (wI w a0 19)) + 12345)) C k1 dX12_numberOf_17 ?_
  refine g_bipush (pc := 20) C dX12_numberOf_20 (v := 16) rfl ?_
  refine h_iushr (pc := 22) C dX12_numberOf_22 ?_
  refine g_iload_n (pc := 23) C dX12_numberOf_23 (q := 1) rfl ?_
  obtain ⟨k2, h⟩ := h
  refine h_irem (pc := 24) C dX12_numberOf_24 k2 ?_
  exact g_iret (pc := 25) C hlk hr (Nat.le_refl _) (Nat.le_refl _) dX12_numberOf_25 h
def l_X12_perform_20  (K : Int32 → Wd → Prop) : Nat → Nat → Int32 → Int32 → Wd → Prop
  | 0, _, _, _, _ => False
  | n + 1, a0, a1, a2, w => isK w a0 12 ∧ isK w (wR w a0 27) 20 ∧ vp_in a1 (wn w (wR w a0 27)) ∧ (((wI w (wR w a0 27) a1.toNatClampNeg) ≤ a2 → K a2 w) ∧ (¬ (wI w (wR w a0 27) a1.toNatClampNeg) ≤ a2 → isK w (wR w a0 28) 21 ∧ vp_in ((30 * a1) + a2) (wn w (wR w a0 28)) ∧ w_X12_whyTold a0 (wL w (wR w a0 28) ((30 * a1) + a2).toNatClampNeg) (fun r12 w13 => ((r12 = 0 → isK w13 a0 12 ∧ w_X12_keeps a0 (fun w16 => isK w16 a0 12 ∧ isK w16 (wR w16 a0 28) 21 ∧ vp_in ((30 * a1) + a2) (wn w16 (wR w16 a0 28)) ∧ w_X12_does a0 ((wL w16 (wR w16 a0 28) ((30 * a1) + a2).toNatClampNeg).toInt32) (fun w20 => l_X12_perform_20 K n a0 a1 (a2 + 1) w20) w16) w13) ∧ (¬ r12 = 0 → K a2 w13))) w))
def w_X12_perform (a0 : Nat) (a1 : Int32) (K : Int32 → Wd → Prop) (w : Wd) : Prop :=
  isK w a0 12 ∧ w_X12_trayFault a0 a1 (fun r2 w3 => isK w3 a0 12 ∧ (((wI (uI w3 a0 4 r2) a0 4) ≤ 0 → ∃ n21, l_X12_perform_20  K n21 a0 a1 0 (uI w3 a0 4 r2)) ∧ (¬ (wI (uI w3 a0 4 r2) a0 4) ≤ 0 → K 0 (uI w3 a0 4 r2)))) w
theorem t_X12_perform_20 (C : xC x p s m c cX12_perform 3 args RX12) (hlk : meth.locks = false) (hr : meth.sig.returnType = some .int) {K : Int32 → Wd → Prop}   : ∀ (n : Nat) (a0 : Nat) (a1 : Int32) (a2 : Int32) (w : Wd), l_X12_perform_20 K n a0 a1 a2 w → GW x p l e (rmd 8 0 0) s m args below meth c 3 (QI x K below args s 0 0) 20 [(0, .ref (adr x a0)), (1, .int a1), (2, .int a2)] [] w 0 0 := by
  intro n
  induction n with
  | zero => intro _ _ _ _ h; exact False.elim h
  | succ n ih =>
    intro a0 a1 a2 w h
    refine g_iload_n (pc := 20) C dX12_perform_20 (q := 2) rfl ?_
    refine g_aload_n (pc := 21) C dX12_perform_21 (q := 0) rfl ?_
    obtain ⟨k6, h⟩ := h
    obtain ⟨k7, h⟩ := h
    refine gfX12_52 (pc := 22) C k6 (isK_ne k7) dX12_perform_22 ?_
    refine g_iload_n (pc := 25) C dX12_perform_25 (q := 1) rfl ?_
    obtain ⟨k8, h⟩ := h
    refine g_iald (pc := 26) C k7 k8 dX12_perform_26 ?_
    refine g_icmp_ge (pc := 27) C dX12_perform_27 (tgt := 74) rfl (fun z9 => ?_) (fun z9 => ?_)
    · replace h := h.1 z9
      refine g_iload_n (pc := 74) C dX12_perform_74 (q := 2) rfl ?_
      exact g_iret (pc := 75) C hlk hr (Nat.le_refl _) (Nat.le_refl _) dX12_perform_75 h
    · replace h := h.2 z9
      refine g_aload_n (pc := 30) C dX12_perform_30 (q := 0) rfl ?_
      refine g_aload_n (pc := 31) C dX12_perform_31 (q := 0) rfl ?_
      obtain ⟨k10, h⟩ := h
      refine gfX12_55 (pc := 32) C k6 (isK_ne k10) dX12_perform_32 ?_
      refine g_bipush (pc := 35) C dX12_perform_35 (v := 30) rfl ?_
      refine g_iload_n (pc := 37) C dX12_perform_37 (q := 1) rfl ?_
      refine g_imul (pc := 38) C dX12_perform_38 ?_
      refine g_iload_n (pc := 39) C dX12_perform_39 (q := 2) rfl ?_
      refine g_iadd (pc := 40) C dX12_perform_40 ?_
      obtain ⟨k11, h⟩ := h
      refine g_lald (pc := 41) C k10 k11 dX12_perform_41 ?_
      refine miX12_378 (pc := 42) C k6 h (Nat.le_of_ble_eq_true rfl) (Nat.le_of_ble_eq_true rfl) ⟨Nat.le_refl _, Nat.le_refl _⟩ dX12_perform_42 (fun r12 w13 h => ?_)
      refine g_if_ne (pc := 45) C dX12_perform_45 (tgt := 74) rfl (fun z14 => ?_) (fun z14 => ?_)
      · replace h := h.2 z14
        refine g_iload_n (pc := 74) C dX12_perform_74 (q := 2) rfl ?_
        exact g_iret (pc := 75) C hlk hr (Nat.le_refl _) (Nat.le_refl _) dX12_perform_75 h
      · replace h := h.1 z14
        refine g_aload_n (pc := 48) C dX12_perform_48 (q := 0) rfl ?_
        obtain ⟨k15, h⟩ := h
        refine miX12_329 (pc := 49) C k15 h (Nat.le_of_ble_eq_true rfl) (Nat.le_of_ble_eq_true rfl) ⟨Nat.le_refl _, Nat.le_refl _⟩ dX12_perform_49 (fun w16 h => ?_)
        refine g_aload_n (pc := 52) C dX12_perform_52 (q := 0) rfl ?_
        refine g_aload_n (pc := 53) C dX12_perform_53 (q := 0) rfl ?_
        obtain ⟨k17, h⟩ := h
        obtain ⟨k18, h⟩ := h
        refine gfX12_55 (pc := 54) C k17 (isK_ne k18) dX12_perform_54 ?_
        refine g_bipush (pc := 57) C dX12_perform_57 (v := 30) rfl ?_
        refine g_iload_n (pc := 59) C dX12_perform_59 (q := 1) rfl ?_
        refine g_imul (pc := 60) C dX12_perform_60 ?_
        refine g_iload_n (pc := 61) C dX12_perform_61 (q := 2) rfl ?_
        refine g_iadd (pc := 62) C dX12_perform_62 ?_
        obtain ⟨k19, h⟩ := h
        refine g_lald (pc := 63) C k18 k19 dX12_perform_63 ?_
        refine g_l2i (pc := 64) C dX12_perform_64 ?_
        refine miX12_381 (pc := 65) C k17 h (Nat.le_of_ble_eq_true rfl) (Nat.le_of_ble_eq_true rfl) ⟨Nat.le_refl _, Nat.le_refl _⟩ dX12_perform_65 (fun w20 h => ?_)
        refine g_iinc (pc := 68) C dX12_perform_68 (q := 2) rfl (v2 := a2 + 1) rfl (Nat.le_of_ble_eq_true rfl) (lo' := [(2, .int (a2 + 1)), (0, .ref (adr x a0)), (1, .int a1)]) rfl ?_
        refine g_goto (pc := 71) C dX12_perform_71 (tgt := 20) rfl ?_
        refine g_sub [1, 2, 0] rfl ?_
        exact ih _ _ _ _ h
theorem c_X12_perform {x : xG} {l : Launch} {a0 : Nat} {a1 : Int32} {K : Int32 → Wd → Prop} {w : Wd} (h : w_X12_perform a0 a1 K w) : Met l yX12_perform (xws yX12_perform cX12_perform 3 (some .int)) (rmd 8 0 0) (xPc x [.ref (adr x a0), .int a1] w) (QcI x K) 0 0 (xA x) := by
  refine xMet (by decide) (Nat.le_of_ble_eq_true rfl) (fun p e s m below meth c C hlk hr _ => ?_)
  show GW x p l e (rmd 8 0 0) s m [.ref (adr x a0), .int a1].toArray below meth c 3 (QI x K below [.ref (adr x a0), .int a1].toArray s 0 0) 0 [(0, .ref (adr x a0)), (1, .int a1)] [] w 0 0
  refine g_aload_n (pc := 0) C dX12_perform_0 (q := 0) rfl ?_
  refine g_aload_n (pc := 1) C dX12_perform_1 (q := 0) rfl ?_
  refine g_iload_n (pc := 2) C dX12_perform_2 (q := 1) rfl ?_
  obtain ⟨k1, h⟩ := h
  refine miX12_370 (pc := 3) C k1 h (Nat.le_of_ble_eq_true rfl) (Nat.le_of_ble_eq_true rfl) ⟨Nat.le_refl _, Nat.le_refl _⟩ dX12_perform_3 (fun r2 w3 h => ?_)
  obtain ⟨k4, h⟩ := h
  refine pfX12_58 (pc := 6) C k4 dX12_perform_6 ?_
  refine g_aload_n (pc := 9) C dX12_perform_9 (q := 0) rfl ?_
  refine gfX12_58 (pc := 10) (w := uI w3 a0 4 r2) C k4 dX12_perform_10 ?_
  refine g_if_le (pc := 13) C dX12_perform_13 (tgt := 18) rfl (fun z5 => ?_) (fun z5 => ?_)
  · replace h := h.1 z5
    refine g_iconst (pc := 18) C dX12_perform_18 (v := 0) rfl ?_
    refine g_istore_n (pc := 19) C dX12_perform_19 (Nat.le_of_ble_eq_true rfl) (lo' := [(2, .int 0), (0, .ref (adr x a0)), (1, .int a1)]) rfl ?_
    obtain ⟨n21, h⟩ := h
    refine g_sub [1, 2, 0] rfl ?_
    refine t_X12_perform_20 C hlk hr n21 _ _ _ _ h
  · replace h := h.2 z5
    refine g_iconst (pc := 16) C dX12_perform_16 (v := 0) rfl ?_
    exact g_iret (pc := 17) C hlk hr (Nat.le_refl _) (Nat.le_refl _) dX12_perform_17 h
theorem miX12_440 (C : xC x p s m c cc nL args RX12) {a0 : Nat} {K : Int32 → Wd → Prop} {D MC MS : Nat} (hq : isK w a0 12) (h : w_X12_laysPlan a0 K w) (hD : 102 + 1 ≤ D) (hW : (st.map fun v => v.category).sum ≤ 8) (hij : i ≤ MC ∧ j ≤ MS) (hd : decode cc pc = .ok (.invokevirtual 440, 3)) (k : ∀ (r : Int32) (u : Wd), K r u → GW x p l e (rmd D MC MS) s m args below meth c nL Q (pc + 3) lo (.int r :: st) u i j) : GW x p l e (rmd D MC MS) s m args below meth c nL Q pc lo (.ref (adr x a0) :: st) w i j := g_callVi0 C (As := []) (ci := 12) (c_X12_laysPlan h) (x_cwV C 0 LMX12_440 ⟨rfl, by decide, by decide, rfl⟩ hD (by decide)) rfl hq (by decide) rfl rfl hW hd hij k
def j_X12_plan_29  (K : Int32 → Wd → Prop) (a0 : Nat) (a1 : Int32) (w : Wd) : Prop :=
  isK w a0 12 ∧ isK w (wR w a0 0) 20 ∧ vp_in 2 (wn w (wR w a0 0)) ∧ (((wI w (wR w a0 0) (2 : Int32).toNatClampNeg) = 0 → K (-1) w) ∧ (¬ (wI w (wR w a0 0) (2 : Int32).toNatClampNeg) = 0 → w_X12_laysPlan a0 (fun r7 w8 => ((r7 = (-2) → K r7 w8) ∧ (¬ r7 = (-2) → ((a1 = 0 → K r7 w8) ∧ (¬ a1 = 0 → isK w8 a0 12 ∧ isK w8 (wR w8 a0 23) 20 ∧ vp_in (a1 - 10) (wn w8 (wR w8 a0 23)) ∧ K (wI w8 (wR w8 a0 23) (a1 - 10).toNatClampNeg) w8))))) w))
def w_X12_plan (a0 : Nat) (a1 : Int32) (K : Int32 → Wd → Prop) (w : Wd) : Prop :=
  isK w a0 12 ∧ ((a1 = 0 → j_X12_plan_29 K a0 a1 (uI w a0 4 0)) ∧ (¬ a1 = 0 → w_X12_within a1.toInt64 10 15 (fun r14 w15 => ((r14 = 0 → isK w15 a0 12 ∧ w_X12_fails a0 1 (fun r18 w19 => K r18 w19) w15) ∧ (¬ r14 = 0 → j_X12_plan_29 K a0 a1 w15))) (uI w a0 4 0)))
theorem t_X12_plan_29 (C : xC x p s m c cX12_plan 3 args RX12) (hlk : meth.locks = false) (hr : meth.sig.returnType = some .int) {K : Int32 → Wd → Prop}   (a0 : Nat) (a1 : Int32) (w : Wd) (h : j_X12_plan_29 K a0 a1 w) : GW x p l e (rmd 103 0 0) s m args below meth c 3 (QI x K below args s 0 0) 29 [(0, .ref (adr x a0)), (1, .int a1)] [] w 0 0 := by
  refine g_aload_n (pc := 29) C dX12_plan_29 (q := 0) rfl ?_
  obtain ⟨k3, h⟩ := h
  obtain ⟨k4, h⟩ := h
  refine gfX12_9 (pc := 30) C k3 (isK_ne k4) dX12_plan_30 ?_
  refine g_iconst (pc := 33) C dX12_plan_33 (v := 2) rfl ?_
  obtain ⟨k5, h⟩ := h
  refine g_iald (pc := 34) C k4 k5 dX12_plan_34 ?_
  refine g_if_ne (pc := 35) C dX12_plan_35 (tgt := 40) rfl (fun z6 => ?_) (fun z6 => ?_)
  · replace h := h.2 z6
    refine g_aload_n (pc := 40) C dX12_plan_40 (q := 0) rfl ?_
    refine miX12_440 (pc := 41) C k3 h (Nat.le_of_ble_eq_true rfl) (Nat.le_of_ble_eq_true rfl) ⟨Nat.le_refl _, Nat.le_refl _⟩ dX12_plan_41 (fun r7 w8 h => ?_)
    refine g_istore_n (pc := 44) C dX12_plan_44 (Nat.le_of_ble_eq_true rfl) (lo' := [(2, .int r7), (0, .ref (adr x a0)), (1, .int a1)]) rfl ?_
    refine g_iload_n (pc := 45) C dX12_plan_45 (q := 0) rfl ?_
    refine g_bipush (pc := 46) C dX12_plan_46 (v := (-2)) rfl ?_
    refine g_icmp_eq (pc := 48) C dX12_plan_48 (tgt := 55) rfl (fun z9 => ?_) (fun z9 => ?_)
    · replace h := h.1 z9
      refine g_iload_n (pc := 55) C dX12_plan_55 (q := 0) rfl ?_
      refine g_goto (pc := 56) C dX12_plan_56 (tgt := 68) rfl ?_
      exact g_iret (pc := 68) C hlk hr (Nat.le_refl _) (Nat.le_refl _) dX12_plan_68 h
    · replace h := h.2 z9
      refine g_iload_n (pc := 51) C dX12_plan_51 (q := 2) rfl ?_
      refine g_if_ne (pc := 52) C dX12_plan_52 (tgt := 59) rfl (fun z10 => ?_) (fun z10 => ?_)
      · replace h := h.2 z10
        refine g_aload_n (pc := 59) C dX12_plan_59 (q := 1) rfl ?_
        obtain ⟨k11, h⟩ := h
        obtain ⟨k12, h⟩ := h
        refine gfX12_46 (pc := 60) C k11 (isK_ne k12) dX12_plan_60 ?_
        refine g_iload_n (pc := 63) C dX12_plan_63 (q := 2) rfl ?_
        refine g_bipush (pc := 64) C dX12_plan_64 (v := 10) rfl ?_
        refine g_isub (pc := 66) C dX12_plan_66 ?_
        obtain ⟨k13, h⟩ := h
        refine g_iald (pc := 67) C k12 k13 dX12_plan_67 ?_
        exact g_iret (pc := 68) C hlk hr (Nat.le_refl _) (Nat.le_refl _) dX12_plan_68 h
      · replace h := h.1 z10
        refine g_iload_n (pc := 55) C dX12_plan_55 (q := 0) rfl ?_
        refine g_goto (pc := 56) C dX12_plan_56 (tgt := 68) rfl ?_
        exact g_iret (pc := 68) C hlk hr (Nat.le_refl _) (Nat.le_refl _) dX12_plan_68 h
  · replace h := h.1 z6
    refine g_iconst (pc := 38) C dX12_plan_38 (v := (-1)) rfl ?_
    exact g_iret (pc := 39) C hlk hr (Nat.le_refl _) (Nat.le_refl _) dX12_plan_39 h
theorem c_X12_plan {x : xG} {l : Launch} {a0 : Nat} {a1 : Int32} {K : Int32 → Wd → Prop} {w : Wd} (h : w_X12_plan a0 a1 K w) : Met l yX12_plan (xws yX12_plan cX12_plan 3 (some .int)) (rmd 103 0 0) (xPc x [.ref (adr x a0), .int a1] w) (QcI x K) 0 0 (xA x) := by
  refine xMet (by decide) (Nat.le_of_ble_eq_true rfl) (fun p e s m below meth c C hlk hr _ => ?_)
  show GW x p l e (rmd 103 0 0) s m [.ref (adr x a0), .int a1].toArray below meth c 3 (QI x K below [.ref (adr x a0), .int a1].toArray s 0 0) 0 [(0, .ref (adr x a0)), (1, .int a1)] [] w 0 0
  refine g_aload_n (pc := 0) C dX12_plan_0 (q := 0) rfl ?_
  refine g_iconst (pc := 1) C dX12_plan_1 (v := 0) rfl ?_
  obtain ⟨k1, h⟩ := h
  refine pfX12_58 (pc := 2) C k1 dX12_plan_2 ?_
  refine g_iload_n (pc := 5) C dX12_plan_5 (q := 1) rfl ?_
  refine g_if_eq (pc := 6) C dX12_plan_6 (tgt := 29) rfl (fun z2 => ?_) (fun z2 => ?_)
  · replace h := h.1 z2
    exact t_X12_plan_29 C hlk hr  _ _ _ h
  · replace h := h.2 z2
    refine g_iload_n (pc := 9) C dX12_plan_9 (q := 1) rfl ?_
    refine g_i2l (pc := 10) C dX12_plan_10 ?_
    refine g_ldc2 (pc := 11) C LCX12_349 dX12_plan_11 ?_
    refine g_ldc2 (pc := 14) C LCX12_438 dX12_plan_14 ?_
    refine miX12_119 (pc := 17) (w := uI w a0 4 0) C h (Nat.le_of_ble_eq_true rfl) (Nat.le_of_ble_eq_true rfl) ⟨Nat.le_refl _, Nat.le_refl _⟩ dX12_plan_17 (fun r14 w15 h => ?_)
    refine g_if_ne (pc := 20) C dX12_plan_20 (tgt := 29) rfl (fun z16 => ?_) (fun z16 => ?_)
    · replace h := h.2 z16
      exact t_X12_plan_29 C hlk hr  _ _ _ h
    · replace h := h.1 z16
      refine g_aload_n (pc := 23) C dX12_plan_23 (q := 0) rfl ?_
      refine g_iconst (pc := 24) C dX12_plan_24 (v := 1) rfl ?_
      obtain ⟨k17, h⟩ := h
      refine miX12_230 (pc := 25) C k17 h (Nat.le_of_ble_eq_true rfl) (Nat.le_of_ble_eq_true rfl) ⟨Nat.le_refl _, Nat.le_refl _⟩ dX12_plan_25 (fun r18 w19 h => ?_)
      exact g_iret (pc := 28) C hlk hr (Nat.le_refl _) (Nat.le_refl _) dX12_plan_28 h
def w_X12_quietHours (a0 : Nat) (a1 : Int32) (K : Int64 → Wd → Prop) (w : Wd) : Prop :=
  isK w a0 12 ∧ w_X12_isHouse a0 a1 (fun r2 w3 => ((r2 = 0 → isK w3 a0 12 ∧ w_X12_fails a0 1 (fun r11 w12 => K r11.toInt64 w12) w3) ∧ (¬ r2 = 0 → isK w3 a0 12 ∧ w_X12_laysQuiet a0 (fun w6 => isK w6 a0 12 ∧ isK w6 (wR w6 a0 21) 21 ∧ vp_in a1 (wn w6 (wR w6 a0 21)) ∧ K (wL w6 (wR w6 a0 21) a1.toNatClampNeg) w6) w3))) (uI w a0 4 0)
theorem c_X12_quietHours {x : xG} {l : Launch} {a0 : Nat} {a1 : Int32} {K : Int64 → Wd → Prop} {w : Wd} (h : w_X12_quietHours a0 a1 K w) : Met l yX12_quietHours (xws yX12_quietHours cX12_quietHours 2 (some .long)) (rmd 9 0 0) (xPc x [.ref (adr x a0), .int a1] w) (QcL x K) 0 0 (xA x) := by
  refine xMet (by decide) (Nat.le_of_ble_eq_true rfl) (fun p e s m below meth c C hlk hr _ => ?_)
  show GW x p l e (rmd 9 0 0) s m [.ref (adr x a0), .int a1].toArray below meth c 2 (QL x K below [.ref (adr x a0), .int a1].toArray s 0 0) 0 [(0, .ref (adr x a0)), (1, .int a1)] [] w 0 0
  refine g_aload_n (pc := 0) C dX12_quietHours_0 (q := 0) rfl ?_
  refine g_iconst (pc := 1) C dX12_quietHours_1 (v := 0) rfl ?_
  obtain ⟨k1, h⟩ := h
  refine pfX12_58 (pc := 2) C k1 dX12_quietHours_2 ?_
  refine g_aload_n (pc := 5) C dX12_quietHours_5 (q := 0) rfl ?_
  refine g_iload_n (pc := 6) C dX12_quietHours_6 (q := 1) rfl ?_
  refine miX12_308 (pc := 7) (w := uI w a0 4 0) C k1 h (Nat.le_of_ble_eq_true rfl) (Nat.le_of_ble_eq_true rfl) ⟨Nat.le_refl _, Nat.le_refl _⟩ dX12_quietHours_7 (fun r2 w3 h => ?_)
  refine g_if_ne (pc := 10) C dX12_quietHours_10 (tgt := 20) rfl (fun z4 => ?_) (fun z4 => ?_)
  · replace h := h.2 z4
    refine g_aload_n (pc := 20) C dX12_quietHours_20 (q := 0) rfl ?_
    obtain ⟨k5, h⟩ := h
    refine miX12_423 (pc := 21) C k5 h (Nat.le_of_ble_eq_true rfl) (Nat.le_of_ble_eq_true rfl) ⟨Nat.le_refl _, Nat.le_refl _⟩ dX12_quietHours_21 (fun w6 h => ?_)
    refine g_aload_n (pc := 24) C dX12_quietHours_24 (q := 0) rfl ?_
    obtain ⟨k7, h⟩ := h
    obtain ⟨k8, h⟩ := h
    refine gfX12_39 (pc := 25) C k7 (isK_ne k8) dX12_quietHours_25 ?_
    refine g_iload_n (pc := 28) C dX12_quietHours_28 (q := 1) rfl ?_
    obtain ⟨k9, h⟩ := h
    refine g_lald (pc := 29) C k8 k9 dX12_quietHours_29 ?_
    exact g_lret (pc := 30) C hlk hr (Nat.le_refl _) (Nat.le_refl _) dX12_quietHours_30 h
  · replace h := h.1 z4
    refine g_aload_n (pc := 13) C dX12_quietHours_13 (q := 0) rfl ?_
    refine g_iconst (pc := 14) C dX12_quietHours_14 (v := 1) rfl ?_
    obtain ⟨k10, h⟩ := h
    refine miX12_230 (pc := 15) C k10 h (Nat.le_of_ble_eq_true rfl) (Nat.le_of_ble_eq_true rfl) ⟨Nat.le_refl _, Nat.le_refl _⟩ dX12_quietHours_15 (fun r11 w12 h => ?_)
    refine g_i2l (pc := 18) C dX12_quietHours_18 ?_
    exact g_lret (pc := 19) C hlk hr (Nat.le_refl _) (Nat.le_refl _) dX12_quietHours_19 h
def l_X12_quietWell_48  (K : Int32 → Wd → Prop) : Nat → Nat → Int32 → Int32 → Int32 → Wd → Prop
  | 0, _, _, _, _, _ => False
  | n + 1, a0, a1, a2, a3, w => ((a2 ≤ a3 → isK w a0 12 ∧ w_X12_quietFor a0 a1 (fun r13 w14 => isK w14 a0 12 ∧ w_X12_putsBack a0 (fun w16 => K r13 w16) w14) w) ∧ (¬ a2 ≤ a3 → isK w a0 12 ∧ w_X12_hour a0 (fun w18 => l_X12_quietWell_48 K n a0 a1 a2 (a3 + 1) w18) w))
def w_X12_quietWell (a0 : Nat) (a1 : Int32) (a2 : Int32) (K : Int32 → Wd → Prop) (w : Wd) : Prop :=
  isK w a0 12 ∧ w_X12_isHouse a0 a1 (fun r2 w3 => ((r2 = 0 → isK w3 a0 12 ∧ (((wI (uI w3 a0 4 1) a0 4) ≤ 0 → w_X12_putsAside a0 (fun w26 => ∃ n27, l_X12_quietWell_48  K n27 a0 a1 a2 0 w26) (uI w3 a0 4 1)) ∧ (¬ (wI (uI w3 a0 4 1) a0 4) ≤ 0 → K 0 (uI w3 a0 4 1)))) ∧ (¬ r2 = 0 → w_X12_within a2.toInt64 0 40 (fun r5 w6 => ((r5 = 0 → isK w6 a0 12 ∧ (((wI (uI w6 a0 4 2) a0 4) ≤ 0 → w_X12_putsAside a0 (fun w10 => ∃ n19, l_X12_quietWell_48  K n19 a0 a1 a2 0 w10) (uI w6 a0 4 2)) ∧ (¬ (wI (uI w6 a0 4 2) a0 4) ≤ 0 → K 0 (uI w6 a0 4 2)))) ∧ (¬ r5 = 0 → isK w6 a0 12 ∧ (((wI (uI w6 a0 4 0) a0 4) ≤ 0 → w_X12_putsAside a0 (fun w22 => ∃ n23, l_X12_quietWell_48  K n23 a0 a1 a2 0 w22) (uI w6 a0 4 0)) ∧ (¬ (wI (uI w6 a0 4 0) a0 4) ≤ 0 → K 0 (uI w6 a0 4 0)))))) w3))) w
theorem t_X12_quietWell_48 (C : xC x p s m c cX12_quietWell 4 args RX12) (hlk : meth.locks = false) (hr : meth.sig.returnType = some .int) {K : Int32 → Wd → Prop}   : ∀ (n : Nat) (a0 : Nat) (a1 : Int32) (a2 : Int32) (a3 : Int32) (w : Wd), l_X12_quietWell_48 K n a0 a1 a2 a3 w → GW x p l e (rmd 8 0 0) s m args below meth c 4 (QI x K below args s 0 0) 48 [(0, .ref (adr x a0)), (1, .int a1), (2, .int a2), (3, .int a3)] [] w 0 0 := by
  intro n
  induction n with
  | zero => intro _ _ _ _ _ h; exact False.elim h
  | succ n ih =>
    intro a0 a1 a2 a3 w h
    refine g_iload_n (pc := 48) C dX12_quietWell_48 (q := 3) rfl ?_
    refine g_iload_n (pc := 49) C dX12_quietWell_49 (q := 2) rfl ?_
    refine g_icmp_ge (pc := 50) C dX12_quietWell_50 (tgt := 63) rfl (fun z11 => ?_) (fun z11 => ?_)
    · replace h := h.1 z11
      refine g_aload_n (pc := 63) C dX12_quietWell_63 (q := 0) rfl ?_
      refine g_iload_n (pc := 64) C dX12_quietWell_64 (q := 1) rfl ?_
      obtain ⟨k12, h⟩ := h
      refine miX12_420 (pc := 65) C k12 h (Nat.le_of_ble_eq_true rfl) (Nat.le_of_ble_eq_true rfl) ⟨Nat.le_refl _, Nat.le_refl _⟩ dX12_quietWell_65 (fun r13 w14 h => ?_)
      refine g_istore_n (pc := 68) C dX12_quietWell_68 (Nat.le_of_ble_eq_true rfl) (lo' := [(3, .int r13), (0, .ref (adr x a0)), (1, .int a1), (2, .int a2)]) rfl ?_
      refine g_aload_n (pc := 69) C dX12_quietWell_69 (q := 1) rfl ?_
      obtain ⟨k15, h⟩ := h
      refine miX12_384 (pc := 70) C k15 h (Nat.le_of_ble_eq_true rfl) (Nat.le_of_ble_eq_true rfl) ⟨Nat.le_refl _, Nat.le_refl _⟩ dX12_quietWell_70 (fun w16 h => ?_)
      refine g_iload_n (pc := 73) C dX12_quietWell_73 (q := 0) rfl ?_
      exact g_iret (pc := 74) C hlk hr (Nat.le_refl _) (Nat.le_refl _) dX12_quietWell_74 h
    · replace h := h.2 z11
      refine g_aload_n (pc := 53) C dX12_quietWell_53 (q := 0) rfl ?_
      obtain ⟨k17, h⟩ := h
      refine miX12_347 (pc := 54) C k17 h (Nat.le_of_ble_eq_true rfl) (Nat.le_of_ble_eq_true rfl) ⟨Nat.le_refl _, Nat.le_refl _⟩ dX12_quietWell_54 (fun w18 h => ?_)
      refine g_iinc (pc := 57) C dX12_quietWell_57 (q := 3) rfl (v2 := a3 + 1) rfl (Nat.le_of_ble_eq_true rfl) (lo' := [(3, .int (a3 + 1)), (0, .ref (adr x a0)), (1, .int a1), (2, .int a2)]) rfl ?_
      refine g_goto (pc := 60) C dX12_quietWell_60 (tgt := 48) rfl ?_
      refine g_sub [1, 2, 3, 0] rfl ?_
      exact ih _ _ _ _ _ h
theorem c_X12_quietWell {x : xG} {l : Launch} {a0 : Nat} {a1 : Int32} {a2 : Int32} {K : Int32 → Wd → Prop} {w : Wd} (h : w_X12_quietWell a0 a1 a2 K w) : Met l yX12_quietWell (xws yX12_quietWell cX12_quietWell 4 (some .int)) (rmd 8 0 0) (xPc x [.ref (adr x a0), .int a1, .int a2] w) (QcI x K) 0 0 (xA x) := by
  refine xMet (by decide) (Nat.le_of_ble_eq_true rfl) (fun p e s m below meth c C hlk hr _ => ?_)
  show GW x p l e (rmd 8 0 0) s m [.ref (adr x a0), .int a1, .int a2].toArray below meth c 4 (QI x K below [.ref (adr x a0), .int a1, .int a2].toArray s 0 0) 0 [(0, .ref (adr x a0)), (1, .int a1), (2, .int a2)] [] w 0 0
  refine g_aload_n (pc := 0) C dX12_quietWell_0 (q := 0) rfl ?_
  refine g_aload_n (pc := 1) C dX12_quietWell_1 (q := 0) rfl ?_
  refine g_iload_n (pc := 2) C dX12_quietWell_2 (q := 1) rfl ?_
  obtain ⟨k1, h⟩ := h
  refine miX12_308 (pc := 3) C k1 h (Nat.le_of_ble_eq_true rfl) (Nat.le_of_ble_eq_true rfl) ⟨Nat.le_refl _, Nat.le_refl _⟩ dX12_quietWell_3 (fun r2 w3 h => ?_)
  refine g_if_ne (pc := 6) C dX12_quietWell_6 (tgt := 13) rfl (fun z4 => ?_) (fun z4 => ?_)
  · replace h := h.2 z4
    refine g_iload_n (pc := 13) C dX12_quietWell_13 (q := 2) rfl ?_
    refine g_i2l (pc := 14) C dX12_quietWell_14 ?_
    refine g_lconst (pc := 15) C dX12_quietWell_15 (v := 0) rfl ?_
    refine g_ldc2 (pc := 16) C LCX12_426 dX12_quietWell_16 ?_
    refine miX12_119 (pc := 19) C h (Nat.le_of_ble_eq_true rfl) (Nat.le_of_ble_eq_true rfl) ⟨Nat.le_refl _, Nat.le_refl _⟩ dX12_quietWell_19 (fun r5 w6 h => ?_)
    refine g_if_eq (pc := 22) C dX12_quietWell_22 (tgt := 29) rfl (fun z7 => ?_) (fun z7 => ?_)
    · replace h := h.1 z7
      refine g_iconst (pc := 29) C dX12_quietWell_29 (v := 2) rfl ?_
      obtain ⟨k8, h⟩ := h
      refine pfX12_58 (pc := 30) C k8 dX12_quietWell_30 ?_
      refine g_aload_n (pc := 33) C dX12_quietWell_33 (q := 0) rfl ?_
      refine gfX12_58 (pc := 34) (w := uI w6 a0 4 2) C k8 dX12_quietWell_34 ?_
      refine g_if_le (pc := 37) C dX12_quietWell_37 (tgt := 42) rfl (fun z9 => ?_) (fun z9 => ?_)
      · replace h := h.1 z9
        refine g_aload_n (pc := 42) C dX12_quietWell_42 (q := 0) rfl ?_
        refine miX12_375 (pc := 43) (w := uI w6 a0 4 2) C k8 h (Nat.le_of_ble_eq_true rfl) (Nat.le_of_ble_eq_true rfl) ⟨Nat.le_refl _, Nat.le_refl _⟩ dX12_quietWell_43 (fun w10 h => ?_)
        refine g_iconst (pc := 46) C dX12_quietWell_46 (v := 0) rfl ?_
        refine g_istore_n (pc := 47) C dX12_quietWell_47 (Nat.le_of_ble_eq_true rfl) (lo' := [(3, .int 0), (0, .ref (adr x a0)), (1, .int a1), (2, .int a2)]) rfl ?_
        obtain ⟨n19, h⟩ := h
        refine g_sub [1, 2, 3, 0] rfl ?_
        refine t_X12_quietWell_48 C hlk hr n19 _ _ _ _ _ h
      · replace h := h.2 z9
        refine g_iconst (pc := 40) C dX12_quietWell_40 (v := 0) rfl ?_
        exact g_iret (pc := 41) C hlk hr (Nat.le_refl _) (Nat.le_refl _) dX12_quietWell_41 h
    · replace h := h.2 z7
      refine g_iconst (pc := 25) C dX12_quietWell_25 (v := 0) rfl ?_
      refine g_goto (pc := 26) C dX12_quietWell_26 (tgt := 30) rfl ?_
      obtain ⟨k20, h⟩ := h
      refine pfX12_58 (pc := 30) C k20 dX12_quietWell_30 ?_
      refine g_aload_n (pc := 33) C dX12_quietWell_33 (q := 0) rfl ?_
      refine gfX12_58 (pc := 34) (w := uI w6 a0 4 0) C k20 dX12_quietWell_34 ?_
      refine g_if_le (pc := 37) C dX12_quietWell_37 (tgt := 42) rfl (fun z21 => ?_) (fun z21 => ?_)
      · replace h := h.1 z21
        refine g_aload_n (pc := 42) C dX12_quietWell_42 (q := 0) rfl ?_
        refine miX12_375 (pc := 43) (w := uI w6 a0 4 0) C k20 h (Nat.le_of_ble_eq_true rfl) (Nat.le_of_ble_eq_true rfl) ⟨Nat.le_refl _, Nat.le_refl _⟩ dX12_quietWell_43 (fun w22 h => ?_)
        refine g_iconst (pc := 46) C dX12_quietWell_46 (v := 0) rfl ?_
        refine g_istore_n (pc := 47) C dX12_quietWell_47 (Nat.le_of_ble_eq_true rfl) (lo' := [(3, .int 0), (0, .ref (adr x a0)), (1, .int a1), (2, .int a2)]) rfl ?_
        obtain ⟨n23, h⟩ := h
        refine g_sub [1, 2, 3, 0] rfl ?_
        refine t_X12_quietWell_48 C hlk hr n23 _ _ _ _ _ h
      · replace h := h.2 z21
        refine g_iconst (pc := 40) C dX12_quietWell_40 (v := 0) rfl ?_
        exact g_iret (pc := 41) C hlk hr (Nat.le_refl _) (Nat.le_refl _) dX12_quietWell_41 h
  · replace h := h.1 z4
    refine g_iconst (pc := 9) C dX12_quietWell_9 (v := 1) rfl ?_
    refine g_goto (pc := 10) C dX12_quietWell_10 (tgt := 30) rfl ?_
    obtain ⟨k24, h⟩ := h
    refine pfX12_58 (pc := 30) C k24 dX12_quietWell_30 ?_
    refine g_aload_n (pc := 33) C dX12_quietWell_33 (q := 0) rfl ?_
    refine gfX12_58 (pc := 34) (w := uI w3 a0 4 1) C k24 dX12_quietWell_34 ?_
    refine g_if_le (pc := 37) C dX12_quietWell_37 (tgt := 42) rfl (fun z25 => ?_) (fun z25 => ?_)
    · replace h := h.1 z25
      refine g_aload_n (pc := 42) C dX12_quietWell_42 (q := 0) rfl ?_
      refine miX12_375 (pc := 43) (w := uI w3 a0 4 1) C k24 h (Nat.le_of_ble_eq_true rfl) (Nat.le_of_ble_eq_true rfl) ⟨Nat.le_refl _, Nat.le_refl _⟩ dX12_quietWell_43 (fun w26 h => ?_)
      refine g_iconst (pc := 46) C dX12_quietWell_46 (v := 0) rfl ?_
      refine g_istore_n (pc := 47) C dX12_quietWell_47 (Nat.le_of_ble_eq_true rfl) (lo' := [(3, .int 0), (0, .ref (adr x a0)), (1, .int a1), (2, .int a2)]) rfl ?_
      obtain ⟨n27, h⟩ := h
      refine g_sub [1, 2, 3, 0] rfl ?_
      refine t_X12_quietWell_48 C hlk hr n27 _ _ _ _ _ h
    · replace h := h.2 z25
      refine g_iconst (pc := 40) C dX12_quietWell_40 (v := 0) rfl ?_
      exact g_iret (pc := 41) C hlk hr (Nat.le_refl _) (Nat.le_refl _) dX12_quietWell_41 h
def l_X12_quietest_35  (K : Int32 → Wd → Prop) : Nat → Nat → Int32 → Int32 → Wd → Prop
  | 0, _, _, _, _ => False
  | n + 1, a0, a1, a2, w => ((a2 ≤ 0 → K a2 w) ∧ (¬ a2 ≤ 0 → isK w a0 12 ∧ w_X12_isQuiet a0 a1 a2 (fun r12 w13 => ((r12 = 0 → l_X12_quietest_35 K n a0 a1 (a2 + (-1)) w13) ∧ (¬ r12 = 0 → K a2 w13))) w))
def w_X12_quietest (a0 : Nat) (a1 : Int32) (K : Int32 → Wd → Prop) (w : Wd) : Prop :=
  isK w a0 12 ∧ w_X12_isWell a0 a1.toInt64 (fun r2 w3 => ((r2 = 0 → isK w3 a0 12 ∧ w_X12_fails a0 1 (fun r17 w18 => K r17 w18) w3) ∧ (¬ r2 = 0 → isK w3 a0 12 ∧ isK w3 (wR w3 a0 0) 20 ∧ vp_in (15 + a1) (wn w3 (wR w3 a0 0)) ∧ w_J9_min_7cf53 99 (wI w3 (wR w3 a0 0) (15 + a1).toNatClampNeg) (fun r8 w9 => ∃ n15, l_X12_quietest_35  K n15 a0 a1 r8 w9) w3))) (uI w a0 4 0)
theorem t_X12_quietest_35 (C : xC x p s m c cX12_quietest 3 args RX12) (hlk : meth.locks = false) (hr : meth.sig.returnType = some .int) {K : Int32 → Wd → Prop}   : ∀ (n : Nat) (a0 : Nat) (a1 : Int32) (a2 : Int32) (w : Wd), l_X12_quietest_35 K n a0 a1 a2 w → GW x p l e (rmd 7 0 0) s m args below meth c 3 (QI x K below args s 0 0) 35 [(0, .ref (adr x a0)), (1, .int a1), (2, .int a2)] [] w 0 0 := by
  intro n
  induction n with
  | zero => intro _ _ _ _ h; exact False.elim h
  | succ n ih =>
    intro a0 a1 a2 w h
    refine g_iload_n (pc := 35) C dX12_quietest_35 (q := 2) rfl ?_
    refine g_if_le (pc := 36) C dX12_quietest_36 (tgt := 54) rfl (fun z10 => ?_) (fun z10 => ?_)
    · replace h := h.1 z10
      refine g_iload_n (pc := 54) C dX12_quietest_54 (q := 2) rfl ?_
      exact g_iret (pc := 55) C hlk hr (Nat.le_refl _) (Nat.le_refl _) dX12_quietest_55 h
    · replace h := h.2 z10
      refine g_aload_n (pc := 39) C dX12_quietest_39 (q := 0) rfl ?_
      refine g_iload_n (pc := 40) C dX12_quietest_40 (q := 1) rfl ?_
      refine g_iload_n (pc := 41) C dX12_quietest_41 (q := 2) rfl ?_
      obtain ⟨k11, h⟩ := h
      refine miX12_405 (pc := 42) C k11 h (Nat.le_of_ble_eq_true rfl) (Nat.le_of_ble_eq_true rfl) ⟨Nat.le_refl _, Nat.le_refl _⟩ dX12_quietest_42 (fun r12 w13 h => ?_)
      refine g_if_ne (pc := 45) C dX12_quietest_45 (tgt := 54) rfl (fun z14 => ?_) (fun z14 => ?_)
      · replace h := h.2 z14
        refine g_iload_n (pc := 54) C dX12_quietest_54 (q := 2) rfl ?_
        exact g_iret (pc := 55) C hlk hr (Nat.le_refl _) (Nat.le_refl _) dX12_quietest_55 h
      · replace h := h.1 z14
        refine g_iinc (pc := 48) C dX12_quietest_48 (q := 2) rfl (v2 := a2 + (-1)) rfl (Nat.le_of_ble_eq_true rfl) (lo' := [(2, .int (a2 + (-1))), (0, .ref (adr x a0)), (1, .int a1)]) rfl ?_
        refine g_goto (pc := 51) C dX12_quietest_51 (tgt := 35) rfl ?_
        refine g_sub [1, 2, 0] rfl ?_
        exact ih _ _ _ _ h
theorem c_X12_quietest {x : xG} {l : Launch} {a0 : Nat} {a1 : Int32} {K : Int32 → Wd → Prop} {w : Wd} (h : w_X12_quietest a0 a1 K w) : Met l yX12_quietest (xws yX12_quietest cX12_quietest 3 (some .int)) (rmd 7 0 0) (xPc x [.ref (adr x a0), .int a1] w) (QcI x K) 0 0 (xA x) := by
  refine xMet (by decide) (Nat.le_of_ble_eq_true rfl) (fun p e s m below meth c C hlk hr _ => ?_)
  show GW x p l e (rmd 7 0 0) s m [.ref (adr x a0), .int a1].toArray below meth c 3 (QI x K below [.ref (adr x a0), .int a1].toArray s 0 0) 0 [(0, .ref (adr x a0)), (1, .int a1)] [] w 0 0
  refine g_aload_n (pc := 0) C dX12_quietest_0 (q := 0) rfl ?_
  refine g_iconst (pc := 1) C dX12_quietest_1 (v := 0) rfl ?_
  obtain ⟨k1, h⟩ := h
  refine pfX12_58 (pc := 2) C k1 dX12_quietest_2 ?_
  refine g_aload_n (pc := 5) C dX12_quietest_5 (q := 0) rfl ?_
  refine g_iload_n (pc := 6) C dX12_quietest_6 (q := 1) rfl ?_
  refine g_i2l (pc := 7) C dX12_quietest_7 ?_
  refine miX12_302 (pc := 8) (w := uI w a0 4 0) C k1 h (Nat.le_of_ble_eq_true rfl) (Nat.le_of_ble_eq_true rfl) ⟨Nat.le_refl _, Nat.le_refl _⟩ dX12_quietest_8 (fun r2 w3 h => ?_)
  refine g_if_ne (pc := 11) C dX12_quietest_11 (tgt := 20) rfl (fun z4 => ?_) (fun z4 => ?_)
  · replace h := h.2 z4
    refine g_bipush (pc := 20) C dX12_quietest_20 (v := 99) rfl ?_
    refine g_aload_n (pc := 22) C dX12_quietest_22 (q := 0) rfl ?_
    obtain ⟨k5, h⟩ := h
    obtain ⟨k6, h⟩ := h
    refine gfX12_9 (pc := 23) C k5 (isK_ne k6) dX12_quietest_23 ?_
    refine g_bipush (pc := 26) C dX12_quietest_26 (v := 15) rfl ?_
    refine g_iload_n (pc := 28) C dX12_quietest_28 (q := 1) rfl ?_
    refine g_iadd (pc := 29) C dX12_quietest_29 ?_
    obtain ⟨k7, h⟩ := h
    refine g_iald (pc := 30) C k6 k7 dX12_quietest_30 ?_
    refine miX12_297 (pc := 31) C h (Nat.le_of_ble_eq_true rfl) (Nat.le_of_ble_eq_true rfl) ⟨Nat.le_refl _, Nat.le_refl _⟩ dX12_quietest_31 (fun r8 w9 h => ?_)
    refine g_istore_n (pc := 34) C dX12_quietest_34 (Nat.le_of_ble_eq_true rfl) (lo' := [(2, .int r8), (0, .ref (adr x a0)), (1, .int a1)]) rfl ?_
    obtain ⟨n15, h⟩ := h
    refine g_sub [1, 2, 0] rfl ?_
    refine t_X12_quietest_35 C hlk hr n15 _ _ _ _ h
  · replace h := h.1 z4
    refine g_aload_n (pc := 14) C dX12_quietest_14 (q := 0) rfl ?_
    refine g_iconst (pc := 15) C dX12_quietest_15 (v := 1) rfl ?_
    obtain ⟨k16, h⟩ := h
    refine miX12_230 (pc := 16) C k16 h (Nat.le_of_ble_eq_true rfl) (Nat.le_of_ble_eq_true rfl) ⟨Nat.le_refl _, Nat.le_refl _⟩ dX12_quietest_16 (fun r17 w18 h => ?_)
    exact g_iret (pc := 19) C hlk hr (Nat.le_refl _) (Nat.le_refl _) dX12_quietest_19 h
def l_X12_reachedBy_15 (E60 : Nat → Int32 → Int32 → Int32 → Wd → Prop) (K : Int32 → Wd → Prop) : Nat → Nat → Int32 → Int32 → Int32 → Int32 → Wd → Prop
  | 0, _, _, _, _, _, _ => False
  | n + 1, a0, a1, a2, a3, a4, w => isK w a0 12 ∧ w_X12_wells a0 (fun r6 w7 => ((r6 ≤ a4 → E60 a0 a1 a2 a3 w7) ∧ (¬ r6 ≤ a4 → w_X12_has a1 a3 (fun r9 w10 => ((r9 = 0 → E60 a0 a1 a2 a3 w10) ∧ (¬ r9 = 0 → isK w10 a0 12 ∧ w_X12_isWoken a0 a3 a4 0 (fun r13 w14 => ((r13 = 0 → l_X12_reachedBy_15 E60 K n a0 a1 (a2 ||| 0) a3 (a4 + 1) w14) ∧ (¬ r13 = 0 → l_X12_reachedBy_15 E60 K n a0 a1 (a2 ||| (x_ishl 1 a4)) a3 (a4 + 1) w14))) w10))) w7))) w
def l_X12_reachedBy_4  (K : Int32 → Wd → Prop) : Nat → Nat → Int32 → Int32 → Int32 → Wd → Prop
  | 0, _, _, _, _, _ => False
  | n + 1, a0, a1, a2, a3, w => isK w a0 12 ∧ w_X12_wells a0 (fun r2 w3 => ((r2 ≤ a3 → K a2 w3) ∧ (¬ r2 ≤ a3 → ∃ n21, l_X12_reachedBy_15 (fun b16 b17 b18 b19 w20 => l_X12_reachedBy_4 K n b16 b17 b18 (b19 + 1) w20) K n21 a0 a1 a2 a3 0 w3))) w
def w_X12_reachedBy (a0 : Nat) (a1 : Int32) (K : Int32 → Wd → Prop) (w : Wd) : Prop :=
  ∃ n22, l_X12_reachedBy_4  K n22 a0 a1 0 0 w
theorem t_X12_reachedBy_15 (C : xC x p s m c cX12_reachedBy 5 args RX12) (hlk : meth.locks = false) (hr : meth.sig.returnType = some .int) {K : Int32 → Wd → Prop} {E60 : Nat → Int32 → Int32 → Int32 → Wd → Prop} (hE60 : ∀ (b0 : Nat) (b1 : Int32) (b2 : Int32) (b3 : Int32) (w : Wd), E60 b0 b1 b2 b3 w → GW x p l e (rmd 4 0 0) s m args below meth c 5 (QI x K below args s 0 0) 60 [(0, .ref (adr x b0)), (1, .int b1), (2, .int b2), (3, .int b3)] [] w 0 0) : ∀ (n : Nat) (a0 : Nat) (a1 : Int32) (a2 : Int32) (a3 : Int32) (a4 : Int32) (w : Wd), l_X12_reachedBy_15 E60 K n a0 a1 a2 a3 a4 w → GW x p l e (rmd 4 0 0) s m args below meth c 5 (QI x K below args s 0 0) 15 [(0, .ref (adr x a0)), (1, .int a1), (2, .int a2), (3, .int a3), (4, .int a4)] [] w 0 0 := by
  intro n
  induction n with
  | zero => intro _ _ _ _ _ _ h; exact False.elim h
  | succ n ih =>
    intro a0 a1 a2 a3 a4 w h
    refine g_iload (pc := 15) C dX12_reachedBy_15 (q := 4) rfl ?_
    refine g_aload_n (pc := 17) C dX12_reachedBy_17 (q := 0) rfl ?_
    obtain ⟨k5, h⟩ := h
    refine miX12_239 (pc := 18) C k5 h (Nat.le_of_ble_eq_true rfl) (Nat.le_of_ble_eq_true rfl) ⟨Nat.le_refl _, Nat.le_refl _⟩ dX12_reachedBy_18 (fun r6 w7 h => ?_)
    refine g_icmp_ge (pc := 21) C dX12_reachedBy_21 (tgt := 60) rfl (fun z8 => ?_) (fun z8 => ?_)
    · replace h := h.1 z8
      refine g_sub [0, 1, 2, 3] rfl ?_
      exact hE60 _ _ _ _ _ h
    · replace h := h.2 z8
      refine g_iload_n (pc := 24) C dX12_reachedBy_24 (q := 1) rfl ?_
      refine g_iload_n (pc := 25) C dX12_reachedBy_25 (q := 3) rfl ?_
      refine miX12_268 (pc := 26) C h (Nat.le_of_ble_eq_true rfl) (Nat.le_of_ble_eq_true rfl) ⟨Nat.le_refl _, Nat.le_refl _⟩ dX12_reachedBy_26 (fun r9 w10 h => ?_)
      refine g_if_eq (pc := 29) C dX12_reachedBy_29 (tgt := 60) rfl (fun z11 => ?_) (fun z11 => ?_)
      · replace h := h.1 z11
        refine g_sub [0, 1, 2, 3] rfl ?_
        exact hE60 _ _ _ _ _ h
      · replace h := h.2 z11
        refine g_iload_n (pc := 32) C dX12_reachedBy_32 (q := 2) rfl ?_
        refine g_aload_n (pc := 33) C dX12_reachedBy_33 (q := 0) rfl ?_
        refine g_iload_n (pc := 34) C dX12_reachedBy_34 (q := 3) rfl ?_
        refine g_iload (pc := 35) C dX12_reachedBy_35 (q := 4) rfl ?_
        refine g_iconst (pc := 37) C dX12_reachedBy_37 (v := 0) rfl ?_
        obtain ⟨k12, h⟩ := h
        refine miX12_282 (pc := 38) C k12 h (Nat.le_of_ble_eq_true rfl) (Nat.le_of_ble_eq_true rfl) ⟨Nat.le_refl _, Nat.le_refl _⟩ dX12_reachedBy_38 (fun r13 w14 h => ?_)
        refine g_if_eq (pc := 41) C dX12_reachedBy_41 (tgt := 51) rfl (fun z15 => ?_) (fun z15 => ?_)
        · replace h := h.1 z15
          refine g_iconst (pc := 51) C dX12_reachedBy_51 (v := 0) rfl ?_
          refine g_ior (pc := 52) C dX12_reachedBy_52 ?_
          refine g_istore_n (pc := 53) C dX12_reachedBy_53 (Nat.le_of_ble_eq_true rfl) (lo' := [(2, .int (a2 ||| 0)), (0, .ref (adr x a0)), (1, .int a1), (3, .int a3), (4, .int a4)]) rfl ?_
          refine g_iinc (pc := 54) C dX12_reachedBy_54 (q := 4) rfl (v2 := a4 + 1) rfl (Nat.le_of_ble_eq_true rfl) (lo' := [(4, .int (a4 + 1)), (2, .int (a2 ||| 0)), (0, .ref (adr x a0)), (1, .int a1), (3, .int a3)]) rfl ?_
          refine g_goto (pc := 57) C dX12_reachedBy_57 (tgt := 15) rfl ?_
          refine g_sub [2, 3, 1, 4, 0] rfl ?_
          exact ih _ _ _ _ _ _ h
        · replace h := h.2 z15
          refine g_iconst (pc := 44) C dX12_reachedBy_44 (v := 1) rfl ?_
          refine g_iload (pc := 45) C dX12_reachedBy_45 (q := 4) rfl ?_
          refine h_ishl (pc := 47) C dX12_reachedBy_47 ?_
          refine g_goto (pc := 48) C dX12_reachedBy_48 (tgt := 52) rfl ?_
          refine g_ior (pc := 52) C dX12_reachedBy_52 ?_
          refine g_istore_n (pc := 53) C dX12_reachedBy_53 (Nat.le_of_ble_eq_true rfl) (lo' := [(2, .int (a2 ||| (x_ishl 1 a4))), (0, .ref (adr x a0)), (1, .int a1), (3, .int a3), (4, .int a4)]) rfl ?_
          refine g_iinc (pc := 54) C dX12_reachedBy_54 (q := 4) rfl (v2 := a4 + 1) rfl (Nat.le_of_ble_eq_true rfl) (lo' := [(4, .int (a4 + 1)), (2, .int (a2 ||| (x_ishl 1 a4))), (0, .ref (adr x a0)), (1, .int a1), (3, .int a3)]) rfl ?_
          refine g_goto (pc := 57) C dX12_reachedBy_57 (tgt := 15) rfl ?_
          refine g_sub [2, 3, 1, 4, 0] rfl ?_
          exact ih _ _ _ _ _ _ h
theorem t_X12_reachedBy_4 (C : xC x p s m c cX12_reachedBy 5 args RX12) (hlk : meth.locks = false) (hr : meth.sig.returnType = some .int) {K : Int32 → Wd → Prop}   : ∀ (n : Nat) (a0 : Nat) (a1 : Int32) (a2 : Int32) (a3 : Int32) (w : Wd), l_X12_reachedBy_4 K n a0 a1 a2 a3 w → GW x p l e (rmd 4 0 0) s m args below meth c 5 (QI x K below args s 0 0) 4 [(0, .ref (adr x a0)), (1, .int a1), (2, .int a2), (3, .int a3)] [] w 0 0 := by
  intro n
  induction n with
  | zero => intro _ _ _ _ _ h; exact False.elim h
  | succ n ih =>
    intro a0 a1 a2 a3 w h
    refine g_iload_n (pc := 4) C dX12_reachedBy_4 (q := 3) rfl ?_
    refine g_aload_n (pc := 5) C dX12_reachedBy_5 (q := 0) rfl ?_
    obtain ⟨k1, h⟩ := h
    refine miX12_239 (pc := 6) C k1 h (Nat.le_of_ble_eq_true rfl) (Nat.le_of_ble_eq_true rfl) ⟨Nat.le_refl _, Nat.le_refl _⟩ dX12_reachedBy_6 (fun r2 w3 h => ?_)
    refine g_icmp_ge (pc := 9) C dX12_reachedBy_9 (tgt := 66) rfl (fun z4 => ?_) (fun z4 => ?_)
    · replace h := h.1 z4
      refine g_iload_n (pc := 66) C dX12_reachedBy_66 (q := 2) rfl ?_
      exact g_iret (pc := 67) C hlk hr (Nat.le_refl _) (Nat.le_refl _) dX12_reachedBy_67 h
    · replace h := h.2 z4
      refine g_iconst (pc := 12) C dX12_reachedBy_12 (v := 0) rfl ?_
      refine g_istore (pc := 13) C dX12_reachedBy_13 (Nat.le_of_ble_eq_true rfl) (lo' := [(4, .int 0), (0, .ref (adr x a0)), (1, .int a1), (2, .int a2), (3, .int a3)]) rfl ?_
      obtain ⟨n21, h⟩ := h
      refine g_sub [1, 2, 3, 4, 0] rfl ?_
      refine t_X12_reachedBy_15 C hlk hr ?_ n21 _ _ _ _ _ _ h
      · intro b16 b17 b18 b19 w20 h
        refine g_iinc (pc := 60) C dX12_reachedBy_60 (q := 3) rfl (v2 := b19 + 1) rfl (Nat.le_of_ble_eq_true rfl) (lo' := [(3, .int (b19 + 1)), (0, .ref (adr x b16)), (1, .int b17), (2, .int b18)]) rfl ?_
        refine g_goto (pc := 63) C dX12_reachedBy_63 (tgt := 4) rfl ?_
        refine g_sub [1, 2, 3, 0] rfl ?_
        exact ih _ _ _ _ _ h
theorem c_X12_reachedBy {x : xG} {l : Launch} {a0 : Nat} {a1 : Int32} {K : Int32 → Wd → Prop} {w : Wd} (h : w_X12_reachedBy a0 a1 K w) : Met l yX12_reachedBy (xws yX12_reachedBy cX12_reachedBy 5 (some .int)) (rmd 4 0 0) (xPc x [.ref (adr x a0), .int a1] w) (QcI x K) 0 0 (xA x) := by
  refine xMet (by decide) (Nat.le_of_ble_eq_true rfl) (fun p e s m below meth c C hlk hr _ => ?_)
  show GW x p l e (rmd 4 0 0) s m [.ref (adr x a0), .int a1].toArray below meth c 5 (QI x K below [.ref (adr x a0), .int a1].toArray s 0 0) 0 [(0, .ref (adr x a0)), (1, .int a1)] [] w 0 0
  refine g_iconst (pc := 0) C dX12_reachedBy_0 (v := 0) rfl ?_
  refine g_istore_n (pc := 1) C dX12_reachedBy_1 (Nat.le_of_ble_eq_true rfl) (lo' := [(2, .int 0), (0, .ref (adr x a0)), (1, .int a1)]) rfl ?_
  refine g_iconst (pc := 2) C dX12_reachedBy_2 (v := 0) rfl ?_
  refine g_istore_n (pc := 3) C dX12_reachedBy_3 (Nat.le_of_ble_eq_true rfl) (lo' := [(3, .int 0), (2, .int 0), (0, .ref (adr x a0)), (1, .int a1)]) rfl ?_
  obtain ⟨n22, h⟩ := h
  refine g_sub [2, 3, 1, 0] rfl ?_
  refine t_X12_reachedBy_4 C hlk hr n22 _ _ _ _ _ h
def l_X12_restore_44  (K : Wd → Prop) : Nat → Nat → Int32 → Int32 → Wd → Prop
  | 0, _, _, _, _ => False
  | n + 1, a0, a1, a2, w => ((1215 ≤ a2 → K w) ∧ (¬ 1215 ≤ a2 → isK w a0 12 ∧ isK w (wR w a0 0) 20 ∧ isK w (wR w a0 2) 20 ∧ vp_in ((1215 * a1) + a2) (wn w (wR w a0 2)) ∧ vp_in a2 (wn w (wR w a0 0)) ∧ l_X12_restore_44 K n a0 a1 (a2 + 1) (uI w (wR w a0 0) a2.toNatClampNeg (wI w (wR w a0 2) ((1215 * a1) + a2).toNatClampNeg))))
def w_X12_restore (a0 : Nat) (a1 : Int32) (K : Wd → Prop) (w : Wd) : Prop :=
  w_X12_within a1.toInt64 0 2 (fun r1 w2 => ((r1 = 0 → isK w2 a0 12 ∧ (((wI (uI w2 a0 4 1) a0 4) ≤ 0 → ∃ n20, l_X12_restore_44  K n20 a0 a1 0 (uI w2 a0 4 1)) ∧ (¬ (wI (uI w2 a0 4 1) a0 4) ≤ 0 → K (uI w2 a0 4 1)))) ∧ (¬ r1 = 0 → isK w2 a0 12 ∧ isK w2 (wR w2 a0 3) 23 ∧ vp_in a1 (wn w2 (wR w2 a0 3)) ∧ (((wI w2 (wR w2 a0 3) a1.toNatClampNeg) = 0 → (((wI (uI w2 a0 4 2) a0 4) ≤ 0 → ∃ n17, l_X12_restore_44  K n17 a0 a1 0 (uI w2 a0 4 2)) ∧ (¬ (wI (uI w2 a0 4 2) a0 4) ≤ 0 → K (uI w2 a0 4 2)))) ∧ (¬ (wI w2 (wR w2 a0 3) a1.toNatClampNeg) = 0 → (((wI (uI w2 a0 4 0) a0 4) ≤ 0 → ∃ n15, l_X12_restore_44  K n15 a0 a1 0 (uI w2 a0 4 0)) ∧ (¬ (wI (uI w2 a0 4 0) a0 4) ≤ 0 → K (uI w2 a0 4 0)))))))) w
theorem t_X12_restore_44 (C : xC x p s m c cX12_restore 3 args RX12) (hlk : meth.locks = false) (hr : meth.sig.returnType = none) {K : Wd → Prop}   : ∀ (n : Nat) (a0 : Nat) (a1 : Int32) (a2 : Int32) (w : Wd), l_X12_restore_44 K n a0 a1 a2 w → GW x p l e (rmd 1 0 0) s m args below meth c 3 (QV x K below args s 0 0) 44 [(0, .ref (adr x a0)), (1, .int a1), (2, .int a2)] [] w 0 0 := by
  intro n
  induction n with
  | zero => intro _ _ _ _ h; exact False.elim h
  | succ n ih =>
    intro a0 a1 a2 w h
    refine g_iload_n (pc := 44) C dX12_restore_44 (q := 2) rfl ?_
    refine g_sipush (pc := 45) C dX12_restore_45 (v := 1215) rfl ?_
    refine g_icmp_ge (pc := 48) C dX12_restore_48 (tgt := 75) rfl (fun z9 => ?_) (fun z9 => ?_)
    · replace h := h.1 z9
      exact g_vret (pc := 75) C hlk hr (Nat.le_refl _) (Nat.le_refl _) dX12_restore_75 h
    · replace h := h.2 z9
      refine g_aload_n (pc := 51) C dX12_restore_51 (q := 0) rfl ?_
      obtain ⟨k10, h⟩ := h
      obtain ⟨k11, h⟩ := h
      refine gfX12_9 (pc := 52) C k10 (isK_ne k11) dX12_restore_52 ?_
      refine g_iload_n (pc := 55) C dX12_restore_55 (q := 2) rfl ?_
      refine g_aload_n (pc := 56) C dX12_restore_56 (q := 0) rfl ?_
      obtain ⟨k12, h⟩ := h
      refine gfX12_16 (pc := 57) C k10 (isK_ne k12) dX12_restore_57 ?_
      refine g_sipush (pc := 60) C dX12_restore_60 (v := 1215) rfl ?_
      refine g_iload_n (pc := 63) C dX12_restore_63 (q := 1) rfl ?_
      refine g_imul (pc := 64) C dX12_restore_64 ?_
      refine g_iload_n (pc := 65) C dX12_restore_65 (q := 2) rfl ?_
      refine g_iadd (pc := 66) C dX12_restore_66 ?_
      obtain ⟨k13, h⟩ := h
      refine g_iald (pc := 67) C k12 k13 dX12_restore_67 ?_
      obtain ⟨k14, h⟩ := h
      refine g_iast (pc := 68) C k11 k14 dX12_restore_68 ?_
      refine g_iinc (pc := 69) C dX12_restore_69 (q := 2) rfl (v2 := a2 + 1) rfl (Nat.le_of_ble_eq_true rfl) (lo' := [(2, .int (a2 + 1)), (0, .ref (adr x a0)), (1, .int a1)]) rfl ?_
      refine g_goto (pc := 72) C dX12_restore_72 (tgt := 44) rfl ?_
      refine g_sub [1, 2, 0] rfl ?_
      exact ih _ _ _ _ h
theorem c_X12_restore {x : xG} {l : Launch} {a0 : Nat} {a1 : Int32} {K : Wd → Prop} {w : Wd} (h : w_X12_restore a0 a1 K w) : Met l yX12_restore (xws yX12_restore cX12_restore 3 none) (rmd 1 0 0) (xPc x [.ref (adr x a0), .int a1] w) (QcV x K) 0 0 (xA x) := by
  refine xMet (by decide) (Nat.le_of_ble_eq_true rfl) (fun p e s m below meth c C hlk hr _ => ?_)
  show GW x p l e (rmd 1 0 0) s m [.ref (adr x a0), .int a1].toArray below meth c 3 (QV x K below [.ref (adr x a0), .int a1].toArray s 0 0) 0 [(0, .ref (adr x a0)), (1, .int a1)] [] w 0 0
  refine g_aload_n (pc := 0) C dX12_restore_0 (q := 0) rfl ?_
  refine g_iload_n (pc := 1) C dX12_restore_1 (q := 1) rfl ?_
  refine g_i2l (pc := 2) C dX12_restore_2 ?_
  refine g_lconst (pc := 3) C dX12_restore_3 (v := 0) rfl ?_
  refine g_ldc2 (pc := 4) C LCX12_467 dX12_restore_4 ?_
  refine miX12_119 (pc := 7) C h (Nat.le_of_ble_eq_true rfl) (Nat.le_of_ble_eq_true rfl) ⟨Nat.le_refl _, Nat.le_refl _⟩ dX12_restore_7 (fun r1 w2 h => ?_)
  refine g_if_ne (pc := 10) C dX12_restore_10 (tgt := 17) rfl (fun z3 => ?_) (fun z3 => ?_)
  · replace h := h.2 z3
    refine g_aload_n (pc := 17) C dX12_restore_17 (q := 0) rfl ?_
    obtain ⟨k4, h⟩ := h
    obtain ⟨k5, h⟩ := h
    refine gfX12_19 (pc := 18) C k4 (isK_ne k5) dX12_restore_18 ?_
    refine g_iload_n (pc := 21) C dX12_restore_21 (q := 1) rfl ?_
    obtain ⟨k6, h⟩ := h
    refine g_zald (pc := 22) C k5 k6 dX12_restore_22 ?_
    refine g_if_ne (pc := 23) C dX12_restore_23 (tgt := 30) rfl (fun z7 => ?_) (fun z7 => ?_)
    · replace h := h.2 z7
      refine g_iconst (pc := 30) C dX12_restore_30 (v := 0) rfl ?_
      refine pfX12_58 (pc := 31) C k4 dX12_restore_31 ?_
      refine g_aload_n (pc := 34) C dX12_restore_34 (q := 0) rfl ?_
      refine gfX12_58 (pc := 35) (w := uI w2 a0 4 0) C k4 dX12_restore_35 ?_
      refine g_if_le (pc := 38) C dX12_restore_38 (tgt := 42) rfl (fun z8 => ?_) (fun z8 => ?_)
      · replace h := h.1 z8
        refine g_iconst (pc := 42) C dX12_restore_42 (v := 0) rfl ?_
        refine g_istore_n (pc := 43) C dX12_restore_43 (Nat.le_of_ble_eq_true rfl) (lo' := [(2, .int 0), (0, .ref (adr x a0)), (1, .int a1)]) rfl ?_
        obtain ⟨n15, h⟩ := h
        refine g_sub [1, 2, 0] rfl ?_
        refine t_X12_restore_44 C hlk hr n15 _ _ _ _ h
      · replace h := h.2 z8
        exact g_vret (pc := 41) C hlk hr (Nat.le_refl _) (Nat.le_refl _) dX12_restore_41 h
    · replace h := h.1 z7
      refine g_iconst (pc := 26) C dX12_restore_26 (v := 2) rfl ?_
      refine g_goto (pc := 27) C dX12_restore_27 (tgt := 31) rfl ?_
      refine pfX12_58 (pc := 31) C k4 dX12_restore_31 ?_
      refine g_aload_n (pc := 34) C dX12_restore_34 (q := 0) rfl ?_
      refine gfX12_58 (pc := 35) (w := uI w2 a0 4 2) C k4 dX12_restore_35 ?_
      refine g_if_le (pc := 38) C dX12_restore_38 (tgt := 42) rfl (fun z16 => ?_) (fun z16 => ?_)
      · replace h := h.1 z16
        refine g_iconst (pc := 42) C dX12_restore_42 (v := 0) rfl ?_
        refine g_istore_n (pc := 43) C dX12_restore_43 (Nat.le_of_ble_eq_true rfl) (lo' := [(2, .int 0), (0, .ref (adr x a0)), (1, .int a1)]) rfl ?_
        obtain ⟨n17, h⟩ := h
        refine g_sub [1, 2, 0] rfl ?_
        refine t_X12_restore_44 C hlk hr n17 _ _ _ _ h
      · replace h := h.2 z16
        exact g_vret (pc := 41) C hlk hr (Nat.le_refl _) (Nat.le_refl _) dX12_restore_41 h
  · replace h := h.1 z3
    refine g_iconst (pc := 13) C dX12_restore_13 (v := 1) rfl ?_
    refine g_goto (pc := 14) C dX12_restore_14 (tgt := 31) rfl ?_
    obtain ⟨k18, h⟩ := h
    refine pfX12_58 (pc := 31) C k18 dX12_restore_31 ?_
    refine g_aload_n (pc := 34) C dX12_restore_34 (q := 0) rfl ?_
    refine gfX12_58 (pc := 35) (w := uI w2 a0 4 1) C k18 dX12_restore_35 ?_
    refine g_if_le (pc := 38) C dX12_restore_38 (tgt := 42) rfl (fun z19 => ?_) (fun z19 => ?_)
    · replace h := h.1 z19
      refine g_iconst (pc := 42) C dX12_restore_42 (v := 0) rfl ?_
      refine g_istore_n (pc := 43) C dX12_restore_43 (Nat.le_of_ble_eq_true rfl) (lo' := [(2, .int 0), (0, .ref (adr x a0)), (1, .int a1)]) rfl ?_
      obtain ⟨n20, h⟩ := h
      refine g_sub [1, 2, 0] rfl ?_
      refine t_X12_restore_44 C hlk hr n20 _ _ _ _ h
    · replace h := h.2 z19
      exact g_vret (pc := 41) C hlk hr (Nat.le_refl _) (Nat.le_refl _) dX12_restore_41 h
def j_X12_roundAt_25  (K : Int32 → Wd → Prop) (a0 : Nat) (a1 : Int32) (a2 : Int32) (w : Wd) : Prop :=
  isK w a0 12 ∧ (((wI w a0 4) ≤ 0 → w_X12_fitting a0 a1 (-1) a2 (fun r8 w9 => isK w9 a0 12 ∧ K (wI w9 a0 25) w9) w) ∧ (¬ (wI w a0 4) ≤ 0 → K 0 w))
def w_X12_roundAt (a0 : Nat) (a1 : Int32) (a2 : Int32) (K : Int32 → Wd → Prop) (w : Wd) : Prop :=
  isK w a0 12 ∧ w_X12_seenFault a0 a1 (fun r2 w3 => isK w3 a0 12 ∧ (((wI (uI w3 a0 4 r2) a0 4) = 0 → ((0 ≤ a2 → j_X12_roundAt_25 K a0 a1 a2 (uI w3 a0 4 r2)) ∧ (¬ 0 ≤ a2 → j_X12_roundAt_25 K a0 a1 a2 (uI (uI w3 a0 4 r2) a0 4 3)))) ∧ (¬ (wI (uI w3 a0 4 r2) a0 4) = 0 → j_X12_roundAt_25 K a0 a1 a2 (uI w3 a0 4 r2)))) w
theorem t_X12_roundAt_25 (C : xC x p s m c cX12_roundAt 3 args RX12) (hlk : meth.locks = false) (hr : meth.sig.returnType = some .int) {K : Int32 → Wd → Prop}   (a0 : Nat) (a1 : Int32) (a2 : Int32) (w : Wd) (h : j_X12_roundAt_25 K a0 a1 a2 w) : GW x p l e (rmd 4 0 0) s m args below meth c 3 (QI x K below args s 0 0) 25 [(0, .ref (adr x a0)), (1, .int a1), (2, .int a2)] [] w 0 0 := by
  refine g_aload_n (pc := 25) C dX12_roundAt_25 (q := 0) rfl ?_
  obtain ⟨k6, h⟩ := h
  refine gfX12_58 (pc := 26) C k6 dX12_roundAt_26 ?_
  refine g_if_le (pc := 29) C dX12_roundAt_29 (tgt := 34) rfl (fun z7 => ?_) (fun z7 => ?_)
  · replace h := h.1 z7
    refine g_aload_n (pc := 34) C dX12_roundAt_34 (q := 0) rfl ?_
    refine g_iload_n (pc := 35) C dX12_roundAt_35 (q := 1) rfl ?_
    refine g_iconst (pc := 36) C dX12_roundAt_36 (v := (-1)) rfl ?_
    refine g_iload_n (pc := 37) C dX12_roundAt_37 (q := 2) rfl ?_
    refine miX12_460 (pc := 38) C k6 h (Nat.le_of_ble_eq_true rfl) (Nat.le_of_ble_eq_true rfl) ⟨Nat.le_refl _, Nat.le_refl _⟩ dX12_roundAt_38 (fun r8 w9 h => ?_)
    refine g_pop (pc := 41) C dX12_roundAt_41 rfl ?_
    refine g_aload_n (pc := 42) C dX12_roundAt_42 (q := 0) rfl ?_
    obtain ⟨k10, h⟩ := h
    refine gfX12_450 (pc := 43) C k10 dX12_roundAt_43 ?_
    exact g_iret (pc := 46) C hlk hr (Nat.le_refl _) (Nat.le_refl _) dX12_roundAt_46 h
  · replace h := h.2 z7
    refine g_iconst (pc := 32) C dX12_roundAt_32 (v := 0) rfl ?_
    exact g_iret (pc := 33) C hlk hr (Nat.le_refl _) (Nat.le_refl _) dX12_roundAt_33 h
theorem c_X12_roundAt {x : xG} {l : Launch} {a0 : Nat} {a1 : Int32} {a2 : Int32} {K : Int32 → Wd → Prop} {w : Wd} (h : w_X12_roundAt a0 a1 a2 K w) : Met l yX12_roundAt (xws yX12_roundAt cX12_roundAt 3 (some .int)) (rmd 4 0 0) (xPc x [.ref (adr x a0), .int a1, .int a2] w) (QcI x K) 0 0 (xA x) := by
  refine xMet (by decide) (Nat.le_of_ble_eq_true rfl) (fun p e s m below meth c C hlk hr _ => ?_)
  show GW x p l e (rmd 4 0 0) s m [.ref (adr x a0), .int a1, .int a2].toArray below meth c 3 (QI x K below [.ref (adr x a0), .int a1, .int a2].toArray s 0 0) 0 [(0, .ref (adr x a0)), (1, .int a1), (2, .int a2)] [] w 0 0
  refine g_aload_n (pc := 0) C dX12_roundAt_0 (q := 0) rfl ?_
  refine g_aload_n (pc := 1) C dX12_roundAt_1 (q := 0) rfl ?_
  refine g_iload_n (pc := 2) C dX12_roundAt_2 (q := 1) rfl ?_
  obtain ⟨k1, h⟩ := h
  refine miX12_457 (pc := 3) C k1 h (Nat.le_of_ble_eq_true rfl) (Nat.le_of_ble_eq_true rfl) ⟨Nat.le_refl _, Nat.le_refl _⟩ dX12_roundAt_3 (fun r2 w3 h => ?_)
  obtain ⟨k4, h⟩ := h
  refine pfX12_58 (pc := 6) C k4 dX12_roundAt_6 ?_
  refine g_aload_n (pc := 9) C dX12_roundAt_9 (q := 0) rfl ?_
  refine gfX12_58 (pc := 10) (w := uI w3 a0 4 r2) C k4 dX12_roundAt_10 ?_
  refine g_if_ne (pc := 13) C dX12_roundAt_13 (tgt := 25) rfl (fun z5 => ?_) (fun z5 => ?_)
  · replace h := h.2 z5
    exact t_X12_roundAt_25 C hlk hr  _ _ _ _ h
  · replace h := h.1 z5
    refine g_iload_n (pc := 16) C dX12_roundAt_16 (q := 2) rfl ?_
    refine g_if_ge (pc := 17) C dX12_roundAt_17 (tgt := 25) rfl (fun z11 => ?_) (fun z11 => ?_)
    · replace h := h.1 z11
      exact t_X12_roundAt_25 C hlk hr  _ _ _ _ h
    · replace h := h.2 z11
      refine g_aload_n (pc := 20) C dX12_roundAt_20 (q := 0) rfl ?_
      refine g_iconst (pc := 21) C dX12_roundAt_21 (v := 3) rfl ?_
      refine pfX12_58 (pc := 22) (w := uI w3 a0 4 r2) C k4 dX12_roundAt_22 ?_
      exact t_X12_roundAt_25 C hlk hr  _ _ _ _ h
def w_X12_seen (a0 : Nat) (a1 : Int32) (K : Int32 → Wd → Prop) (w : Wd) : Prop :=
  isK w a0 12 ∧ w_X12_seenFault a0 a1 (fun r2 w3 => isK w3 a0 12 ∧ (((wI (uI w3 a0 4 r2) a0 4) ≤ 0 → w_X12_fitting a0 a1 (-1) (-1) (fun r6 w7 => K r6 w7) (uI w3 a0 4 r2)) ∧ (¬ (wI (uI w3 a0 4 r2) a0 4) ≤ 0 → K 0 (uI w3 a0 4 r2)))) w
theorem c_X12_seen {x : xG} {l : Launch} {a0 : Nat} {a1 : Int32} {K : Int32 → Wd → Prop} {w : Wd} (h : w_X12_seen a0 a1 K w) : Met l yX12_seen (xws yX12_seen cX12_seen 2 (some .int)) (rmd 4 0 0) (xPc x [.ref (adr x a0), .int a1] w) (QcI x K) 0 0 (xA x) := by
  refine xMet (by decide) (Nat.le_of_ble_eq_true rfl) (fun p e s m below meth c C hlk hr _ => ?_)
  show GW x p l e (rmd 4 0 0) s m [.ref (adr x a0), .int a1].toArray below meth c 2 (QI x K below [.ref (adr x a0), .int a1].toArray s 0 0) 0 [(0, .ref (adr x a0)), (1, .int a1)] [] w 0 0
  refine g_aload_n (pc := 0) C dX12_seen_0 (q := 0) rfl ?_
  refine g_aload_n (pc := 1) C dX12_seen_1 (q := 0) rfl ?_
  refine g_iload_n (pc := 2) C dX12_seen_2 (q := 1) rfl ?_
  obtain ⟨k1, h⟩ := h
  refine miX12_457 (pc := 3) C k1 h (Nat.le_of_ble_eq_true rfl) (Nat.le_of_ble_eq_true rfl) ⟨Nat.le_refl _, Nat.le_refl _⟩ dX12_seen_3 (fun r2 w3 h => ?_)
  obtain ⟨k4, h⟩ := h
  refine pfX12_58 (pc := 6) C k4 dX12_seen_6 ?_
  refine g_aload_n (pc := 9) C dX12_seen_9 (q := 0) rfl ?_
  refine gfX12_58 (pc := 10) (w := uI w3 a0 4 r2) C k4 dX12_seen_10 ?_
  refine g_if_le (pc := 13) C dX12_seen_13 (tgt := 20) rfl (fun z5 => ?_) (fun z5 => ?_)
  · replace h := h.1 z5
    refine g_aload_n (pc := 20) C dX12_seen_20 (q := 0) rfl ?_
    refine g_iload_n (pc := 21) C dX12_seen_21 (q := 1) rfl ?_
    refine g_iconst (pc := 22) C dX12_seen_22 (v := (-1)) rfl ?_
    refine g_iconst (pc := 23) C dX12_seen_23 (v := (-1)) rfl ?_
    refine miX12_460 (pc := 24) (w := uI w3 a0 4 r2) C k4 h (Nat.le_of_ble_eq_true rfl) (Nat.le_of_ble_eq_true rfl) ⟨Nat.le_refl _, Nat.le_refl _⟩ dX12_seen_24 (fun r6 w7 h => ?_)
    exact g_iret (pc := 27) C hlk hr (Nat.le_refl _) (Nat.le_refl _) dX12_seen_27 h
  · replace h := h.2 z5
    refine g_iconst (pc := 16) C dX12_seen_16 (v := 0) rfl ?_
    refine g_goto (pc := 17) C dX12_seen_17 (tgt := 27) rfl ?_
    exact g_iret (pc := 27) C hlk hr (Nat.le_refl _) (Nat.le_refl _) dX12_seen_27 h
def l_X12_served_29  (K : Int32 → Wd → Prop) : Nat → Nat → Int32 → Int32 → Wd → Prop
  | 0, _, _, _, _ => False
  | n + 1, a0, a1, a2, w => ((6 ≤ a2 → isK w a0 12 ∧ w_X12_servedBy a0 a1 (fun r9 w10 => K r9 w10) w) ∧ (¬ 6 ≤ a2 → isK w a0 12 ∧ isK w (wR w a0 23) 20 ∧ vp_in a2 (wn w (wR w a0 23)) ∧ l_X12_served_29 K n a0 a1 (a2 + 1) (uI w (wR w a0 23) a2.toNatClampNeg (-1))))
def w_X12_served (a0 : Nat) (a1 : Int32) (K : Int32 → Wd → Prop) (w : Wd) : Prop :=
  isK w a0 12 ∧ w_X12_within a1.toInt64 0 40 (fun r2 w3 => ((r2 = 0 → isK w3 a0 12 ∧ w_X12_fails a0 1 (fun r16 w17 => K r16 w17) w3) ∧ (¬ r2 = 0 → isK w3 a0 12 ∧ w_X12_laysQuiet a0 (fun w6 => ∃ n14, l_X12_served_29  K n14 a0 a1 0 w6) w3))) (uI w a0 4 0)
theorem t_X12_served_29 (C : xC x p s m c cX12_served 3 args RX12) (hlk : meth.locks = false) (hr : meth.sig.returnType = some .int) {K : Int32 → Wd → Prop}   : ∀ (n : Nat) (a0 : Nat) (a1 : Int32) (a2 : Int32) (w : Wd), l_X12_served_29 K n a0 a1 a2 w → GW x p l e (rmd 102 0 0) s m args below meth c 3 (QI x K below args s 0 0) 29 [(0, .ref (adr x a0)), (1, .int a1), (2, .int a2)] [] w 0 0 := by
  intro n
  induction n with
  | zero => intro _ _ _ _ h; exact False.elim h
  | succ n ih =>
    intro a0 a1 a2 w h
    refine g_iload_n (pc := 29) C dX12_served_29 (q := 2) rfl ?_
    refine g_bipush (pc := 30) C dX12_served_30 (v := 6) rfl ?_
    refine g_icmp_ge (pc := 32) C dX12_served_32 (tgt := 48) rfl (fun z7 => ?_) (fun z7 => ?_)
    · replace h := h.1 z7
      refine g_aload_n (pc := 48) C dX12_served_48 (q := 0) rfl ?_
      refine g_iload_n (pc := 49) C dX12_served_49 (q := 1) rfl ?_
      obtain ⟨k8, h⟩ := h
      refine miX12_435 (pc := 50) C k8 h (Nat.le_of_ble_eq_true rfl) (Nat.le_of_ble_eq_true rfl) ⟨Nat.le_refl _, Nat.le_refl _⟩ dX12_served_50 (fun r9 w10 h => ?_)
      exact g_iret (pc := 53) C hlk hr (Nat.le_refl _) (Nat.le_refl _) dX12_served_53 h
    · replace h := h.2 z7
      refine g_aload_n (pc := 35) C dX12_served_35 (q := 0) rfl ?_
      obtain ⟨k11, h⟩ := h
      obtain ⟨k12, h⟩ := h
      refine gfX12_46 (pc := 36) C k11 (isK_ne k12) dX12_served_36 ?_
      refine g_iload_n (pc := 39) C dX12_served_39 (q := 2) rfl ?_
      refine g_iconst (pc := 40) C dX12_served_40 (v := (-1)) rfl ?_
      obtain ⟨k13, h⟩ := h
      refine g_iast (pc := 41) C k12 k13 dX12_served_41 ?_
      refine g_iinc (pc := 42) C dX12_served_42 (q := 2) rfl (v2 := a2 + 1) rfl (Nat.le_of_ble_eq_true rfl) (lo' := [(2, .int (a2 + 1)), (0, .ref (adr x a0)), (1, .int a1)]) rfl ?_
      refine g_goto (pc := 45) C dX12_served_45 (tgt := 29) rfl ?_
      refine g_sub [1, 2, 0] rfl ?_
      exact ih _ _ _ _ h
theorem c_X12_served {x : xG} {l : Launch} {a0 : Nat} {a1 : Int32} {K : Int32 → Wd → Prop} {w : Wd} (h : w_X12_served a0 a1 K w) : Met l yX12_served (xws yX12_served cX12_served 3 (some .int)) (rmd 102 0 0) (xPc x [.ref (adr x a0), .int a1] w) (QcI x K) 0 0 (xA x) := by
  refine xMet (by decide) (Nat.le_of_ble_eq_true rfl) (fun p e s m below meth c C hlk hr _ => ?_)
  show GW x p l e (rmd 102 0 0) s m [.ref (adr x a0), .int a1].toArray below meth c 3 (QI x K below [.ref (adr x a0), .int a1].toArray s 0 0) 0 [(0, .ref (adr x a0)), (1, .int a1)] [] w 0 0
  refine g_aload_n (pc := 0) C dX12_served_0 (q := 0) rfl ?_
  refine g_iconst (pc := 1) C dX12_served_1 (v := 0) rfl ?_
  obtain ⟨k1, h⟩ := h
  refine pfX12_58 (pc := 2) C k1 dX12_served_2 ?_
  refine g_iload_n (pc := 5) C dX12_served_5 (q := 1) rfl ?_
  refine g_i2l (pc := 6) C dX12_served_6 ?_
  refine g_lconst (pc := 7) C dX12_served_7 (v := 0) rfl ?_
  refine g_ldc2 (pc := 8) C LCX12_426 dX12_served_8 ?_
  refine miX12_119 (pc := 11) (w := uI w a0 4 0) C h (Nat.le_of_ble_eq_true rfl) (Nat.le_of_ble_eq_true rfl) ⟨Nat.le_refl _, Nat.le_refl _⟩ dX12_served_11 (fun r2 w3 h => ?_)
  refine g_if_ne (pc := 14) C dX12_served_14 (tgt := 23) rfl (fun z4 => ?_) (fun z4 => ?_)
  · replace h := h.2 z4
    refine g_aload_n (pc := 23) C dX12_served_23 (q := 0) rfl ?_
    obtain ⟨k5, h⟩ := h
    refine miX12_423 (pc := 24) C k5 h (Nat.le_of_ble_eq_true rfl) (Nat.le_of_ble_eq_true rfl) ⟨Nat.le_refl _, Nat.le_refl _⟩ dX12_served_24 (fun w6 h => ?_)
    refine g_iconst (pc := 27) C dX12_served_27 (v := 0) rfl ?_
    refine g_istore_n (pc := 28) C dX12_served_28 (Nat.le_of_ble_eq_true rfl) (lo' := [(2, .int 0), (0, .ref (adr x a0)), (1, .int a1)]) rfl ?_
    obtain ⟨n14, h⟩ := h
    refine g_sub [1, 2, 0] rfl ?_
    refine t_X12_served_29 C hlk hr n14 _ _ _ _ h
  · replace h := h.1 z4
    refine g_aload_n (pc := 17) C dX12_served_17 (q := 0) rfl ?_
    refine g_iconst (pc := 18) C dX12_served_18 (v := 1) rfl ?_
    obtain ⟨k15, h⟩ := h
    refine miX12_230 (pc := 19) C k15 h (Nat.le_of_ble_eq_true rfl) (Nat.le_of_ble_eq_true rfl) ⟨Nat.le_refl _, Nat.le_refl _⟩ dX12_served_19 (fun r16 w17 h => ?_)
    exact g_iret (pc := 22) C hlk hr (Nat.le_refl _) (Nat.le_refl _) dX12_served_22 h
def j_X12_shield_114 (B : Nat → Int32 → Int32 → Int32 → Int32 → Int32 → Int32 → Int32 → Wd → Prop) (E139 : Int32 → Int32 → Wd → Prop) (K : Int32 → Wd → Prop) (a0 : Nat) (a1 : Int32) (a2 : Int32) (a3 : Int32) (a4 : Int32) (a5 : Int32) (a6 : Int32) (a7 : Int32) (w : Wd) : Prop :=
  isK w a0 12 ∧ w_X12_wokenBy a0 a1 a2 a7 (fun r14 w15 => w_X12_has r14 a3 (fun r16 w17 => ((r16 = 0 → B a0 a1 a2 a3 a4 a5 a7 (a7 + 1) w17) ∧ (¬ r16 = 0 → B a0 a1 a2 a3 a4 a5 a6 (a7 + 1) w17))) w15) w
def l_X12_shield_78 (E139 : Int32 → Int32 → Wd → Prop) (K : Int32 → Wd → Prop) : Nat → Nat → Int32 → Int32 → Int32 → Int32 → Int32 → Int32 → Int32 → Wd → Prop
  | 0, _, _, _, _, _, _, _, _, _ => False
  | n + 1, a0, a1, a2, a3, a4, a5, a6, a7, w => ((a5 < a7 → E139 a4 a6 w) ∧ (¬ a5 < a7 → (((a7 &&& (a5 ^^^ (-1))) = 0 → ((a6 = (-1) → j_X12_shield_114 (l_X12_shield_78 E139 K n) E139 K a0 a1 a2 a3 a4 a5 a6 a7 w) ∧ (¬ a6 = (-1) → w_X12_size a7 (fun r19 w20 => w_X12_size a6 (fun r21 w22 => ((r21 ≤ r19 → l_X12_shield_78 E139 K n a0 a1 a2 a3 a4 a5 a6 (a7 + 1) w22) ∧ (¬ r21 ≤ r19 → j_X12_shield_114 (l_X12_shield_78 E139 K n) E139 K a0 a1 a2 a3 a4 a5 a6 a7 w22))) w20) w))) ∧ (¬ (a7 &&& (a5 ^^^ (-1))) = 0 → l_X12_shield_78 E139 K n a0 a1 a2 a3 a4 a5 a6 (a7 + 1) w))))
def j_X12_shield_46  (K : Int32 → Wd → Prop) (a0 : Nat) (a1 : Int32) (a2 : Int32) (a3 : Int32) (a4 : Int32) (s0 : Int32) (s1 : Nat) (w : Wd) : Prop :=
  isK w s1 12 ∧ isK w a0 12 ∧ (((wI (uI w s1 4 s0) a0 4) ≤ 0 → w_X12_chainOf a0 a1 a2 (fun r8 w9 => ∃ n31, l_X12_shield_78 (fun b24 b25 w26 => ((b25 = (-1) → K b25 w26) ∧ (¬ b25 = (-1) → ((b24 = 1 → K b25 w26) ∧ (¬ b24 = 1 → w_X12_size b25 (fun r29 w30 => K r29 w30) w26))))) K n31 a0 a1 a2 a3 a4 (r8 &&& ((x_ishl 1 a3) ^^^ (-1))) (-1) 0 w9) (uI w s1 4 s0)) ∧ (¬ (wI (uI w s1 4 s0) a0 4) ≤ 0 → K 0 (uI w s1 4 s0)))
def w_X12_shield (a0 : Nat) (a1 : Int32) (a2 : Int32) (a3 : Int32) (a4 : Int32) (K : Int32 → Wd → Prop) (w : Wd) : Prop :=
  isK w a0 12 ∧ w_X12_isWell a0 a1.toInt64 (fun r2 w3 => ((r2 = 0 → j_X12_shield_46 K a0 a1 a2 a3 a4 1 a0 w3) ∧ (¬ r2 = 0 → isK w3 a0 12 ∧ w_X12_isWell a0 a3.toInt64 (fun r33 w34 => ((r33 = 0 → j_X12_shield_46 K a0 a1 a2 a3 a4 1 a0 w34) ∧ (¬ r33 = 0 → w_X12_isNoise a2 (fun r36 w37 => ((r36 = 0 → j_X12_shield_46 K a0 a1 a2 a3 a4 2 a0 w37) ∧ (¬ r36 = 0 → w_X12_within a4.toInt64 0 1 (fun r39 w40 => ((r39 = 0 → j_X12_shield_46 K a0 a1 a2 a3 a4 2 a0 w40) ∧ (¬ r39 = 0 → j_X12_shield_46 K a0 a1 a2 a3 a4 0 a0 w40))) w37))) w34))) w3))) w
theorem t_X12_shield_114 (C : xC x p s m c cX12_shield 8 args RX12) (hlk : meth.locks = false) (hr : meth.sig.returnType = some .int) {K : Int32 → Wd → Prop} {B : Nat → Int32 → Int32 → Int32 → Int32 → Int32 → Int32 → Int32 → Wd → Prop} {E139 : Int32 → Int32 → Wd → Prop} (hB : ∀ (b0 : Nat) (b1 : Int32) (b2 : Int32) (b3 : Int32) (b4 : Int32) (b5 : Int32) (b6 : Int32) (b7 : Int32) (w : Wd), B b0 b1 b2 b3 b4 b5 b6 b7 w → GW x p l e (rmd 6 0 0) s m args below meth c 8 (QI x K below args s 0 0) 78 [(0, .ref (adr x b0)), (1, .int b1), (2, .int b2), (3, .int b3), (4, .int b4), (5, .int b5), (6, .int b6), (7, .int b7)] [] w 0 0) (hE139 : ∀ (b4 : Int32) (b6 : Int32) (w : Wd), E139 b4 b6 w → GW x p l e (rmd 6 0 0) s m args below meth c 8 (QI x K below args s 0 0) 139 [(4, .int b4), (6, .int b6)] [] w 0 0) (a0 : Nat) (a1 : Int32) (a2 : Int32) (a3 : Int32) (a4 : Int32) (a5 : Int32) (a6 : Int32) (a7 : Int32) (w : Wd) (h : j_X12_shield_114 B E139 K a0 a1 a2 a3 a4 a5 a6 a7 w) : GW x p l e (rmd 6 0 0) s m args below meth c 8 (QI x K below args s 0 0) 114 [(0, .ref (adr x a0)), (1, .int a1), (2, .int a2), (3, .int a3), (4, .int a4), (5, .int a5), (6, .int a6), (7, .int a7)] [] w 0 0 := by
  refine g_aload_n (pc := 114) C dX12_shield_114 (q := 0) rfl ?_
  refine g_iload_n (pc := 115) C dX12_shield_115 (q := 1) rfl ?_
  refine g_iload_n (pc := 116) C dX12_shield_116 (q := 2) rfl ?_
  refine g_iload (pc := 117) C dX12_shield_117 (q := 7) rfl ?_
  obtain ⟨k13, h⟩ := h
  refine miX12_286 (pc := 119) C k13 h (Nat.le_of_ble_eq_true rfl) (Nat.le_of_ble_eq_true rfl) ⟨Nat.le_refl _, Nat.le_refl _⟩ dX12_shield_119 (fun r14 w15 h => ?_)
  refine g_iload_n (pc := 122) C dX12_shield_122 (q := 3) rfl ?_
  refine miX12_268 (pc := 123) C h (Nat.le_of_ble_eq_true rfl) (Nat.le_of_ble_eq_true rfl) ⟨Nat.le_refl _, Nat.le_refl _⟩ dX12_shield_123 (fun r16 w17 h => ?_)
  refine g_if_ne (pc := 126) C dX12_shield_126 (tgt := 133) rfl (fun z18 => ?_) (fun z18 => ?_)
  · replace h := h.2 z18
    refine g_iinc (pc := 133) C dX12_shield_133 (q := 7) rfl (v2 := a7 + 1) rfl (Nat.le_of_ble_eq_true rfl) (lo' := [(7, .int (a7 + 1)), (0, .ref (adr x a0)), (1, .int a1), (2, .int a2), (3, .int a3), (4, .int a4), (5, .int a5), (6, .int a6)]) rfl ?_
    refine g_goto (pc := 136) C dX12_shield_136 (tgt := 78) rfl ?_
    refine g_sub [1, 2, 3, 4, 5, 6, 7, 0] rfl ?_
    exact hB _ _ _ _ _ _ _ _ _ h
  · replace h := h.1 z18
    refine g_iload (pc := 129) C dX12_shield_129 (q := 7) rfl ?_
    refine g_istore (pc := 131) C dX12_shield_131 (Nat.le_of_ble_eq_true rfl) (lo' := [(6, .int a7), (0, .ref (adr x a0)), (1, .int a1), (2, .int a2), (3, .int a3), (4, .int a4), (5, .int a5), (7, .int a7)]) rfl ?_
    refine g_iinc (pc := 133) C dX12_shield_133 (q := 7) rfl (v2 := a7 + 1) rfl (Nat.le_of_ble_eq_true rfl) (lo' := [(7, .int (a7 + 1)), (6, .int a7), (0, .ref (adr x a0)), (1, .int a1), (2, .int a2), (3, .int a3), (4, .int a4), (5, .int a5)]) rfl ?_
    refine g_goto (pc := 136) C dX12_shield_136 (tgt := 78) rfl ?_
    refine g_sub [2, 3, 4, 5, 6, 7, 1, 0] rfl ?_
    exact hB _ _ _ _ _ _ _ _ _ h
theorem t_X12_shield_78 (C : xC x p s m c cX12_shield 8 args RX12) (hlk : meth.locks = false) (hr : meth.sig.returnType = some .int) {K : Int32 → Wd → Prop} {E139 : Int32 → Int32 → Wd → Prop} (hE139 : ∀ (b4 : Int32) (b6 : Int32) (w : Wd), E139 b4 b6 w → GW x p l e (rmd 6 0 0) s m args below meth c 8 (QI x K below args s 0 0) 139 [(4, .int b4), (6, .int b6)] [] w 0 0) : ∀ (n : Nat) (a0 : Nat) (a1 : Int32) (a2 : Int32) (a3 : Int32) (a4 : Int32) (a5 : Int32) (a6 : Int32) (a7 : Int32) (w : Wd), l_X12_shield_78 E139 K n a0 a1 a2 a3 a4 a5 a6 a7 w → GW x p l e (rmd 6 0 0) s m args below meth c 8 (QI x K below args s 0 0) 78 [(0, .ref (adr x a0)), (1, .int a1), (2, .int a2), (3, .int a3), (4, .int a4), (5, .int a5), (6, .int a6), (7, .int a7)] [] w 0 0 := by
  intro n
  induction n with
  | zero => intro _ _ _ _ _ _ _ _ _ h; exact False.elim h
  | succ n ih =>
    intro a0 a1 a2 a3 a4 a5 a6 a7 w h
    refine g_iload (pc := 78) C dX12_shield_78 (q := 7) rfl ?_
    refine g_iload (pc := 80) C dX12_shield_80 (q := 5) rfl ?_
    refine g_icmp_gt (pc := 82) C dX12_shield_82 (tgt := 139) rfl (fun z10 => ?_) (fun z10 => ?_)
    · replace h := h.1 z10
      refine g_sub [4, 6] rfl ?_
      exact hE139 _ _ _ h
    · replace h := h.2 z10
      refine g_iload (pc := 85) C dX12_shield_85 (q := 7) rfl ?_
      refine g_iload (pc := 87) C dX12_shield_87 (q := 5) rfl ?_
      refine g_iconst (pc := 89) C dX12_shield_89 (v := (-1)) rfl ?_
      refine g_ixor (pc := 90) C dX12_shield_90 ?_
      refine g_iand (pc := 91) C dX12_shield_91 ?_
      refine g_if_ne (pc := 92) C dX12_shield_92 (tgt := 133) rfl (fun z11 => ?_) (fun z11 => ?_)
      · replace h := h.2 z11
        refine g_iinc (pc := 133) C dX12_shield_133 (q := 7) rfl (v2 := a7 + 1) rfl (Nat.le_of_ble_eq_true rfl) (lo' := [(7, .int (a7 + 1)), (0, .ref (adr x a0)), (1, .int a1), (2, .int a2), (3, .int a3), (4, .int a4), (5, .int a5), (6, .int a6)]) rfl ?_
        refine g_goto (pc := 136) C dX12_shield_136 (tgt := 78) rfl ?_
        refine g_sub [1, 2, 3, 4, 5, 6, 7, 0] rfl ?_
        exact ih _ _ _ _ _ _ _ _ _ h
      · replace h := h.1 z11
        refine g_iload (pc := 95) C dX12_shield_95 (q := 6) rfl ?_
        refine g_iconst (pc := 97) C dX12_shield_97 (v := (-1)) rfl ?_
        refine g_icmp_eq (pc := 98) C dX12_shield_98 (tgt := 114) rfl (fun z12 => ?_) (fun z12 => ?_)
        · replace h := h.1 z12
          exact t_X12_shield_114 C hlk hr ih hE139 _ _ _ _ _ _ _ _ _ h
        · replace h := h.2 z12
          refine g_iload (pc := 101) C dX12_shield_101 (q := 7) rfl ?_
          refine miX12_265 (pc := 103) C h (Nat.le_of_ble_eq_true rfl) (Nat.le_of_ble_eq_true rfl) ⟨Nat.le_refl _, Nat.le_refl _⟩ dX12_shield_103 (fun r19 w20 h => ?_)
          refine g_iload (pc := 106) C dX12_shield_106 (q := 6) rfl ?_
          refine miX12_265 (pc := 108) C h (Nat.le_of_ble_eq_true rfl) (Nat.le_of_ble_eq_true rfl) ⟨Nat.le_refl _, Nat.le_refl _⟩ dX12_shield_108 (fun r21 w22 h => ?_)
          refine g_icmp_ge (pc := 111) C dX12_shield_111 (tgt := 133) rfl (fun z23 => ?_) (fun z23 => ?_)
          · replace h := h.1 z23
            refine g_iinc (pc := 133) C dX12_shield_133 (q := 7) rfl (v2 := a7 + 1) rfl (Nat.le_of_ble_eq_true rfl) (lo' := [(7, .int (a7 + 1)), (0, .ref (adr x a0)), (1, .int a1), (2, .int a2), (3, .int a3), (4, .int a4), (5, .int a5), (6, .int a6)]) rfl ?_
            refine g_goto (pc := 136) C dX12_shield_136 (tgt := 78) rfl ?_
            refine g_sub [1, 2, 3, 4, 5, 6, 7, 0] rfl ?_
            exact ih _ _ _ _ _ _ _ _ _ h
          · replace h := h.2 z23
            exact t_X12_shield_114 C hlk hr ih hE139 _ _ _ _ _ _ _ _ _ h
theorem t_X12_shield_46 (C : xC x p s m c cX12_shield 8 args RX12) (hlk : meth.locks = false) (hr : meth.sig.returnType = some .int) {K : Int32 → Wd → Prop}   (a0 : Nat) (a1 : Int32) (a2 : Int32) (a3 : Int32) (a4 : Int32) (s0 : Int32) (s1 : Nat) (w : Wd) (h : j_X12_shield_46 K a0 a1 a2 a3 a4 s0 s1 w) : GW x p l e (rmd 6 0 0) s m args below meth c 8 (QI x K below args s 0 0) 46 [(0, .ref (adr x a0)), (1, .int a1), (2, .int a2), (3, .int a3), (4, .int a4)] [.int s0, .ref (adr x s1)] w 0 0 := by
  obtain ⟨k5, h⟩ := h
  refine pfX12_58 (pc := 46) C k5 dX12_shield_46 ?_
  refine g_aload_n (pc := 49) C dX12_shield_49 (q := 0) rfl ?_
  obtain ⟨k6, h⟩ := h
  refine gfX12_58 (pc := 50) (w := uI w s1 4 s0) C k6 dX12_shield_50 ?_
  refine g_if_le (pc := 53) C dX12_shield_53 (tgt := 58) rfl (fun z7 => ?_) (fun z7 => ?_)
  · replace h := h.1 z7
    refine g_aload_n (pc := 58) C dX12_shield_58 (q := 0) rfl ?_
    refine g_iload_n (pc := 59) C dX12_shield_59 (q := 1) rfl ?_
    refine g_iload_n (pc := 60) C dX12_shield_60 (q := 2) rfl ?_
    refine miX12_316 (pc := 61) (w := uI w s1 4 s0) C k6 h (Nat.le_of_ble_eq_true rfl) (Nat.le_of_ble_eq_true rfl) ⟨Nat.le_refl _, Nat.le_refl _⟩ dX12_shield_61 (fun r8 w9 h => ?_)
    refine g_iconst (pc := 64) C dX12_shield_64 (v := 1) rfl ?_
    refine g_iload_n (pc := 65) C dX12_shield_65 (q := 3) rfl ?_
    refine h_ishl (pc := 66) C dX12_shield_66 ?_
    refine g_iconst (pc := 67) C dX12_shield_67 (v := (-1)) rfl ?_
    refine g_ixor (pc := 68) C dX12_shield_68 ?_
    refine g_iand (pc := 69) C dX12_shield_69 ?_
    refine g_istore (pc := 70) C dX12_shield_70 (Nat.le_of_ble_eq_true rfl) (lo' := [(5, .int (r8 &&& ((x_ishl 1 a3) ^^^ (-1)))), (0, .ref (adr x a0)), (1, .int a1), (2, .int a2), (3, .int a3), (4, .int a4)]) rfl ?_
    refine g_iconst (pc := 72) C dX12_shield_72 (v := (-1)) rfl ?_
    refine g_istore (pc := 73) C dX12_shield_73 (Nat.le_of_ble_eq_true rfl) (lo' := [(6, .int (-1)), (5, .int (r8 &&& ((x_ishl 1 a3) ^^^ (-1)))), (0, .ref (adr x a0)), (1, .int a1), (2, .int a2), (3, .int a3), (4, .int a4)]) rfl ?_
    refine g_iconst (pc := 75) C dX12_shield_75 (v := 0) rfl ?_
    refine g_istore (pc := 76) C dX12_shield_76 (Nat.le_of_ble_eq_true rfl) (lo' := [(7, .int 0), (6, .int (-1)), (5, .int (r8 &&& ((x_ishl 1 a3) ^^^ (-1)))), (0, .ref (adr x a0)), (1, .int a1), (2, .int a2), (3, .int a3), (4, .int a4)]) rfl ?_
    obtain ⟨n31, h⟩ := h
    refine g_sub [3, 4, 5, 6, 7, 2, 1, 0] rfl ?_
    refine t_X12_shield_78 C hlk hr ?_ n31 _ _ _ _ _ _ _ _ _ h
    · intro b24 b25 w26 h
      refine g_iload (pc := 139) C dX12_shield_139 (q := 1) rfl ?_
      refine g_iconst (pc := 141) C dX12_shield_141 (v := (-1)) rfl ?_
      refine g_icmp_eq (pc := 142) C dX12_shield_142 (tgt := 151) rfl (fun z27 => ?_) (fun z27 => ?_)
      · replace h := h.1 z27
        refine g_iload (pc := 151) C dX12_shield_151 (q := 1) rfl ?_
        refine g_goto (pc := 153) C dX12_shield_153 (tgt := 161) rfl ?_
        exact g_iret (pc := 161) C hlk hr (Nat.le_refl _) (Nat.le_refl _) dX12_shield_161 h
      · replace h := h.2 z27
        refine g_iload (pc := 145) C dX12_shield_145 (q := 0) rfl ?_
        refine g_iconst (pc := 147) C dX12_shield_147 (v := 1) rfl ?_
        refine g_icmp_ne (pc := 148) C dX12_shield_148 (tgt := 156) rfl (fun z28 => ?_) (fun z28 => ?_)
        · replace h := h.2 z28
          refine g_iload (pc := 156) C dX12_shield_156 (q := 1) rfl ?_
          refine miX12_265 (pc := 158) C h (Nat.le_of_ble_eq_true rfl) (Nat.le_of_ble_eq_true rfl) ⟨Nat.le_refl _, Nat.le_refl _⟩ dX12_shield_158 (fun r29 w30 h => ?_)
          exact g_iret (pc := 161) C hlk hr (Nat.le_refl _) (Nat.le_refl _) dX12_shield_161 h
        · replace h := h.1 z28
          refine g_iload (pc := 151) C dX12_shield_151 (q := 1) rfl ?_
          refine g_goto (pc := 153) C dX12_shield_153 (tgt := 161) rfl ?_
          exact g_iret (pc := 161) C hlk hr (Nat.le_refl _) (Nat.le_refl _) dX12_shield_161 h
  · replace h := h.2 z7
    refine g_iconst (pc := 56) C dX12_shield_56 (v := 0) rfl ?_
    exact g_iret (pc := 57) C hlk hr (Nat.le_refl _) (Nat.le_refl _) dX12_shield_57 h
theorem c_X12_shield {x : xG} {l : Launch} {a0 : Nat} {a1 : Int32} {a2 : Int32} {a3 : Int32} {a4 : Int32} {K : Int32 → Wd → Prop} {w : Wd} (h : w_X12_shield a0 a1 a2 a3 a4 K w) : Met l yX12_shield (xws yX12_shield cX12_shield 8 (some .int)) (rmd 6 0 0) (xPc x [.ref (adr x a0), .int a1, .int a2, .int a3, .int a4] w) (QcI x K) 0 0 (xA x) := by
  refine xMet (by decide) (Nat.le_of_ble_eq_true rfl) (fun p e s m below meth c C hlk hr _ => ?_)
  show GW x p l e (rmd 6 0 0) s m [.ref (adr x a0), .int a1, .int a2, .int a3, .int a4].toArray below meth c 8 (QI x K below [.ref (adr x a0), .int a1, .int a2, .int a3, .int a4].toArray s 0 0) 0 [(0, .ref (adr x a0)), (1, .int a1), (2, .int a2), (3, .int a3), (4, .int a4)] [] w 0 0
  refine g_aload_n (pc := 0) C dX12_shield_0 (q := 0) rfl ?_
  refine g_aload_n (pc := 1) C dX12_shield_1 (q := 0) rfl ?_
  refine g_iload_n (pc := 2) C dX12_shield_2 (q := 1) rfl ?_
  refine g_i2l (pc := 3) C dX12_shield_3 ?_
  obtain ⟨k1, h⟩ := h
  refine miX12_302 (pc := 4) C k1 h (Nat.le_of_ble_eq_true rfl) (Nat.le_of_ble_eq_true rfl) ⟨Nat.le_refl _, Nat.le_refl _⟩ dX12_shield_4 (fun r2 w3 h => ?_)
  refine g_if_eq (pc := 7) C dX12_shield_7 (tgt := 19) rfl (fun z4 => ?_) (fun z4 => ?_)
  · replace h := h.1 z4
    refine g_iconst (pc := 19) C dX12_shield_19 (v := 1) rfl ?_
    refine g_goto (pc := 20) C dX12_shield_20 (tgt := 46) rfl ?_
    exact t_X12_shield_46 C hlk hr  _ _ _ _ _ _ _ _ h
  · replace h := h.2 z4
    refine g_aload_n (pc := 10) C dX12_shield_10 (q := 0) rfl ?_
    refine g_iload_n (pc := 11) C dX12_shield_11 (q := 3) rfl ?_
    refine g_i2l (pc := 12) C dX12_shield_12 ?_
    obtain ⟨k32, h⟩ := h
    refine miX12_302 (pc := 13) C k32 h (Nat.le_of_ble_eq_true rfl) (Nat.le_of_ble_eq_true rfl) ⟨Nat.le_refl _, Nat.le_refl _⟩ dX12_shield_13 (fun r33 w34 h => ?_)
    refine g_if_ne (pc := 16) C dX12_shield_16 (tgt := 23) rfl (fun z35 => ?_) (fun z35 => ?_)
    · replace h := h.2 z35
      refine g_iload_n (pc := 23) C dX12_shield_23 (q := 2) rfl ?_
      refine miX12_402 (pc := 24) C h (Nat.le_of_ble_eq_true rfl) (Nat.le_of_ble_eq_true rfl) ⟨Nat.le_refl _, Nat.le_refl _⟩ dX12_shield_24 (fun r36 w37 h => ?_)
      refine g_if_eq (pc := 27) C dX12_shield_27 (tgt := 45) rfl (fun z38 => ?_) (fun z38 => ?_)
      · replace h := h.1 z38
        refine g_iconst (pc := 45) C dX12_shield_45 (v := 2) rfl ?_
        exact t_X12_shield_46 C hlk hr  _ _ _ _ _ _ _ _ h
      · replace h := h.2 z38
        refine g_iload (pc := 30) C dX12_shield_30 (q := 4) rfl ?_
        refine g_i2l (pc := 32) C dX12_shield_32 ?_
        refine g_lconst (pc := 33) C dX12_shield_33 (v := 0) rfl ?_
        refine g_lconst (pc := 34) C dX12_shield_34 (v := 1) rfl ?_
        refine miX12_119 (pc := 35) C h (Nat.le_of_ble_eq_true rfl) (Nat.le_of_ble_eq_true rfl) ⟨Nat.le_refl _, Nat.le_refl _⟩ dX12_shield_35 (fun r39 w40 h => ?_)
        refine g_if_eq (pc := 38) C dX12_shield_38 (tgt := 45) rfl (fun z41 => ?_) (fun z41 => ?_)
        · replace h := h.1 z41
          refine g_iconst (pc := 45) C dX12_shield_45 (v := 2) rfl ?_
          exact t_X12_shield_46 C hlk hr  _ _ _ _ _ _ _ _ h
        · replace h := h.2 z41
          refine g_iconst (pc := 41) C dX12_shield_41 (v := 0) rfl ?_
          refine g_goto (pc := 42) C dX12_shield_42 (tgt := 46) rfl ?_
          exact t_X12_shield_46 C hlk hr  _ _ _ _ _ _ _ _ h
    · replace h := h.1 z35
      refine g_iconst (pc := 19) C dX12_shield_19 (v := 1) rfl ?_
      refine g_goto (pc := 20) C dX12_shield_20 (tgt := 46) rfl ?_
      exact t_X12_shield_46 C hlk hr  _ _ _ _ _ _ _ _ h
end ME
