/-! methods: X11_stillest, X11_together, X11_tray, X11_undo, X11_wakers, X11_wakes, X11_wakesIn, X11_waterIn, X11_well, X11_whose, X11_withAwake, X11_write, X11_yawns, X11_year -/
section ME
variable {x : xG} {p : Program} {l : Launch} {e : Env} {R : Room} {s : State} {m : MethodId} {args : Array Value} {below : List Frame} {meth : Method} {c : Code} {Q : State → Prop} {cc : ByteArray} {nL : Nat} {pc : Nat} {lo : List (Nat × Value)} {st : List Value} {w : Wd} {i j : Nat}
theorem miX11_262 (C : xC x p s m c cc nL args RX11) {a0 : Nat} {a1 : Int32} {K : Int32 → Wd → Prop} {D MC MS : Nat} (hq : isK w a0 8) (h : w_X8_firstWith a0 a1 K w) (hD : 2 + 1 ≤ D) (hW : (st.map fun v => v.category).sum ≤ 8) (hij : i ≤ MC ∧ j ≤ MS) (hd : decode cc pc = .ok (.invokevirtual 262, 3)) (k : ∀ (r : Int32) (u : Wd), K r u → GW x p l e (rmd D MC MS) s m args below meth c nL Q (pc + 3) lo (.int r :: st) u i j) : GW x p l e (rmd D MC MS) s m args below meth c nL Q pc lo (.int a1 :: .ref (adr x a0) :: st) w i j := g_callVi0 C (As := [.int a1]) (ci := 8) (c_X8_firstWith h) (x_cwV C 1 LMX11_262 ⟨rfl, by decide, by decide, rfl⟩ hD (by decide)) rfl hq (by decide) rfl rfl hW hd hij k
theorem miX11_271 (C : xC x p s m c cc nL args RX11) {a0 : Nat} {K : Int32 → Wd → Prop} {D MC MS : Nat} (hq : isK w a0 8) (h : w_X8_fewest a0 K w) (hD : 2 + 1 ≤ D) (hW : (st.map fun v => v.category).sum ≤ 8) (hij : i ≤ MC ∧ j ≤ MS) (hd : decode cc pc = .ok (.invokevirtual 271, 3)) (k : ∀ (r : Int32) (u : Wd), K r u → GW x p l e (rmd D MC MS) s m args below meth c nL Q (pc + 3) lo (.int r :: st) u i j) : GW x p l e (rmd D MC MS) s m args below meth c nL Q pc lo (.ref (adr x a0) :: st) w i j := g_callVi0 C (As := []) (ci := 8) (c_X8_fewest h) (x_cwV C 0 LMX11_271 ⟨rfl, by decide, by decide, rfl⟩ hD (by decide)) rfl hq (by decide) rfl rfl hW hd hij k
def w_X11_stillest (mc ms : Nat) (a0 : Nat) (a1 : Int32) (K : Int32 → Wd → Prop) (X : String → Wd → Prop) (w : Wd) : Prop :=
  (1 ≤ mc ∧ 6 ≤ ms) ∧ w_X11_needWithin 1 6 a1 0 1 (fun w1 => isK w1 a0 11 ∧ isK w1 (wR w1 a0 7) 8 ∧ isK w1 (wR w1 a0 0) 5 ∧ isK w1 (wR w1 (wR w1 a0 0) 0) 2 ∧ isK w1 (wR w1 (wR w1 (wR w1 a0 0) 0) 0) 1 ∧ w_X1_allWells (wR w1 (wR w1 (wR w1 a0 0) 0) 0) (fun r8 w9 => isK w9 (wR w1 a0 7) 8 ∧ w_X8_over (wR w1 a0 7) (wR w1 (wR w1 a0 0) 0) r8 (fun w11 => isK w11 a0 11 ∧ isK w11 (wR w11 a0 7) 8 ∧ w_X8_fewest (wR w11 a0 7) (fun r14 w15 => ((a1 = 0 → isK w15 a0 11 ∧ isK w15 (wR w15 a0 7) 8 ∧ w_X8_firstWith (wR w15 a0 7) r14 (fun r19 w20 => K r19 w20) w15) ∧ (¬ a1 = 0 → K r14 w15))) w11) w9) w1) X w
theorem c_X11_stillest {x : xG} {l : Launch} (hl : l.stackTraces = false) {a0 : Nat} {a1 : Int32} {mc ms : Nat} {X : String → Wd → Prop} {K : Int32 → Wd → Prop} {w : Wd} (h : w_X11_stillest mc ms a0 a1 K X w) : vx_Met l yX11_stillest (xws yX11_stillest cX11_stillest 3 (some .int)) (rmd 7 mc ms) (xPc x [.ref (adr x a0), .int a1] w) (QcI x K) (XCx x X) mc ms (xA x) := by
  refine xMetX (by decide) (Nat.le_of_ble_eq_true rfl) (fun p e s m below meth c C hlk hr htab => ?_)
  show GW x p l e (rmd 7 mc ms) s m [.ref (adr x a0), .int a1].toArray below meth c 3 (vx_MQ below (QcI x K) (XCx x X) [.ref (adr x a0), .int a1].toArray s mc ms (xA x)) 0 [(0, .ref (adr x a0)), (1, .int a1)] [] w 0 0
  refine g_iload_n (pc := 0) C dX11_stillest_0 (q := 1) rfl ?_
  refine g_iconst (pc := 1) C dX11_stillest_1 (v := 0) rfl ?_
  refine g_iconst (pc := 2) C dX11_stillest_2 (v := 1) rfl ?_
  obtain ⟨hb2, h⟩ := h
  refine mxX11_95 (pc := 3) C hl htab hlk h (Nat.le_of_ble_eq_true rfl) (Nat.le_of_ble_eq_true rfl) hb2 dX11_stillest_3 (fun w1 h => ?_)
  refine g_aload_n (pc := 6) C dX11_stillest_6 (q := 0) rfl ?_
  obtain ⟨k3, h⟩ := h
  obtain ⟨k4, h⟩ := h
  refine gfX11_24 (pc := 7) C k3 (isK_ne k4) dX11_stillest_7 ?_
  refine g_aload_n (pc := 10) C dX11_stillest_10 (q := 0) rfl ?_
  obtain ⟨k5, h⟩ := h
  refine gfX11_49 (pc := 11) C k3 (isK_ne k5) dX11_stillest_11 ?_
  obtain ⟨k6, h⟩ := h
  refine gfX11_122 (pc := 14) C k5 (isK_ne k6) dX11_stillest_14 ?_
  refine g_aload_n (pc := 17) C dX11_stillest_17 (q := 0) rfl ?_
  refine gfX11_49 (pc := 18) C k3 (isK_ne k5) dX11_stillest_18 ?_
  refine gfX11_122 (pc := 21) C k5 (isK_ne k6) dX11_stillest_21 ?_
  obtain ⟨k7, h⟩ := h
  refine gfX11_125 (pc := 24) C k6 (isK_ne k7) dX11_stillest_24 ?_
  refine miX11_244 (pc := 27) C k7 h (Nat.le_of_ble_eq_true rfl) (Nat.le_of_ble_eq_true rfl) hb2 dX11_stillest_27 (fun r8 w9 h => ?_)
  obtain ⟨k10, h⟩ := h
  refine miX11_247 (pc := 30) C k10 h (Nat.le_of_ble_eq_true rfl) (Nat.le_of_ble_eq_true rfl) hb2 dX11_stillest_30 (fun w11 h => ?_)
  refine g_aload_n (pc := 33) C dX11_stillest_33 (q := 0) rfl ?_
  obtain ⟨k12, h⟩ := h
  obtain ⟨k13, h⟩ := h
  refine gfX11_24 (pc := 34) C k12 (isK_ne k13) dX11_stillest_34 ?_
  refine miX11_271 (pc := 37) C k13 h (Nat.le_of_ble_eq_true rfl) (Nat.le_of_ble_eq_true rfl) hb2 dX11_stillest_37 (fun r14 w15 h => ?_)
  refine g_istore_n (pc := 40) C dX11_stillest_40 (Nat.le_of_ble_eq_true rfl) (lo' := [(2, .int r14), (0, .ref (adr x a0)), (1, .int a1)]) rfl ?_
  refine g_iload_n (pc := 41) C dX11_stillest_41 (q := 2) rfl ?_
  refine g_if_ne (pc := 42) C dX11_stillest_42 (tgt := 56) rfl (fun z16 => ?_) (fun z16 => ?_)
  · replace h := h.2 z16
    refine g_iload_n (pc := 56) C dX11_stillest_56 (q := 0) rfl ?_
    refine gx_ret ?_; exact g_iret (pc := 57) C hlk hr hb2.1 hb2.2 dX11_stillest_57 h
  · replace h := h.1 z16
    refine g_aload_n (pc := 45) C dX11_stillest_45 (q := 1) rfl ?_
    obtain ⟨k17, h⟩ := h
    obtain ⟨k18, h⟩ := h
    refine gfX11_24 (pc := 46) C k17 (isK_ne k18) dX11_stillest_46 ?_
    refine g_iload_n (pc := 49) C dX11_stillest_49 (q := 0) rfl ?_
    refine miX11_262 (pc := 50) C k18 h (Nat.le_of_ble_eq_true rfl) (Nat.le_of_ble_eq_true rfl) hb2 dX11_stillest_50 (fun r19 w20 h => ?_)
    refine g_goto (pc := 53) C dX11_stillest_53 (tgt := 57) rfl ?_
    refine gx_ret ?_; exact g_iret (pc := 57) C hlk hr hb2.1 hb2.2 dX11_stillest_57 h
theorem mxX11_254 (C : xC x p s m c cc nL args RX11) {a0 : Nat} {a1 : Int32} {K : Wd → Prop} {D MC MS c0 s0 : Nat} {Qc : Array Value → State → Outcome → State → Prop} {X : String → Wd → Prop} (hl : l.stackTraces = false) (htab : ∀ z ∈ c.exceptionTable.toList, False) (hlk : meth.locks = false) (hq : isK w a0 11) (h : w_X11_needSet c0 s0 a0 a1 K X w) (hD : 6 + 1 ≤ D) (hW : (st.map fun v => v.category).sum ≤ 8) (hr : i + c0 ≤ MC ∧ j + s0 ≤ MS) (hd : decode cc pc = .ok (.invokevirtual 254, 3)) (k : ∀ (u : Wd), K u → GW x p l e (rmd D MC MS) s m args below meth c nL (vx_MQ below Qc (XCx x X) args s MC MS (xA x)) (pc + 3) lo st u (i + c0) (j + s0)) : GW x p l e (rmd D MC MS) s m args below meth c nL (vx_MQ below Qc (XCx x X) args s MC MS (xA x)) pc lo (.int a1 :: .ref (adr x a0) :: st) w i j := gx_callVv C (As := [.int a1]) (ci := 11) htab hlk (c_X11_needSet hl h) (x_cwV C 1 LMX11_254 ⟨rfl, by decide, by decide, rfl⟩ hD (by decide)) rfl hq (by decide) rfl rfl hW hd hr k
def w_X11_together (mc ms : Nat) (a0 : Nat) (a1 : Int32) (a2 : Int32) (K : Int32 → Wd → Prop) (X : String → Wd → Prop) (w : Wd) : Prop :=
  isK w a0 11 ∧ (1 ≤ mc ∧ 6 ≤ ms) ∧ w_X11_needSet 1 6 a0 a1 (fun w2 => isK w2 a0 11 ∧ isK w2 (wR w2 a0 7) 8 ∧ isK w2 (wR w2 a0 0) 5 ∧ isK w2 (wR w2 (wR w2 a0 0) 0) 2 ∧ w_X8_over (wR w2 a0 7) (wR w2 (wR w2 a0 0) 0) a1 (fun w8 => isK w8 a0 11 ∧ isK w8 (wR w8 a0 7) 8 ∧ ((a2 = 0 → w_X8_firstWith (wR w8 a0 7) 0 (fun r12 w13 => K r12 w13) w8) ∧ (¬ a2 = 0 → w_J6_bitCount_0f7a4 a1 (fun r14 w15 => isK w15 (wR w8 a0 7) 8 ∧ w_X8_firstWith (wR w8 a0 7) r14 (fun r17 w18 => K r17 w18) w15) w8))) w2) X w
theorem c_X11_together {x : xG} {l : Launch} (hl : l.stackTraces = false) {a0 : Nat} {a1 : Int32} {a2 : Int32} {mc ms : Nat} {X : String → Wd → Prop} {K : Int32 → Wd → Prop} {w : Wd} (h : w_X11_together mc ms a0 a1 a2 K X w) : vx_Met l yX11_together (xws yX11_together cX11_together 3 (some .int)) (rmd 7 mc ms) (xPc x [.ref (adr x a0), .int a1, .int a2] w) (QcI x K) (XCx x X) mc ms (xA x) := by
  refine xMetX (by decide) (Nat.le_of_ble_eq_true rfl) (fun p e s m below meth c C hlk hr htab => ?_)
  show GW x p l e (rmd 7 mc ms) s m [.ref (adr x a0), .int a1, .int a2].toArray below meth c 3 (vx_MQ below (QcI x K) (XCx x X) [.ref (adr x a0), .int a1, .int a2].toArray s mc ms (xA x)) 0 [(0, .ref (adr x a0)), (1, .int a1), (2, .int a2)] [] w 0 0
  refine g_aload_n (pc := 0) C dX11_together_0 (q := 0) rfl ?_
  refine g_iload_n (pc := 1) C dX11_together_1 (q := 1) rfl ?_
  obtain ⟨k1, h⟩ := h
  obtain ⟨hb3, h⟩ := h
  refine mxX11_254 (pc := 2) C hl htab hlk k1 h (Nat.le_of_ble_eq_true rfl) (Nat.le_of_ble_eq_true rfl) hb3 dX11_together_2 (fun w2 h => ?_)
  refine g_aload_n (pc := 5) C dX11_together_5 (q := 0) rfl ?_
  obtain ⟨k4, h⟩ := h
  obtain ⟨k5, h⟩ := h
  refine gfX11_24 (pc := 6) C k4 (isK_ne k5) dX11_together_6 ?_
  refine g_aload_n (pc := 9) C dX11_together_9 (q := 0) rfl ?_
  obtain ⟨k6, h⟩ := h
  refine gfX11_49 (pc := 10) C k4 (isK_ne k6) dX11_together_10 ?_
  obtain ⟨k7, h⟩ := h
  refine gfX11_122 (pc := 13) C k6 (isK_ne k7) dX11_together_13 ?_
  refine g_iload_n (pc := 16) C dX11_together_16 (q := 1) rfl ?_
  refine miX11_247 (pc := 17) C k5 h (Nat.le_of_ble_eq_true rfl) (Nat.le_of_ble_eq_true rfl) hb3 dX11_together_17 (fun w8 h => ?_)
  refine g_aload_n (pc := 20) C dX11_together_20 (q := 0) rfl ?_
  obtain ⟨k9, h⟩ := h
  obtain ⟨k10, h⟩ := h
  refine gfX11_24 (pc := 21) C k9 (isK_ne k10) dX11_together_21 ?_
  refine g_iload_n (pc := 24) C dX11_together_24 (q := 2) rfl ?_
  refine g_if_eq (pc := 25) C dX11_together_25 (tgt := 35) rfl (fun z11 => ?_) (fun z11 => ?_)
  · replace h := h.1 z11
    refine g_iconst (pc := 35) C dX11_together_35 (v := 0) rfl ?_
    refine miX11_262 (pc := 36) C k10 h (Nat.le_of_ble_eq_true rfl) (Nat.le_of_ble_eq_true rfl) hb3 dX11_together_36 (fun r12 w13 h => ?_)
    refine gx_ret ?_; exact g_iret (pc := 39) C hlk hr hb3.1 hb3.2 dX11_together_39 h
  · replace h := h.2 z11
    refine g_iload_n (pc := 28) C dX11_together_28 (q := 1) rfl ?_
    refine miX11_257 (pc := 29) C h (Nat.le_of_ble_eq_true rfl) (Nat.le_of_ble_eq_true rfl) hb3 dX11_together_29 (fun r14 w15 h => ?_)
    refine g_goto (pc := 32) C dX11_together_32 (tgt := 36) rfl ?_
    obtain ⟨k16, h⟩ := h
    refine miX11_262 (pc := 36) C k16 h (Nat.le_of_ble_eq_true rfl) (Nat.le_of_ble_eq_true rfl) hb3 dX11_together_36 (fun r17 w18 h => ?_)
    refine gx_ret ?_; exact g_iret (pc := 39) C hlk hr hb3.1 hb3.2 dX11_together_39 h
theorem miX11_369 (C : xC x p s m c cc nL args RX11) {a0 : Nat} {a1 : Int32} {a2 : Int32} {K : Wd → Prop} {D MC MS : Nat} (hq : isK w a0 10) (h : w_X10_layOut a0 a1 a2 K w) (hD : 0 + 1 ≤ D) (hW : (st.map fun v => v.category).sum ≤ 8) (hij : i ≤ MC ∧ j ≤ MS) (hd : decode cc pc = .ok (.invokevirtual 369, 3)) (k : ∀ (u : Wd), K u → GW x p l e (rmd D MC MS) s m args below meth c nL Q (pc + 3) lo st u i j) : GW x p l e (rmd D MC MS) s m args below meth c nL Q pc lo (.int a2 :: .int a1 :: .ref (adr x a0) :: st) w i j := g_callVv0 C (As := [.int a1, .int a2]) (ci := 10) (c_X10_layOut h) (x_cwV C 2 LMX11_369 ⟨rfl, by decide, by decide, rfl⟩ hD (by decide)) rfl hq (by decide) rfl rfl hW hd hij k
def w_X11_tray (mc ms : Nat) (a0 : Nat) (a1 : Int32) (a2 : Int32) (a3 : Int32) (K : Wd → Prop) (X : String → Wd → Prop) (w : Wd) : Prop :=
  isK w a0 11 ∧ (1 ≤ mc ∧ 6 ≤ ms) ∧ w_X11_anyTray 1 6 a0 a1 (fun r2 w3 => (2 ≤ mc ∧ 12 ≤ ms) ∧ w_X11_needWithin 1 6 a2 0 3 (fun w5 => (3 ≤ mc ∧ 18 ≤ ms) ∧ w_X11_needWithin 1 6 a3 0 30 (fun w7 => isK w7 r2 10 ∧ w_X10_layOut r2 a2 a3 (fun w10 => K w10) w7) X w5) X w3) X w
theorem c_X11_tray {x : xG} {l : Launch} (hl : l.stackTraces = false) {a0 : Nat} {a1 : Int32} {a2 : Int32} {a3 : Int32} {mc ms : Nat} {X : String → Wd → Prop} {K : Wd → Prop} {w : Wd} (h : w_X11_tray mc ms a0 a1 a2 a3 K X w) : vx_Met l yX11_tray (xws yX11_tray cX11_tray 5 none) (rmd 7 mc ms) (xPc x [.ref (adr x a0), .int a1, .int a2, .int a3] w) (QcV x K) (XCx x X) mc ms (xA x) := by
  refine xMetX (by decide) (Nat.le_of_ble_eq_true rfl) (fun p e s m below meth c C hlk hr htab => ?_)
  show GW x p l e (rmd 7 mc ms) s m [.ref (adr x a0), .int a1, .int a2, .int a3].toArray below meth c 5 (vx_MQ below (QcV x K) (XCx x X) [.ref (adr x a0), .int a1, .int a2, .int a3].toArray s mc ms (xA x)) 0 [(0, .ref (adr x a0)), (1, .int a1), (2, .int a2), (3, .int a3)] [] w 0 0
  refine g_aload_n (pc := 0) C dX11_tray_0 (q := 0) rfl ?_
  refine g_iload_n (pc := 1) C dX11_tray_1 (q := 1) rfl ?_
  obtain ⟨k1, h⟩ := h
  obtain ⟨hb4, h⟩ := h
  refine mxX11_366 (pc := 2) C hl htab hlk k1 h (Nat.le_of_ble_eq_true rfl) (Nat.le_of_ble_eq_true rfl) hb4 dX11_tray_2 (fun r2 w3 h => ?_)
  refine g_astore (pc := 5) C dX11_tray_5 (Nat.le_of_ble_eq_true rfl) (lo' := [(4, .ref (adr x r2)), (0, .ref (adr x a0)), (1, .int a1), (2, .int a2), (3, .int a3)]) rfl ?_
  refine g_iload_n (pc := 7) C dX11_tray_7 (q := 3) rfl ?_
  refine g_iconst (pc := 8) C dX11_tray_8 (v := 0) rfl ?_
  refine g_iconst (pc := 9) C dX11_tray_9 (v := 3) rfl ?_
  obtain ⟨hb6, h⟩ := h
  refine mxX11_95 (pc := 10) C hl htab hlk h (Nat.le_of_ble_eq_true rfl) (Nat.le_of_ble_eq_true rfl) hb6 dX11_tray_10 (fun w5 h => ?_)
  refine g_iload_n (pc := 13) C dX11_tray_13 (q := 4) rfl ?_
  refine g_iconst (pc := 14) C dX11_tray_14 (v := 0) rfl ?_
  refine g_bipush (pc := 15) C dX11_tray_15 (v := 30) rfl ?_
  obtain ⟨hb8, h⟩ := h
  refine mxX11_95 (pc := 17) C hl htab hlk h (Nat.le_of_ble_eq_true rfl) (Nat.le_of_ble_eq_true rfl) hb8 dX11_tray_17 (fun w7 h => ?_)
  refine g_aload (pc := 20) C dX11_tray_20 (q := 0) rfl ?_
  refine g_iload_n (pc := 22) C dX11_tray_22 (q := 3) rfl ?_
  refine g_iload_n (pc := 23) C dX11_tray_23 (q := 4) rfl ?_
  obtain ⟨k9, h⟩ := h
  refine miX11_369 (pc := 24) C k9 h (Nat.le_of_ble_eq_true rfl) (Nat.le_of_ble_eq_true rfl) hb8 dX11_tray_24 (fun w10 h => ?_)
  refine gx_ret ?_; exact g_vret (pc := 27) C hlk hr hb8.1 hb8.2 dX11_tray_27 h
theorem miX11_205 (C : xC x p s m c cc nL args RX11) {a0 : Nat} {a1 : Int32} {K : Wd → Prop} {D MC MS : Nat} (hq : isK w a0 5) (h : w_X5_goBack a0 a1 K w) (hD : 2 + 1 ≤ D) (hW : (st.map fun v => v.category).sum ≤ 8) (hij : i ≤ MC ∧ j ≤ MS) (hd : decode cc pc = .ok (.invokevirtual 205, 3)) (k : ∀ (u : Wd), K u → GW x p l e (rmd D MC MS) s m args below meth c nL Q (pc + 3) lo st u i j) : GW x p l e (rmd D MC MS) s m args below meth c nL Q pc lo (.int a1 :: .ref (adr x a0) :: st) w i j := g_callVv0 C (As := [.int a1]) (ci := 5) (c_X5_goBack h) (x_cwV C 1 LMX11_205 ⟨rfl, by decide, by decide, rfl⟩ hD (by decide)) rfl hq (by decide) rfl rfl hW hd hij k
def w_X11_undo (mc ms : Nat) (a0 : Nat) (a1 : Int32) (K : Int32 → Wd → Prop) (X : String → Wd → Prop) (w : Wd) : Prop :=
  (1 ≤ mc ∧ 6 ≤ ms) ∧ w_X11_needWithin 1 6 a1 1 10 (fun w1 => isK w1 a0 11 ∧ isK w1 (wR w1 a0 0) 5 ∧ (2 ≤ mc ∧ 12 ≤ ms) ∧ w_X11_needWithin 1 6 a1 1 (wI w1 (wR w1 a0 0) 2) (fun w5 => isK w5 a0 11 ∧ isK w5 (wR w5 a0 0) 5 ∧ w_X5_goBack (wR w5 a0 0) a1 (fun w9 => isK w9 a0 11 ∧ isK w9 (wR w9 a0 0) 5 ∧ K (wI w9 (wR w9 a0 0) 2) w9) w5) X w1) X w
theorem c_X11_undo {x : xG} {l : Launch} (hl : l.stackTraces = false) {a0 : Nat} {a1 : Int32} {mc ms : Nat} {X : String → Wd → Prop} {K : Int32 → Wd → Prop} {w : Wd} (h : w_X11_undo mc ms a0 a1 K X w) : vx_Met l yX11_undo (xws yX11_undo cX11_undo 2 (some .int)) (rmd 7 mc ms) (xPc x [.ref (adr x a0), .int a1] w) (QcI x K) (XCx x X) mc ms (xA x) := by
  refine xMetX (by decide) (Nat.le_of_ble_eq_true rfl) (fun p e s m below meth c C hlk hr htab => ?_)
  show GW x p l e (rmd 7 mc ms) s m [.ref (adr x a0), .int a1].toArray below meth c 2 (vx_MQ below (QcI x K) (XCx x X) [.ref (adr x a0), .int a1].toArray s mc ms (xA x)) 0 [(0, .ref (adr x a0)), (1, .int a1)] [] w 0 0
  refine g_iload_n (pc := 0) C dX11_undo_0 (q := 1) rfl ?_
  refine g_iconst (pc := 1) C dX11_undo_1 (v := 1) rfl ?_
  refine g_bipush (pc := 2) C dX11_undo_2 (v := 10) rfl ?_
  obtain ⟨hb2, h⟩ := h
  refine mxX11_95 (pc := 4) C hl htab hlk h (Nat.le_of_ble_eq_true rfl) (Nat.le_of_ble_eq_true rfl) hb2 dX11_undo_4 (fun w1 h => ?_)
  refine g_iload_n (pc := 7) C dX11_undo_7 (q := 1) rfl ?_
  refine g_iconst (pc := 8) C dX11_undo_8 (v := 1) rfl ?_
  refine g_aload_n (pc := 9) C dX11_undo_9 (q := 0) rfl ?_
  obtain ⟨k3, h⟩ := h
  obtain ⟨k4, h⟩ := h
  refine gfX11_49 (pc := 10) C k3 (isK_ne k4) dX11_undo_10 ?_
  refine gfX11_202 (pc := 13) C k4 dX11_undo_13 ?_
  obtain ⟨hb6, h⟩ := h
  refine mxX11_95 (pc := 16) C hl htab hlk h (Nat.le_of_ble_eq_true rfl) (Nat.le_of_ble_eq_true rfl) hb6 dX11_undo_16 (fun w5 h => ?_)
  refine g_aload_n (pc := 19) C dX11_undo_19 (q := 0) rfl ?_
  obtain ⟨k7, h⟩ := h
  obtain ⟨k8, h⟩ := h
  refine gfX11_49 (pc := 20) C k7 (isK_ne k8) dX11_undo_20 ?_
  refine g_iload_n (pc := 23) C dX11_undo_23 (q := 1) rfl ?_
  refine miX11_205 (pc := 24) C k8 h (Nat.le_of_ble_eq_true rfl) (Nat.le_of_ble_eq_true rfl) hb6 dX11_undo_24 (fun w9 h => ?_)
  refine g_aload_n (pc := 27) C dX11_undo_27 (q := 0) rfl ?_
  obtain ⟨k10, h⟩ := h
  obtain ⟨k11, h⟩ := h
  refine gfX11_49 (pc := 28) C k10 (isK_ne k11) dX11_undo_28 ?_
  refine gfX11_202 (pc := 31) C k11 dX11_undo_31 ?_
  refine gx_ret ?_; exact g_iret (pc := 34) C hlk hr hb6.1 hb6.2 dX11_undo_34 h
def w_X11_wakers (mc ms : Nat) (a0 : Nat) (a1 : Int32) (a2 : Int32) (K : Int32 → Wd → Prop) (X : String → Wd → Prop) (w : Wd) : Prop :=
  isK w a0 11 ∧ (1 ≤ mc ∧ 6 ≤ ms) ∧ w_X11_needWell 1 6 a0 a1 (fun w2 => (2 ≤ mc ∧ 12 ≤ ms) ∧ w_X11_needNoise 1 6 a2 (fun w4 => isK w4 a0 11 ∧ isK w4 (wR w4 a0 5) 4 ∧ isK w4 (wR w4 a0 0) 5 ∧ isK w4 (wR w4 (wR w4 a0 0) 0) 2 ∧ w_X4_over (wR w4 a0 5) (wR w4 (wR w4 a0 0) 0) (fun w10 => isK w10 a0 11 ∧ isK w10 (wR w10 a0 5) 4 ∧ w_X4_awakeOnesThatWake (wR w10 a0 5) a1 a2 (fun r13 w14 => K r13 w14) w10) w4) X w2) X w
theorem c_X11_wakers {x : xG} {l : Launch} (hl : l.stackTraces = false) {a0 : Nat} {a1 : Int32} {a2 : Int32} {mc ms : Nat} {X : String → Wd → Prop} {K : Int32 → Wd → Prop} {w : Wd} (h : w_X11_wakers mc ms a0 a1 a2 K X w) : vx_Met l yX11_wakers (xws yX11_wakers cX11_wakers 3 (some .int)) (rmd 8 mc ms) (xPc x [.ref (adr x a0), .int a1, .int a2] w) (QcI x K) (XCx x X) mc ms (xA x) := by
  refine xMetX (by decide) (Nat.le_of_ble_eq_true rfl) (fun p e s m below meth c C hlk hr htab => ?_)
  show GW x p l e (rmd 8 mc ms) s m [.ref (adr x a0), .int a1, .int a2].toArray below meth c 3 (vx_MQ below (QcI x K) (XCx x X) [.ref (adr x a0), .int a1, .int a2].toArray s mc ms (xA x)) 0 [(0, .ref (adr x a0)), (1, .int a1), (2, .int a2)] [] w 0 0
  refine g_aload_n (pc := 0) C dX11_wakers_0 (q := 0) rfl ?_
  refine g_iload_n (pc := 1) C dX11_wakers_1 (q := 1) rfl ?_
  obtain ⟨k1, h⟩ := h
  obtain ⟨hb3, h⟩ := h
  refine mxX11_119 (pc := 2) C hl htab hlk k1 h (Nat.le_of_ble_eq_true rfl) (Nat.le_of_ble_eq_true rfl) hb3 dX11_wakers_2 (fun w2 h => ?_)
  refine g_iload_n (pc := 5) C dX11_wakers_5 (q := 2) rfl ?_
  obtain ⟨hb5, h⟩ := h
  refine mxX11_274 (pc := 6) C hl htab hlk h (Nat.le_of_ble_eq_true rfl) (Nat.le_of_ble_eq_true rfl) hb5 dX11_wakers_6 (fun w4 h => ?_)
  refine g_aload_n (pc := 9) C dX11_wakers_9 (q := 0) rfl ?_
  obtain ⟨k6, h⟩ := h
  obtain ⟨k7, h⟩ := h
  refine gfX11_65 (pc := 10) C k6 (isK_ne k7) dX11_wakers_10 ?_
  refine g_aload_n (pc := 13) C dX11_wakers_13 (q := 0) rfl ?_
  obtain ⟨k8, h⟩ := h
  refine gfX11_49 (pc := 14) C k6 (isK_ne k8) dX11_wakers_14 ?_
  obtain ⟨k9, h⟩ := h
  refine gfX11_122 (pc := 17) C k8 (isK_ne k9) dX11_wakers_17 ?_
  refine miX11_277 (pc := 20) C k7 h (Nat.le_of_ble_eq_true rfl) (Nat.le_of_ble_eq_true rfl) hb5 dX11_wakers_20 (fun w10 h => ?_)
  refine g_aload_n (pc := 23) C dX11_wakers_23 (q := 0) rfl ?_
  obtain ⟨k11, h⟩ := h
  obtain ⟨k12, h⟩ := h
  refine gfX11_65 (pc := 24) C k11 (isK_ne k12) dX11_wakers_24 ?_
  refine g_iload_n (pc := 27) C dX11_wakers_27 (q := 1) rfl ?_
  refine g_iload_n (pc := 28) C dX11_wakers_28 (q := 2) rfl ?_
  refine miX11_297 (pc := 29) C k12 h (Nat.le_of_ble_eq_true rfl) (Nat.le_of_ble_eq_true rfl) hb5 dX11_wakers_29 (fun r13 w14 h => ?_)
  refine gx_ret ?_; exact g_iret (pc := 32) C hlk hr hb5.1 hb5.2 dX11_wakers_32 h
def w_X11_wakes (mc ms : Nat) (a0 : Nat) (a1 : Int32) (a2 : Int32) (a3 : Int32) (K : Int32 → Wd → Prop) (X : String → Wd → Prop) (w : Wd) : Prop :=
  isK w a0 11 ∧ (1 ≤ mc ∧ 6 ≤ ms) ∧ w_X11_needWell 1 6 a0 a1 (fun w2 => isK w2 a0 11 ∧ (2 ≤ mc ∧ 12 ≤ ms) ∧ w_X11_needWell 1 6 a0 a2 (fun w5 => (3 ≤ mc ∧ 18 ≤ ms) ∧ w_X11_needUnlike 1 6 a1 a2 (fun w7 => (4 ≤ mc ∧ 24 ≤ ms) ∧ w_X11_needNoise 1 6 a3 (fun w9 => isK w9 a0 11 ∧ isK w9 (wR w9 a0 5) 4 ∧ isK w9 (wR w9 a0 0) 5 ∧ isK w9 (wR w9 (wR w9 a0 0) 0) 2 ∧ w_X4_lookAt (wR w9 a0 5) (wR w9 (wR w9 a0 0) 0) (fun w15 => isK w15 a0 11 ∧ isK w15 (wR w15 a0 5) 4 ∧ w_X4_wokenAtOnce (wR w15 a0 5) a1 a3 (fun r18 w19 => w_X11_has r18 a2 (fun r20 w21 => (r20 = 0 ∨ r20 = 1) ∧ K r20 w21) w19) w15) w9) X w7) X w5) X w2) X w
theorem c_X11_wakes {x : xG} {l : Launch} (hl : l.stackTraces = false) {a0 : Nat} {a1 : Int32} {a2 : Int32} {a3 : Int32} {mc ms : Nat} {X : String → Wd → Prop} {K : Int32 → Wd → Prop} {w : Wd} (h : w_X11_wakes mc ms a0 a1 a2 a3 K X w) : vx_Met l yX11_wakes (xws yX11_wakes cX11_wakes 4 (some .boolean)) (rmd 8 mc ms) (xPc x [.ref (adr x a0), .int a1, .int a2, .int a3] w) (QcI x K) (XCx x X) mc ms (xA x) := by
  refine xMetX (by decide) (Nat.le_of_ble_eq_true rfl) (fun p e s m below meth c C hlk hr htab => ?_)
  show GW x p l e (rmd 8 mc ms) s m [.ref (adr x a0), .int a1, .int a2, .int a3].toArray below meth c 4 (vx_MQ below (QcI x K) (XCx x X) [.ref (adr x a0), .int a1, .int a2, .int a3].toArray s mc ms (xA x)) 0 [(0, .ref (adr x a0)), (1, .int a1), (2, .int a2), (3, .int a3)] [] w 0 0
  refine g_aload_n (pc := 0) C dX11_wakes_0 (q := 0) rfl ?_
  refine g_iload_n (pc := 1) C dX11_wakes_1 (q := 1) rfl ?_
  obtain ⟨k1, h⟩ := h
  obtain ⟨hb3, h⟩ := h
  refine mxX11_119 (pc := 2) C hl htab hlk k1 h (Nat.le_of_ble_eq_true rfl) (Nat.le_of_ble_eq_true rfl) hb3 dX11_wakes_2 (fun w2 h => ?_)
  refine g_aload_n (pc := 5) C dX11_wakes_5 (q := 0) rfl ?_
  refine g_iload_n (pc := 6) C dX11_wakes_6 (q := 2) rfl ?_
  obtain ⟨k4, h⟩ := h
  obtain ⟨hb6, h⟩ := h
  refine mxX11_119 (pc := 7) C hl htab hlk k4 h (Nat.le_of_ble_eq_true rfl) (Nat.le_of_ble_eq_true rfl) hb6 dX11_wakes_7 (fun w5 h => ?_)
  refine g_iload_n (pc := 10) C dX11_wakes_10 (q := 1) rfl ?_
  refine g_iload_n (pc := 11) C dX11_wakes_11 (q := 2) rfl ?_
  obtain ⟨hb8, h⟩ := h
  refine mxX11_283 (pc := 12) C hl htab hlk h (Nat.le_of_ble_eq_true rfl) (Nat.le_of_ble_eq_true rfl) hb8 dX11_wakes_12 (fun w7 h => ?_)
  refine g_iload_n (pc := 15) C dX11_wakes_15 (q := 3) rfl ?_
  obtain ⟨hb10, h⟩ := h
  refine mxX11_274 (pc := 16) C hl htab hlk h (Nat.le_of_ble_eq_true rfl) (Nat.le_of_ble_eq_true rfl) hb10 dX11_wakes_16 (fun w9 h => ?_)
  refine g_aload_n (pc := 19) C dX11_wakes_19 (q := 0) rfl ?_
  obtain ⟨k11, h⟩ := h
  obtain ⟨k12, h⟩ := h
  refine gfX11_65 (pc := 20) C k11 (isK_ne k12) dX11_wakes_20 ?_
  refine g_aload_n (pc := 23) C dX11_wakes_23 (q := 0) rfl ?_
  obtain ⟨k13, h⟩ := h
  refine gfX11_49 (pc := 24) C k11 (isK_ne k13) dX11_wakes_24 ?_
  obtain ⟨k14, h⟩ := h
  refine gfX11_122 (pc := 27) C k13 (isK_ne k14) dX11_wakes_27 ?_
  refine miX11_287 (pc := 30) C k12 h (Nat.le_of_ble_eq_true rfl) (Nat.le_of_ble_eq_true rfl) hb10 dX11_wakes_30 (fun w15 h => ?_)
  refine g_aload_n (pc := 33) C dX11_wakes_33 (q := 0) rfl ?_
  obtain ⟨k16, h⟩ := h
  obtain ⟨k17, h⟩ := h
  refine gfX11_65 (pc := 34) C k16 (isK_ne k17) dX11_wakes_34 ?_
  refine g_iload_n (pc := 37) C dX11_wakes_37 (q := 1) rfl ?_
  refine g_iload_n (pc := 38) C dX11_wakes_38 (q := 3) rfl ?_
  refine miX11_290 (pc := 39) C k17 h (Nat.le_of_ble_eq_true rfl) (Nat.le_of_ble_eq_true rfl) hb10 dX11_wakes_39 (fun r18 w19 h => ?_)
  refine g_iload_n (pc := 42) C dX11_wakes_42 (q := 2) rfl ?_
  refine miX11_293 (pc := 43) C h (Nat.le_of_ble_eq_true rfl) (Nat.le_of_ble_eq_true rfl) hb10 dX11_wakes_43 (fun r20 w21 h => ?_)
  refine gx_ret ?_; exact g_zret (pc := 46) C hlk hr hb10.1 hb10.2 dX11_wakes_46 h.1 h.2
def w_X11_wakesIn (mc ms : Nat) (a0 : Nat) (a1 : Int32) (K : Int32 → Wd → Prop) (X : String → Wd → Prop) (w : Wd) : Prop :=
  isK w a0 11 ∧ (1 ≤ mc ∧ 6 ≤ ms) ∧ w_X11_needWell 1 6 a0 a1 (fun w2 => isK w2 a0 11 ∧ isK w2 (wR w2 a0 0) 5 ∧ isK w2 (wR w2 (wR w2 a0 0) 0) 2 ∧ w_X2_isAwake (wR w2 (wR w2 a0 0) 0) a1 (fun r7 w8 => ((r7 = 0 → isK w8 (wR w2 (wR w2 a0 0) 0) 2 ∧ isK w8 (wR w8 (wR w2 (wR w2 a0 0) 0) 0) 1 ∧ w_X1_roundOf (wR w8 (wR w2 (wR w2 a0 0) 0) 0) a1 (fun r12 w13 => isK w13 (wR w2 (wR w2 a0 0) 0) 2 ∧ w_X2_phaseOf (wR w2 (wR w2 a0 0) 0) a1 (fun r15 w16 => K (r12 - r15) w16) w13) w8) ∧ (¬ r7 = 0 → K 0 w8))) w2) X w
theorem c_X11_wakesIn {x : xG} {l : Launch} (hl : l.stackTraces = false) {a0 : Nat} {a1 : Int32} {mc ms : Nat} {X : String → Wd → Prop} {K : Int32 → Wd → Prop} {w : Wd} (h : w_X11_wakesIn mc ms a0 a1 K X w) : vx_Met l yX11_wakesIn (xws yX11_wakesIn cX11_wakesIn 3 (some .int)) (rmd 7 mc ms) (xPc x [.ref (adr x a0), .int a1] w) (QcI x K) (XCx x X) mc ms (xA x) := by
  refine xMetX (by decide) (Nat.le_of_ble_eq_true rfl) (fun p e s m below meth c C hlk hr htab => ?_)
  show GW x p l e (rmd 7 mc ms) s m [.ref (adr x a0), .int a1].toArray below meth c 3 (vx_MQ below (QcI x K) (XCx x X) [.ref (adr x a0), .int a1].toArray s mc ms (xA x)) 0 [(0, .ref (adr x a0)), (1, .int a1)] [] w 0 0
  refine g_aload_n (pc := 0) C dX11_wakesIn_0 (q := 0) rfl ?_
  refine g_iload_n (pc := 1) C dX11_wakesIn_1 (q := 1) rfl ?_
  obtain ⟨k1, h⟩ := h
  obtain ⟨hb3, h⟩ := h
  refine mxX11_119 (pc := 2) C hl htab hlk k1 h (Nat.le_of_ble_eq_true rfl) (Nat.le_of_ble_eq_true rfl) hb3 dX11_wakesIn_2 (fun w2 h => ?_)
  refine g_aload_n (pc := 5) C dX11_wakesIn_5 (q := 0) rfl ?_
  obtain ⟨k4, h⟩ := h
  obtain ⟨k5, h⟩ := h
  refine gfX11_49 (pc := 6) C k4 (isK_ne k5) dX11_wakesIn_6 ?_
  obtain ⟨k6, h⟩ := h
  refine gfX11_122 (pc := 9) C k5 (isK_ne k6) dX11_wakesIn_9 ?_
  refine g_astore_n (pc := 12) C dX11_wakesIn_12 (Nat.le_of_ble_eq_true rfl) (lo' := [(2, .ref (adr x (wR w2 (wR w2 a0 0) 0))), (0, .ref (adr x a0)), (1, .int a1)]) rfl ?_
  refine g_aload_n (pc := 13) C dX11_wakesIn_13 (q := 0) rfl ?_
  refine g_iload_n (pc := 14) C dX11_wakesIn_14 (q := 2) rfl ?_
  refine miX11_147 (pc := 15) C k6 h (Nat.le_of_ble_eq_true rfl) (Nat.le_of_ble_eq_true rfl) hb3 dX11_wakesIn_15 (fun r7 w8 h => ?_)
  refine g_if_eq (pc := 18) C dX11_wakesIn_18 (tgt := 25) rfl (fun z9 => ?_) (fun z9 => ?_)
  · replace h := h.1 z9
    refine g_aload_n (pc := 25) C dX11_wakesIn_25 (q := 0) rfl ?_
    obtain ⟨k10, h⟩ := h
    obtain ⟨k11, h⟩ := h
    refine gfX11_125 (pc := 26) C k10 (isK_ne k11) dX11_wakesIn_26 ?_
    refine g_iload_n (pc := 29) C dX11_wakesIn_29 (q := 2) rfl ?_
    refine miX11_128 (pc := 30) C k11 h (Nat.le_of_ble_eq_true rfl) (Nat.le_of_ble_eq_true rfl) hb3 dX11_wakesIn_30 (fun r12 w13 h => ?_)
    refine g_aload_n (pc := 33) C dX11_wakesIn_33 (q := 0) rfl ?_
    refine g_iload_n (pc := 34) C dX11_wakesIn_34 (q := 2) rfl ?_
    obtain ⟨k14, h⟩ := h
    refine miX11_144 (pc := 35) C k14 h (Nat.le_of_ble_eq_true rfl) (Nat.le_of_ble_eq_true rfl) hb3 dX11_wakesIn_35 (fun r15 w16 h => ?_)
    refine g_isub (pc := 38) C dX11_wakesIn_38 ?_
    refine gx_ret ?_; exact g_iret (pc := 39) C hlk hr hb3.1 hb3.2 dX11_wakesIn_39 h
  · replace h := h.2 z9
    refine g_iconst (pc := 21) C dX11_wakesIn_21 (v := 0) rfl ?_
    refine g_goto (pc := 22) C dX11_wakesIn_22 (tgt := 39) rfl ?_
    refine gx_ret ?_; exact g_iret (pc := 39) C hlk hr hb3.1 hb3.2 dX11_wakesIn_39 h
def w_X11_waterIn (mc ms : Nat) (a0 : Nat) (a1 : Int32) (a2 : Int32) (K : Int32 → Wd → Prop) (X : String → Wd → Prop) (w : Wd) : Prop :=
  isK w a0 11 ∧ (1 ≤ mc ∧ 6 ≤ ms) ∧ w_X11_needWell 1 6 a0 a1 (fun w2 => (2 ≤ mc ∧ 12 ≤ ms) ∧ w_X11_needWithin 1 6 a2 0 200 (fun w4 => isK w4 a0 11 ∧ w_X11_lookAhead a0 a2 (fun w7 => isK w7 a0 11 ∧ isK w7 (wR w7 a0 3) 2 ∧ w_X2_waterOf (wR w7 a0 3) a1 (fun r10 w11 => K r10 w11) w7) w4) X w2) X w
theorem c_X11_waterIn {x : xG} {l : Launch} (hl : l.stackTraces = false) {a0 : Nat} {a1 : Int32} {a2 : Int32} {mc ms : Nat} {X : String → Wd → Prop} {K : Int32 → Wd → Prop} {w : Wd} (h : w_X11_waterIn mc ms a0 a1 a2 K X w) : vx_Met l yX11_waterIn (xws yX11_waterIn cX11_waterIn 3 (some .int)) (rmd 7 mc ms) (xPc x [.ref (adr x a0), .int a1, .int a2] w) (QcI x K) (XCx x X) mc ms (xA x) := by
  refine xMetX (by decide) (Nat.le_of_ble_eq_true rfl) (fun p e s m below meth c C hlk hr htab => ?_)
  show GW x p l e (rmd 7 mc ms) s m [.ref (adr x a0), .int a1, .int a2].toArray below meth c 3 (vx_MQ below (QcI x K) (XCx x X) [.ref (adr x a0), .int a1, .int a2].toArray s mc ms (xA x)) 0 [(0, .ref (adr x a0)), (1, .int a1), (2, .int a2)] [] w 0 0
  refine g_aload_n (pc := 0) C dX11_waterIn_0 (q := 0) rfl ?_
  refine g_iload_n (pc := 1) C dX11_waterIn_1 (q := 1) rfl ?_
  obtain ⟨k1, h⟩ := h
  obtain ⟨hb3, h⟩ := h
  refine mxX11_119 (pc := 2) C hl htab hlk k1 h (Nat.le_of_ble_eq_true rfl) (Nat.le_of_ble_eq_true rfl) hb3 dX11_waterIn_2 (fun w2 h => ?_)
  refine g_iload_n (pc := 5) C dX11_waterIn_5 (q := 2) rfl ?_
  refine g_iconst (pc := 6) C dX11_waterIn_6 (v := 0) rfl ?_
  refine g_sipush (pc := 7) C dX11_waterIn_7 (v := 200) rfl ?_
  obtain ⟨hb5, h⟩ := h
  refine mxX11_95 (pc := 10) C hl htab hlk h (Nat.le_of_ble_eq_true rfl) (Nat.le_of_ble_eq_true rfl) hb5 dX11_waterIn_10 (fun w4 h => ?_)
  refine g_aload_n (pc := 13) C dX11_waterIn_13 (q := 0) rfl ?_
  refine g_iload_n (pc := 14) C dX11_waterIn_14 (q := 2) rfl ?_
  obtain ⟨k6, h⟩ := h
  refine miX11_322 (pc := 15) C k6 h (Nat.le_of_ble_eq_true rfl) (Nat.le_of_ble_eq_true rfl) hb5 dX11_waterIn_15 (fun w7 h => ?_)
  refine g_aload_n (pc := 18) C dX11_waterIn_18 (q := 0) rfl ?_
  obtain ⟨k8, h⟩ := h
  obtain ⟨k9, h⟩ := h
  refine gfX11_54 (pc := 19) C k8 (isK_ne k9) dX11_waterIn_19 ?_
  refine g_iload_n (pc := 22) C dX11_waterIn_22 (q := 1) rfl ?_
  refine miX11_141 (pc := 23) C k9 h (Nat.le_of_ble_eq_true rfl) (Nat.le_of_ble_eq_true rfl) hb5 dX11_waterIn_23 (fun r10 w11 h => ?_)
  refine gx_ret ?_; exact g_iret (pc := 26) C hlk hr hb5.1 hb5.2 dX11_waterIn_26 h
theorem miX11_138 (C : xC x p s m c cc nL args RX11) {a0 : Nat} {a1 : Int32} {K : Int32 → Wd → Prop} {D MC MS : Nat} (hq : isK w a0 1) (h : w_X1_deepOf a0 a1 K w) (hD : 0 + 1 ≤ D) (hW : (st.map fun v => v.category).sum ≤ 8) (hij : i ≤ MC ∧ j ≤ MS) (hd : decode cc pc = .ok (.invokevirtual 138, 3)) (k : ∀ (r : Int32) (u : Wd), K r u → GW x p l e (rmd D MC MS) s m args below meth c nL Q (pc + 3) lo (.int r :: st) u i j) : GW x p l e (rmd D MC MS) s m args below meth c nL Q pc lo (.int a1 :: .ref (adr x a0) :: st) w i j := g_callVi0 C (As := [.int a1]) (ci := 1) (c_X1_deepOf h) (x_cwV C 1 LMX11_138 ⟨rfl, by decide, by decide, rfl⟩ hD (by decide)) rfl hq (by decide) rfl rfl hW hd hij k
theorem miX11_150 (C : xC x p s m c cc nL args RX11) {a0 : Nat} {a1 : Int32} {K : Int32 → Wd → Prop} {D MC MS : Nat} (hq : isK w a0 2) (h : w_X2_isSour a0 a1 K w) (hD : 1 + 1 ≤ D) (hW : (st.map fun v => v.category).sum ≤ 8) (hij : i ≤ MC ∧ j ≤ MS) (hd : decode cc pc = .ok (.invokevirtual 150, 3)) (k : ∀ (r : Int32) (u : Wd), K r u → GW x p l e (rmd D MC MS) s m args below meth c nL Q (pc + 3) lo (.int r :: st) u i j) : GW x p l e (rmd D MC MS) s m args below meth c nL Q pc lo (.int a1 :: .ref (adr x a0) :: st) w i j := g_callVi0 C (As := [.int a1]) (ci := 2) (c_X2_isSour h) (x_cwV C 1 LMX11_150 ⟨rfl, by decide, by decide, rfl⟩ hD (by decide)) rfl hq (by decide) rfl rfl hW hd hij k
def w_X11_well (mc ms : Nat) (a0 : Nat) (a1 : Int32) (a2 : Int32) (K : Int32 → Wd → Prop) (X : String → Wd → Prop) (w : Wd) : Prop :=
  isK w a0 11 ∧ (1 ≤ mc ∧ 6 ≤ ms) ∧ w_X11_needWell 1 6 a0 a1 (fun w2 => (2 ≤ mc ∧ 12 ≤ ms) ∧ w_X11_needWithin 1 6 a2 0 8 (fun w4 => isK w4 a0 11 ∧ isK w4 (wR w4 a0 0) 5 ∧ isK w4 (wR w4 (wR w4 a0 0) 0) 2 ∧ isK w4 (wR w4 (wR w4 (wR w4 a0 0) 0) 0) 1 ∧ ((a2 = 0 → w_X1_roundOf (wR w4 (wR w4 (wR w4 a0 0) 0) 0) a1 (fun r18 w19 => K r18 w19) w4) ∧ (¬ a2 = 0 → ((a2 = 1 → w_X1_upOf (wR w4 (wR w4 (wR w4 a0 0) 0) 0) a1 (fun r20 w21 => K r20 w21) w4) ∧ (¬ a2 = 1 → ((a2 = 2 → w_X2_shiftOf (wR w4 (wR w4 a0 0) 0) a1 (fun r22 w23 => K r22 w23) w4) ∧ (¬ a2 = 2 → ((a2 = 3 → w_X1_deepOf (wR w4 (wR w4 (wR w4 a0 0) 0) 0) a1 (fun r24 w25 => K r24 w25) w4) ∧ (¬ a2 = 3 → ((a2 = 4 → w_X2_waterOf (wR w4 (wR w4 a0 0) 0) a1 (fun r26 w27 => K r26 w27) w4) ∧ (¬ a2 = 4 → ((a2 = 5 → w_X2_phaseOf (wR w4 (wR w4 a0 0) 0) a1 (fun r28 w29 => K r28 w29) w4) ∧ (¬ a2 = 5 → ((a2 = 6 → w_X2_isAwake (wR w4 (wR w4 a0 0) 0) a1 (fun r30 w31 => ((r30 = 0 → K 0 w31) ∧ (¬ r30 = 0 → K 1 w31))) w4) ∧ (¬ a2 = 6 → ((a2 = 7 → w_X2_isSour (wR w4 (wR w4 a0 0) 0) a1 (fun r33 w34 => ((r33 = 0 → K 0 w34) ∧ (¬ r33 = 0 → K 1 w34))) w4) ∧ (¬ a2 = 7 → w_X1_besideOf (wR w4 (wR w4 (wR w4 a0 0) 0) 0) a1 (fun r36 w37 => K r36 w37) w4))))))))))))))))) X w2) X w
theorem c_X11_well {x : xG} {l : Launch} (hl : l.stackTraces = false) {a0 : Nat} {a1 : Int32} {a2 : Int32} {mc ms : Nat} {X : String → Wd → Prop} {K : Int32 → Wd → Prop} {w : Wd} (h : w_X11_well mc ms a0 a1 a2 K X w) : vx_Met l yX11_well (xws yX11_well cX11_well 5 (some .int)) (rmd 7 mc ms) (xPc x [.ref (adr x a0), .int a1, .int a2] w) (QcI x K) (XCx x X) mc ms (xA x) := by
  refine xMetX (by decide) (Nat.le_of_ble_eq_true rfl) (fun p e s m below meth c C hlk hr htab => ?_)
  show GW x p l e (rmd 7 mc ms) s m [.ref (adr x a0), .int a1, .int a2].toArray below meth c 5 (vx_MQ below (QcI x K) (XCx x X) [.ref (adr x a0), .int a1, .int a2].toArray s mc ms (xA x)) 0 [(0, .ref (adr x a0)), (1, .int a1), (2, .int a2)] [] w 0 0
  refine g_aload_n (pc := 0) C dX11_well_0 (q := 0) rfl ?_
  refine g_iload_n (pc := 1) C dX11_well_1 (q := 1) rfl ?_
  obtain ⟨k1, h⟩ := h
  obtain ⟨hb3, h⟩ := h
  refine mxX11_119 (pc := 2) C hl htab hlk k1 h (Nat.le_of_ble_eq_true rfl) (Nat.le_of_ble_eq_true rfl) hb3 dX11_well_2 (fun w2 h => ?_)
  refine g_iload_n (pc := 5) C dX11_well_5 (q := 2) rfl ?_
  refine g_iconst (pc := 6) C dX11_well_6 (v := 0) rfl ?_
  refine g_bipush (pc := 7) C dX11_well_7 (v := 8) rfl ?_
  obtain ⟨hb5, h⟩ := h
  refine mxX11_95 (pc := 9) C hl htab hlk h (Nat.le_of_ble_eq_true rfl) (Nat.le_of_ble_eq_true rfl) hb5 dX11_well_9 (fun w4 h => ?_)
  refine g_aload_n (pc := 12) C dX11_well_12 (q := 0) rfl ?_
  obtain ⟨k6, h⟩ := h
  obtain ⟨k7, h⟩ := h
  refine gfX11_49 (pc := 13) C k6 (isK_ne k7) dX11_well_13 ?_
  obtain ⟨k8, h⟩ := h
  refine gfX11_122 (pc := 16) C k7 (isK_ne k8) dX11_well_16 ?_
  refine g_astore_n (pc := 19) C dX11_well_19 (Nat.le_of_ble_eq_true rfl) (lo' := [(3, .ref (adr x (wR w4 (wR w4 a0 0) 0))), (0, .ref (adr x a0)), (1, .int a1), (2, .int a2)]) rfl ?_
  refine g_aload_n (pc := 20) C dX11_well_20 (q := 0) rfl ?_
  obtain ⟨k9, h⟩ := h
  refine gfX11_125 (pc := 21) C k8 (isK_ne k9) dX11_well_21 ?_
  refine g_astore (pc := 24) C dX11_well_24 (Nat.le_of_ble_eq_true rfl) (lo' := [(4, .ref (adr x (wR w4 (wR w4 (wR w4 a0 0) 0) 0))), (3, .ref (adr x (wR w4 (wR w4 a0 0) 0))), (0, .ref (adr x a0)), (1, .int a1), (2, .int a2)]) rfl ?_
  refine g_iload_n (pc := 26) C dX11_well_26 (q := 4) rfl ?_
  by_cases z10 : a2 = 0
  · replace h := h.1 z10
    refine g_tabIn (pc := 27) C dX11_well_27 (by rw [z10]; decide) (by rw [z10]; decide) (off := 45) (by rw [z10]; rfl) (tgt := 72) rfl ?_
    refine g_aload (pc := 72) C dX11_well_72 (q := 0) rfl ?_
    refine g_iload_n (pc := 74) C dX11_well_74 (q := 3) rfl ?_
    refine miX11_128 (pc := 75) C k9 h (Nat.le_of_ble_eq_true rfl) (Nat.le_of_ble_eq_true rfl) hb5 dX11_well_75 (fun r18 w19 h => ?_)
    refine gx_ret ?_; exact g_iret (pc := 78) C hlk hr hb5.1 hb5.2 dX11_well_78 h
  replace h := h.2 z10
  by_cases z11 : a2 = 1
  · replace h := h.1 z11
    refine g_tabIn (pc := 27) C dX11_well_27 (by rw [z11]; decide) (by rw [z11]; decide) (off := 52) (by rw [z11]; rfl) (tgt := 79) rfl ?_
    refine g_aload (pc := 79) C dX11_well_79 (q := 0) rfl ?_
    refine g_iload_n (pc := 81) C dX11_well_81 (q := 3) rfl ?_
    refine miX11_132 (pc := 82) C k9 h (Nat.le_of_ble_eq_true rfl) (Nat.le_of_ble_eq_true rfl) hb5 dX11_well_82 (fun r20 w21 h => ?_)
    refine gx_ret ?_; exact g_iret (pc := 85) C hlk hr hb5.1 hb5.2 dX11_well_85 h
  replace h := h.2 z11
  by_cases z12 : a2 = 2
  · replace h := h.1 z12
    refine g_tabIn (pc := 27) C dX11_well_27 (by rw [z12]; decide) (by rw [z12]; decide) (off := 59) (by rw [z12]; rfl) (tgt := 86) rfl ?_
    refine g_aload_n (pc := 86) C dX11_well_86 (q := 1) rfl ?_
    refine g_iload_n (pc := 87) C dX11_well_87 (q := 3) rfl ?_
    refine miX11_135 (pc := 88) C k8 h (Nat.le_of_ble_eq_true rfl) (Nat.le_of_ble_eq_true rfl) hb5 dX11_well_88 (fun r22 w23 h => ?_)
    refine gx_ret ?_; exact g_iret (pc := 91) C hlk hr hb5.1 hb5.2 dX11_well_91 h
  replace h := h.2 z12
  by_cases z13 : a2 = 3
  · replace h := h.1 z13
    refine g_tabIn (pc := 27) C dX11_well_27 (by rw [z13]; decide) (by rw [z13]; decide) (off := 65) (by rw [z13]; rfl) (tgt := 92) rfl ?_
    refine g_aload (pc := 92) C dX11_well_92 (q := 0) rfl ?_
    refine g_iload_n (pc := 94) C dX11_well_94 (q := 3) rfl ?_
    refine miX11_138 (pc := 95) C k9 h (Nat.le_of_ble_eq_true rfl) (Nat.le_of_ble_eq_true rfl) hb5 dX11_well_95 (fun r24 w25 h => ?_)
    refine gx_ret ?_; exact g_iret (pc := 98) C hlk hr hb5.1 hb5.2 dX11_well_98 h
  replace h := h.2 z13
  by_cases z14 : a2 = 4
  · replace h := h.1 z14
    refine g_tabIn (pc := 27) C dX11_well_27 (by rw [z14]; decide) (by rw [z14]; decide) (off := 72) (by rw [z14]; rfl) (tgt := 99) rfl ?_
    refine g_aload_n (pc := 99) C dX11_well_99 (q := 1) rfl ?_
    refine g_iload_n (pc := 100) C dX11_well_100 (q := 3) rfl ?_
    refine miX11_141 (pc := 101) C k8 h (Nat.le_of_ble_eq_true rfl) (Nat.le_of_ble_eq_true rfl) hb5 dX11_well_101 (fun r26 w27 h => ?_)
    refine gx_ret ?_; exact g_iret (pc := 104) C hlk hr hb5.1 hb5.2 dX11_well_104 h
  replace h := h.2 z14
  by_cases z15 : a2 = 5
  · replace h := h.1 z15
    refine g_tabIn (pc := 27) C dX11_well_27 (by rw [z15]; decide) (by rw [z15]; decide) (off := 78) (by rw [z15]; rfl) (tgt := 105) rfl ?_
    refine g_aload_n (pc := 105) C dX11_well_105 (q := 1) rfl ?_
    refine g_iload_n (pc := 106) C dX11_well_106 (q := 3) rfl ?_
    refine miX11_144 (pc := 107) C k8 h (Nat.le_of_ble_eq_true rfl) (Nat.le_of_ble_eq_true rfl) hb5 dX11_well_107 (fun r28 w29 h => ?_)
    refine gx_ret ?_; exact g_iret (pc := 110) C hlk hr hb5.1 hb5.2 dX11_well_110 h
  replace h := h.2 z15
  by_cases z16 : a2 = 6
  · replace h := h.1 z16
    refine g_tabIn (pc := 27) C dX11_well_27 (by rw [z16]; decide) (by rw [z16]; decide) (off := 84) (by rw [z16]; rfl) (tgt := 111) rfl ?_
    refine g_aload_n (pc := 111) C dX11_well_111 (q := 1) rfl ?_
    refine g_iload_n (pc := 112) C dX11_well_112 (q := 3) rfl ?_
    refine miX11_147 (pc := 113) C k8 h (Nat.le_of_ble_eq_true rfl) (Nat.le_of_ble_eq_true rfl) hb5 dX11_well_113 (fun r30 w31 h => ?_)
    refine g_if_eq (pc := 116) C dX11_well_116 (tgt := 123) rfl (fun z32 => ?_) (fun z32 => ?_)
    · replace h := h.1 z32
      refine g_iconst (pc := 123) C dX11_well_123 (v := 0) rfl ?_
      refine gx_ret ?_; exact g_iret (pc := 124) C hlk hr hb5.1 hb5.2 dX11_well_124 h
    · replace h := h.2 z32
      refine g_iconst (pc := 119) C dX11_well_119 (v := 1) rfl ?_
      refine g_goto (pc := 120) C dX11_well_120 (tgt := 124) rfl ?_
      refine gx_ret ?_; exact g_iret (pc := 124) C hlk hr hb5.1 hb5.2 dX11_well_124 h
  replace h := h.2 z16
  by_cases z17 : a2 = 7
  · replace h := h.1 z17
    refine g_tabIn (pc := 27) C dX11_well_27 (by rw [z17]; decide) (by rw [z17]; decide) (off := 98) (by rw [z17]; rfl) (tgt := 125) rfl ?_
    refine g_aload_n (pc := 125) C dX11_well_125 (q := 1) rfl ?_
    refine g_iload_n (pc := 126) C dX11_well_126 (q := 3) rfl ?_
    refine miX11_150 (pc := 127) C k8 h (Nat.le_of_ble_eq_true rfl) (Nat.le_of_ble_eq_true rfl) hb5 dX11_well_127 (fun r33 w34 h => ?_)
    refine g_if_eq (pc := 130) C dX11_well_130 (tgt := 137) rfl (fun z35 => ?_) (fun z35 => ?_)
    · replace h := h.1 z35
      refine g_iconst (pc := 137) C dX11_well_137 (v := 0) rfl ?_
      refine gx_ret ?_; exact g_iret (pc := 138) C hlk hr hb5.1 hb5.2 dX11_well_138 h
    · replace h := h.2 z35
      refine g_iconst (pc := 133) C dX11_well_133 (v := 1) rfl ?_
      refine g_goto (pc := 134) C dX11_well_134 (tgt := 138) rfl ?_
      refine gx_ret ?_; exact g_iret (pc := 138) C hlk hr hb5.1 hb5.2 dX11_well_138 h
  replace h := h.2 z17
  have y38 := ne_toInt (n := 0) z10 (by decide)
  have y39 := ne_toInt (n := 1) z11 (by decide)
  have y40 := ne_toInt (n := 2) z12 (by decide)
  have y41 := ne_toInt (n := 3) z13 (by decide)
  have y42 := ne_toInt (n := 4) z14 (by decide)
  have y43 := ne_toInt (n := 5) z15 (by decide)
  have y44 := ne_toInt (n := 6) z16 (by decide)
  have y45 := ne_toInt (n := 7) z17 (by decide)
  refine g_tabOut (pc := 27) C dX11_well_27 (by omega) (tgt := 139) rfl ?_
  refine g_aload (pc := 139) C dX11_well_139 (q := 0) rfl ?_
  refine g_iload_n (pc := 141) C dX11_well_141 (q := 3) rfl ?_
  refine miX11_153 (pc := 142) C k9 h (Nat.le_of_ble_eq_true rfl) (Nat.le_of_ble_eq_true rfl) hb5 dX11_well_142 (fun r36 w37 h => ?_)
  refine gx_ret ?_; exact g_iret (pc := 145) C hlk hr hb5.1 hb5.2 dX11_well_145 h
theorem miX11_362 (C : xC x p s m c cc nL args RX11) {a0 : Nat} {a1 : Int32} {a2 : Int32} {a3 : Int32} {K : Int32 → Wd → Prop} {D MC MS : Nat} (hq : isK w a0 9) (h : w_X9_fits a0 a1 a2 a3 K w) (hD : 1 + 1 ≤ D) (hW : (st.map fun v => v.category).sum ≤ 8) (hij : i ≤ MC ∧ j ≤ MS) (hd : decode cc pc = .ok (.invokevirtual 362, 3)) (k : ∀ (r : Int32) (u : Wd), K r u → GW x p l e (rmd D MC MS) s m args below meth c nL Q (pc + 3) lo (.int r :: st) u i j) : GW x p l e (rmd D MC MS) s m args below meth c nL Q pc lo (.int a3 :: .int a2 :: .int a1 :: .ref (adr x a0) :: st) w i j := g_callVi0 C (As := [.int a1, .int a2, .int a3]) (ci := 9) (c_X9_fits h) (x_cwV C 3 LMX11_362 ⟨rfl, by decide, by decide, rfl⟩ hD (by decide)) rfl hq (by decide) rfl rfl hW hd hij k
def l_X11_whose_25 (mc ms : Nat) (X : String → Wd → Prop)  (K : Int32 → Wd → Prop) : Nat → Nat → Nat → Int32 → Int32 → Nat → Nat → Wd → Prop
  | 0, _, _, _, _, _, _, _ => False
  | n + 1, a0, a2, a3, a4, i0, j0, w => isK w a2 2 ∧ isK w (wR w a2 0) 1 ∧ (((wI w (wR w a2 0) 1) ≤ a4 → K a3 w) ∧ (¬ (wI w (wR w a2 0) 1) ≤ a4 → isK w a0 11 ∧ isK w (wR w a0 9) 9 ∧ w_X1_roundOf (wR w a2 0) a4 (fun r16 w17 => isK w17 a2 2 ∧ isK w17 (wR w17 a2 0) 1 ∧ w_X1_upOf (wR w17 a2 0) a4 (fun r20 w21 => isK w21 a2 2 ∧ w_X2_phaseOf a2 a4 (fun r23 w24 => isK w24 (wR w a0 9) 9 ∧ w_X9_fits (wR w a0 9) r16 r20 r23 (fun r26 w27 => ((r26 = 0 → l_X11_whose_25 mc ms X K n a0 a2 a3 (a4 + 1) i0 j0 w27) ∧ (¬ r26 = 0 → l_X11_whose_25 mc ms X K n a0 a2 (a3 ||| (x_ishl 1 a4)) (a4 + 1) i0 j0 w27))) w24) w21) w17) w))
def w_X11_whose (mc ms : Nat) (a0 : Nat) (a1 : Int32) (K : Int32 → Wd → Prop) (X : String → Wd → Prop) (w : Wd) : Prop :=
  isK w a0 11 ∧ isK w (wR w a0 9) 9 ∧ (3 ≤ mc ∧ 18 ≤ ms) ∧ w_X11_heardTray 3 18 a0 a1 (fun r3 w4 => isK w4 (wR w a0 9) 9 ∧ w_X9_hear (wR w a0 9) r3 (fun w7 => isK w7 a0 11 ∧ isK w7 (wR w7 a0 0) 5 ∧ isK w7 (wR w7 (wR w7 a0 0) 0) 2 ∧ ∃ n29, l_X11_whose_25 mc ms X  K n29 a0 (wR w7 (wR w7 a0 0) 0) 0 0 3 18 w7) w4) X w
theorem t_X11_whose_25 (C : xC x p s m c cX11_whose 5 args RX11) (hlk : meth.locks = false) (hr : meth.sig.returnType = some .int) (hl : l.stackTraces = false) (htab : ∀ z ∈ c.exceptionTable.toList, False) {mc ms : Nat} {X : String → Wd → Prop} {K : Int32 → Wd → Prop}   : ∀ (n : Nat) (a0 : Nat) (a2 : Nat) (a3 : Int32) (a4 : Int32) (i0 j0 : Nat) (w : Wd), i0 ≤ mc ∧ j0 ≤ ms → l_X11_whose_25 mc ms X K n a0 a2 a3 a4 i0 j0 w → GW x p l e (rmd 9 mc ms) s m args below meth c 5 (vx_MQ below (QcI x K) (XCx x X) args s mc ms (xA x)) 25 [(0, .ref (adr x a0)), (2, .ref (adr x a2)), (3, .int a3), (4, .int a4)] [] w i0 j0 := by
  intro n
  induction n with
  | zero => intro _ _ _ _ _ _ _ _ h; exact False.elim h
  | succ n ih =>
    intro a0 a2 a3 a4 i0 j0 w hb h
    refine g_iload (pc := 25) C dX11_whose_25 (q := 3) rfl ?_
    refine g_aload_n (pc := 27) C dX11_whose_27 (q := 1) rfl ?_
    obtain ⟨k11, h⟩ := h
    obtain ⟨k12, h⟩ := h
    refine gfX11_125 (pc := 28) C k11 (isK_ne k12) dX11_whose_28 ?_
    refine gfX11_238 (pc := 31) C k12 dX11_whose_31 ?_
    refine g_icmp_ge (pc := 34) C dX11_whose_34 (tgt := 84) rfl (fun z13 => ?_) (fun z13 => ?_)
    · replace h := h.1 z13
      refine g_iload_n (pc := 84) C dX11_whose_84 (q := 2) rfl ?_
      refine gx_ret ?_; exact g_iret (pc := 85) C hlk hr hb.1 hb.2 dX11_whose_85 h
    · replace h := h.2 z13
      refine g_aload_n (pc := 37) C dX11_whose_37 (q := 0) rfl ?_
      obtain ⟨k14, h⟩ := h
      obtain ⟨k15, h⟩ := h
      refine gfX11_31 (pc := 38) C k14 (isK_ne k15) dX11_whose_38 ?_
      refine g_aload_n (pc := 41) C dX11_whose_41 (q := 1) rfl ?_
      refine gfX11_125 (pc := 42) C k11 (isK_ne k12) dX11_whose_42 ?_
      refine g_iload (pc := 45) C dX11_whose_45 (q := 3) rfl ?_
      refine miX11_128 (pc := 47) C k12 h (Nat.le_of_ble_eq_true rfl) (Nat.le_of_ble_eq_true rfl) hb dX11_whose_47 (fun r16 w17 h => ?_)
      refine g_aload_n (pc := 50) C dX11_whose_50 (q := 1) rfl ?_
      obtain ⟨k18, h⟩ := h
      obtain ⟨k19, h⟩ := h
      refine gfX11_125 (pc := 51) C k18 (isK_ne k19) dX11_whose_51 ?_
      refine g_iload (pc := 54) C dX11_whose_54 (q := 3) rfl ?_
      refine miX11_132 (pc := 56) C k19 h (Nat.le_of_ble_eq_true rfl) (Nat.le_of_ble_eq_true rfl) hb dX11_whose_56 (fun r20 w21 h => ?_)
      refine g_aload_n (pc := 59) C dX11_whose_59 (q := 1) rfl ?_
      refine g_iload (pc := 60) C dX11_whose_60 (q := 3) rfl ?_
      obtain ⟨k22, h⟩ := h
      refine miX11_144 (pc := 62) C k22 h (Nat.le_of_ble_eq_true rfl) (Nat.le_of_ble_eq_true rfl) hb dX11_whose_62 (fun r23 w24 h => ?_)
      obtain ⟨k25, h⟩ := h
      refine miX11_362 (pc := 65) C k25 h (Nat.le_of_ble_eq_true rfl) (Nat.le_of_ble_eq_true rfl) hb dX11_whose_65 (fun r26 w27 h => ?_)
      refine g_if_eq (pc := 68) C dX11_whose_68 (tgt := 78) rfl (fun z28 => ?_) (fun z28 => ?_)
      · replace h := h.1 z28
        refine g_iinc (pc := 78) C dX11_whose_78 (q := 3) rfl (v2 := a4 + 1) rfl (Nat.le_of_ble_eq_true rfl) (lo' := [(4, .int (a4 + 1)), (0, .ref (adr x a0)), (2, .ref (adr x a2)), (3, .int a3)]) rfl ?_
        refine g_goto (pc := 81) C dX11_whose_81 (tgt := 25) rfl ?_
        refine g_sub [1, 2, 3, 0] rfl ?_
        exact ih _ _ _ _ _ _ _ hb h
      · replace h := h.2 z28
        refine g_iload_n (pc := 71) C dX11_whose_71 (q := 2) rfl ?_
        refine g_iconst (pc := 72) C dX11_whose_72 (v := 1) rfl ?_
        refine g_iload (pc := 73) C dX11_whose_73 (q := 3) rfl ?_
        refine h_ishl (pc := 75) C dX11_whose_75 ?_
        refine g_ior (pc := 76) C dX11_whose_76 ?_
        refine g_istore_n (pc := 77) C dX11_whose_77 (Nat.le_of_ble_eq_true rfl) (lo' := [(3, .int (a3 ||| (x_ishl 1 a4))), (0, .ref (adr x a0)), (2, .ref (adr x a2)), (4, .int a4)]) rfl ?_
        refine g_iinc (pc := 78) C dX11_whose_78 (q := 3) rfl (v2 := a4 + 1) rfl (Nat.le_of_ble_eq_true rfl) (lo' := [(4, .int (a4 + 1)), (3, .int (a3 ||| (x_ishl 1 a4))), (0, .ref (adr x a0)), (2, .ref (adr x a2))]) rfl ?_
        refine g_goto (pc := 81) C dX11_whose_81 (tgt := 25) rfl ?_
        refine g_sub [2, 3, 1, 0] rfl ?_
        exact ih _ _ _ _ _ _ _ hb h
theorem c_X11_whose {x : xG} {l : Launch} (hl : l.stackTraces = false) {a0 : Nat} {a1 : Int32} {mc ms : Nat} {X : String → Wd → Prop} {K : Int32 → Wd → Prop} {w : Wd} (h : w_X11_whose mc ms a0 a1 K X w) : vx_Met l yX11_whose (xws yX11_whose cX11_whose 5 (some .int)) (rmd 9 mc ms) (xPc x [.ref (adr x a0), .int a1] w) (QcI x K) (XCx x X) mc ms (xA x) := by
  refine xMetX (by decide) (Nat.le_of_ble_eq_true rfl) (fun p e s m below meth c C hlk hr htab => ?_)
  show GW x p l e (rmd 9 mc ms) s m [.ref (adr x a0), .int a1].toArray below meth c 5 (vx_MQ below (QcI x K) (XCx x X) [.ref (adr x a0), .int a1].toArray s mc ms (xA x)) 0 [(0, .ref (adr x a0)), (1, .int a1)] [] w 0 0
  refine g_aload_n (pc := 0) C dX11_whose_0 (q := 0) rfl ?_
  obtain ⟨k1, h⟩ := h
  obtain ⟨k2, h⟩ := h
  refine gfX11_31 (pc := 1) C k1 (isK_ne k2) dX11_whose_1 ?_
  refine g_aload_n (pc := 4) C dX11_whose_4 (q := 0) rfl ?_
  refine g_iload_n (pc := 5) C dX11_whose_5 (q := 1) rfl ?_
  obtain ⟨hb5, h⟩ := h
  refine mxX11_346 (pc := 6) C hl htab hlk k1 h (Nat.le_of_ble_eq_true rfl) (Nat.le_of_ble_eq_true rfl) hb5 dX11_whose_6 (fun r3 w4 h => ?_)
  obtain ⟨k6, h⟩ := h
  refine miX11_349 (pc := 9) C k6 h (Nat.le_of_ble_eq_true rfl) (Nat.le_of_ble_eq_true rfl) hb5 dX11_whose_9 (fun w7 h => ?_)
  refine g_aload_n (pc := 12) C dX11_whose_12 (q := 0) rfl ?_
  obtain ⟨k8, h⟩ := h
  obtain ⟨k9, h⟩ := h
  refine gfX11_49 (pc := 13) C k8 (isK_ne k9) dX11_whose_13 ?_
  obtain ⟨k10, h⟩ := h
  refine gfX11_122 (pc := 16) C k9 (isK_ne k10) dX11_whose_16 ?_
  refine g_astore_n (pc := 19) C dX11_whose_19 (Nat.le_of_ble_eq_true rfl) (lo' := [(2, .ref (adr x (wR w7 (wR w7 a0 0) 0))), (0, .ref (adr x a0)), (1, .int a1)]) rfl ?_
  refine g_iconst (pc := 20) C dX11_whose_20 (v := 0) rfl ?_
  refine g_istore_n (pc := 21) C dX11_whose_21 (Nat.le_of_ble_eq_true rfl) (lo' := [(3, .int 0), (2, .ref (adr x (wR w7 (wR w7 a0 0) 0))), (0, .ref (adr x a0)), (1, .int a1)]) rfl ?_
  refine g_iconst (pc := 22) C dX11_whose_22 (v := 0) rfl ?_
  refine g_istore (pc := 23) C dX11_whose_23 (Nat.le_of_ble_eq_true rfl) (lo' := [(4, .int 0), (3, .int 0), (2, .ref (adr x (wR w7 (wR w7 a0 0) 0))), (0, .ref (adr x a0)), (1, .int a1)]) rfl ?_
  obtain ⟨n29, h⟩ := h
  refine g_sub [3, 2, 1, 0] rfl ?_
  refine t_X11_whose_25 C hlk hr hl htab n29 _ _ _ _ _ _ _ hb5 h
theorem miX11_268 (C : xC x p s m c cc nL args RX11) {a0 : Nat} {a1 : Int32} {K : Int32 → Wd → Prop} {D MC MS : Nat} (hq : isK w a0 8) (h : w_X8_hoursWith a0 a1 K w) (hD : 2 + 1 ≤ D) (hW : (st.map fun v => v.category).sum ≤ 8) (hij : i ≤ MC ∧ j ≤ MS) (hd : decode cc pc = .ok (.invokevirtual 268, 3)) (k : ∀ (r : Int32) (u : Wd), K r u → GW x p l e (rmd D MC MS) s m args below meth c nL Q (pc + 3) lo (.int r :: st) u i j) : GW x p l e (rmd D MC MS) s m args below meth c nL Q pc lo (.int a1 :: .ref (adr x a0) :: st) w i j := g_callVi0 C (As := [.int a1]) (ci := 8) (c_X8_hoursWith h) (x_cwV C 1 LMX11_268 ⟨rfl, by decide, by decide, rfl⟩ hD (by decide)) rfl hq (by decide) rfl rfl hW hd hij k
def w_X11_withAwake (mc ms : Nat) (a0 : Nat) (a1 : Int32) (K : Int32 → Wd → Prop) (X : String → Wd → Prop) (w : Wd) : Prop :=
  isK w a0 11 ∧ isK w (wR w a0 0) 5 ∧ isK w (wR w (wR w a0 0) 0) 2 ∧ isK w (wR w (wR w (wR w a0 0) 0) 0) 1 ∧ (1 ≤ mc ∧ 6 ≤ ms) ∧ w_X11_needWithin 1 6 a1 0 (wI w (wR w (wR w (wR w a0 0) 0) 0) 1) (fun w5 => isK w5 a0 11 ∧ isK w5 (wR w5 a0 7) 8 ∧ isK w5 (wR w5 a0 0) 5 ∧ isK w5 (wR w5 (wR w5 a0 0) 0) 2 ∧ isK w5 (wR w5 (wR w5 (wR w5 a0 0) 0) 0) 1 ∧ w_X1_allWells (wR w5 (wR w5 (wR w5 a0 0) 0) 0) (fun r12 w13 => isK w13 (wR w5 a0 7) 8 ∧ w_X8_over (wR w5 a0 7) (wR w5 (wR w5 a0 0) 0) r12 (fun w15 => isK w15 a0 11 ∧ isK w15 (wR w15 a0 7) 8 ∧ w_X8_hoursWith (wR w15 a0 7) a1 (fun r18 w19 => K r18 w19) w15) w13) w5) X w
theorem c_X11_withAwake {x : xG} {l : Launch} (hl : l.stackTraces = false) {a0 : Nat} {a1 : Int32} {mc ms : Nat} {X : String → Wd → Prop} {K : Int32 → Wd → Prop} {w : Wd} (h : w_X11_withAwake mc ms a0 a1 K X w) : vx_Met l yX11_withAwake (xws yX11_withAwake cX11_withAwake 2 (some .int)) (rmd 7 mc ms) (xPc x [.ref (adr x a0), .int a1] w) (QcI x K) (XCx x X) mc ms (xA x) := by
  refine xMetX (by decide) (Nat.le_of_ble_eq_true rfl) (fun p e s m below meth c C hlk hr htab => ?_)
  show GW x p l e (rmd 7 mc ms) s m [.ref (adr x a0), .int a1].toArray below meth c 2 (vx_MQ below (QcI x K) (XCx x X) [.ref (adr x a0), .int a1].toArray s mc ms (xA x)) 0 [(0, .ref (adr x a0)), (1, .int a1)] [] w 0 0
  refine g_iload_n (pc := 0) C dX11_withAwake_0 (q := 1) rfl ?_
  refine g_iconst (pc := 1) C dX11_withAwake_1 (v := 0) rfl ?_
  refine g_aload_n (pc := 2) C dX11_withAwake_2 (q := 0) rfl ?_
  obtain ⟨k1, h⟩ := h
  obtain ⟨k2, h⟩ := h
  refine gfX11_49 (pc := 3) C k1 (isK_ne k2) dX11_withAwake_3 ?_
  obtain ⟨k3, h⟩ := h
  refine gfX11_122 (pc := 6) C k2 (isK_ne k3) dX11_withAwake_6 ?_
  obtain ⟨k4, h⟩ := h
  refine gfX11_125 (pc := 9) C k3 (isK_ne k4) dX11_withAwake_9 ?_
  refine gfX11_238 (pc := 12) C k4 dX11_withAwake_12 ?_
  obtain ⟨hb6, h⟩ := h
  refine mxX11_95 (pc := 15) C hl htab hlk h (Nat.le_of_ble_eq_true rfl) (Nat.le_of_ble_eq_true rfl) hb6 dX11_withAwake_15 (fun w5 h => ?_)
  refine g_aload_n (pc := 18) C dX11_withAwake_18 (q := 0) rfl ?_
  obtain ⟨k7, h⟩ := h
  obtain ⟨k8, h⟩ := h
  refine gfX11_24 (pc := 19) C k7 (isK_ne k8) dX11_withAwake_19 ?_
  refine g_aload_n (pc := 22) C dX11_withAwake_22 (q := 0) rfl ?_
  obtain ⟨k9, h⟩ := h
  refine gfX11_49 (pc := 23) C k7 (isK_ne k9) dX11_withAwake_23 ?_
  obtain ⟨k10, h⟩ := h
  refine gfX11_122 (pc := 26) C k9 (isK_ne k10) dX11_withAwake_26 ?_
  refine g_aload_n (pc := 29) C dX11_withAwake_29 (q := 0) rfl ?_
  refine gfX11_49 (pc := 30) C k7 (isK_ne k9) dX11_withAwake_30 ?_
  refine gfX11_122 (pc := 33) C k9 (isK_ne k10) dX11_withAwake_33 ?_
  obtain ⟨k11, h⟩ := h
  refine gfX11_125 (pc := 36) C k10 (isK_ne k11) dX11_withAwake_36 ?_
  refine miX11_244 (pc := 39) C k11 h (Nat.le_of_ble_eq_true rfl) (Nat.le_of_ble_eq_true rfl) hb6 dX11_withAwake_39 (fun r12 w13 h => ?_)
  obtain ⟨k14, h⟩ := h
  refine miX11_247 (pc := 42) C k14 h (Nat.le_of_ble_eq_true rfl) (Nat.le_of_ble_eq_true rfl) hb6 dX11_withAwake_42 (fun w15 h => ?_)
  refine g_aload_n (pc := 45) C dX11_withAwake_45 (q := 0) rfl ?_
  obtain ⟨k16, h⟩ := h
  obtain ⟨k17, h⟩ := h
  refine gfX11_24 (pc := 46) C k16 (isK_ne k17) dX11_withAwake_46 ?_
  refine g_iload_n (pc := 49) C dX11_withAwake_49 (q := 1) rfl ?_
  refine miX11_268 (pc := 50) C k17 h (Nat.le_of_ble_eq_true rfl) (Nat.le_of_ble_eq_true rfl) hb6 dX11_withAwake_50 (fun r18 w19 h => ?_)
  refine gx_ret ?_; exact g_iret (pc := 53) C hlk hr hb6.1 hb6.2 dX11_withAwake_53 h
def w_X11_write (mc ms : Nat) (a0 : Nat) (a1 : Int32) (a2 : Int32) (a3 : Int64) (K : Int64 → Wd → Prop) (X : String → Wd → Prop) (w : Wd) : Prop :=
  isK w a0 11 ∧ (2 ≤ mc ∧ 12 ≤ ms) ∧ w_X11_presentTray 2 12 a0 a1 (fun r2 w3 => ((a2 < 0 → (3 ≤ mc ∧ 18 ≤ ms) ∧ ∀ N7, wN w3 ≤ N7 → X "java/lang/IndexOutOfBoundsException" (wJ w3 N7)) ∧ (¬ a2 < 0 → isK w3 r2 10 ∧ ((a2 < (wI w3 r2 1) → w_X10_put r2 a2 a3 (fun w10 => isK w10 r2 10 ∧ w_X10_numberAt r2 a2 (fun r12 w13 => K r12 w13) w10) w3) ∧ (¬ a2 < (wI w3 r2 1) → (3 ≤ mc ∧ 18 ≤ ms) ∧ ∀ N15, wN w3 ≤ N15 → X "java/lang/IndexOutOfBoundsException" (wJ w3 N15)))))) X w
theorem c_X11_write {x : xG} {l : Launch} (hl : l.stackTraces = false) {a0 : Nat} {a1 : Int32} {a2 : Int32} {a3 : Int64} {mc ms : Nat} {X : String → Wd → Prop} {K : Int64 → Wd → Prop} {w : Wd} (h : w_X11_write mc ms a0 a1 a2 a3 K X w) : vx_Met l yX11_write (xws yX11_write cX11_write 6 (some .long)) (rmd 8 mc ms) (xPc x [.ref (adr x a0), .int a1, .int a2, .long a3] w) (QcL x K) (XCx x X) mc ms (xA x) := by
  refine xMetX (by decide) (Nat.le_of_ble_eq_true rfl) (fun p e s m below meth c C hlk hr htab => ?_)
  show GW x p l e (rmd 8 mc ms) s m [.ref (adr x a0), .int a1, .int a2, .long a3].toArray below meth c 6 (vx_MQ below (QcL x K) (XCx x X) [.ref (adr x a0), .int a1, .int a2, .long a3].toArray s mc ms (xA x)) 0 [(0, .ref (adr x a0)), (1, .int a1), (2, .int a2), (3, .long a3)] [] w 0 0
  refine g_aload_n (pc := 0) C dX11_write_0 (q := 0) rfl ?_
  refine g_iload_n (pc := 1) C dX11_write_1 (q := 1) rfl ?_
  obtain ⟨k1, h⟩ := h
  obtain ⟨hb4, h⟩ := h
  refine mxX11_208 (pc := 2) C hl htab hlk k1 h (Nat.le_of_ble_eq_true rfl) (Nat.le_of_ble_eq_true rfl) hb4 dX11_write_2 (fun r2 w3 h => ?_)
  refine g_astore (pc := 5) C dX11_write_5 (Nat.le_of_ble_eq_true rfl) (lo' := [(5, .ref (adr x r2)), (0, .ref (adr x a0)), (1, .int a1), (2, .int a2), (3, .long a3)]) rfl ?_
  refine g_iload_n (pc := 7) C dX11_write_7 (q := 3) rfl ?_
  refine g_if_lt (pc := 8) C dX11_write_8 (tgt := 20) rfl (fun z5 => ?_) (fun z5 => ?_)
  · replace h := h.1 z5
    obtain ⟨hb6, h⟩ := h
    exact thr_IndexOutOfBoundsException (pc := 20) C hl htab hlk (q := 30) (k0 := 30) rfl dX11_write_20 dX11_write_23 (Or.inr ⟨dX11_write_24, dX11_write_27, dX11_write_30⟩) (Nat.le_of_ble_eq_true rfl) (Nat.le_of_ble_eq_true rfl) hb6 h
  · replace h := h.2 z5
    refine g_iload_n (pc := 11) C dX11_write_11 (q := 3) rfl ?_
    refine g_aload (pc := 12) C dX11_write_12 (q := 0) rfl ?_
    obtain ⟨k8, h⟩ := h
    refine gfX11_215 (pc := 14) C k8 dX11_write_14 ?_
    refine g_icmp_lt (pc := 17) C dX11_write_17 (tgt := 31) rfl (fun z9 => ?_) (fun z9 => ?_)
    · replace h := h.1 z9
      refine g_aload (pc := 31) C dX11_write_31 (q := 0) rfl ?_
      refine g_iload_n (pc := 33) C dX11_write_33 (q := 3) rfl ?_
      refine g_lload_n (pc := 34) C dX11_write_34 (q := 4) rfl ?_
      refine miX11_379 (pc := 35) C k8 h (Nat.le_of_ble_eq_true rfl) (Nat.le_of_ble_eq_true rfl) hb4 dX11_write_35 (fun w10 h => ?_)
      refine g_aload (pc := 38) C dX11_write_38 (q := 0) rfl ?_
      refine g_iload_n (pc := 40) C dX11_write_40 (q := 3) rfl ?_
      obtain ⟨k11, h⟩ := h
      refine miX11_218 (pc := 41) C k11 h (Nat.le_of_ble_eq_true rfl) (Nat.le_of_ble_eq_true rfl) hb4 dX11_write_41 (fun r12 w13 h => ?_)
      refine gx_ret ?_; exact g_lret (pc := 44) C hlk hr hb4.1 hb4.2 dX11_write_44 h
    · replace h := h.2 z9
      obtain ⟨hb14, h⟩ := h
      exact thr_IndexOutOfBoundsException (pc := 20) C hl htab hlk (q := 30) (k0 := 30) rfl dX11_write_20 dX11_write_23 (Or.inr ⟨dX11_write_24, dX11_write_27, dX11_write_30⟩) (Nat.le_of_ble_eq_true rfl) (Nat.le_of_ble_eq_true rfl) hb14 h
theorem miX11_313 (C : xC x p s m c cc nL args RX11) {a0 : Nat} {a1 : Int32} {a2 : Int32} {a3 : Int32} {K : Int32 → Wd → Prop} {D MC MS : Nat} (hq : isK w a0 4) (h : w_X4_yawnsTill a0 a1 a2 a3 K w) (hD : 3 + 1 ≤ D) (hW : (st.map fun v => v.category).sum ≤ 8) (hij : i ≤ MC ∧ j ≤ MS) (hd : decode cc pc = .ok (.invokevirtual 313, 3)) (k : ∀ (r : Int32) (u : Wd), K r u → GW x p l e (rmd D MC MS) s m args below meth c nL Q (pc + 3) lo (.int r :: st) u i j) : GW x p l e (rmd D MC MS) s m args below meth c nL Q pc lo (.int a3 :: .int a2 :: .int a1 :: .ref (adr x a0) :: st) w i j := g_callVi0 C (As := [.int a1, .int a2, .int a3]) (ci := 4) (c_X4_yawnsTill h) (x_cwV C 3 LMX11_313 ⟨rfl, by decide, by decide, rfl⟩ hD (by decide)) rfl hq (by decide) rfl rfl hW hd hij k
def w_X11_yawns (mc ms : Nat) (a0 : Nat) (a1 : Int32) (a2 : Int32) (a3 : Int32) (K : Int32 → Wd → Prop) (X : String → Wd → Prop) (w : Wd) : Prop :=
  isK w a0 11 ∧ (1 ≤ mc ∧ 6 ≤ ms) ∧ w_X11_needWell 1 6 a0 a1 (fun w2 => isK w2 a0 11 ∧ (2 ≤ mc ∧ 12 ≤ ms) ∧ w_X11_needWell 1 6 a0 a3 (fun w5 => (3 ≤ mc ∧ 18 ≤ ms) ∧ w_X11_needNoise 1 6 a2 (fun w7 => isK w7 a0 11 ∧ isK w7 (wR w7 a0 5) 4 ∧ isK w7 (wR w7 a0 0) 5 ∧ isK w7 (wR w7 (wR w7 a0 0) 0) 2 ∧ w_X4_over (wR w7 a0 5) (wR w7 (wR w7 a0 0) 0) (fun w13 => isK w13 a0 11 ∧ isK w13 (wR w13 a0 5) 4 ∧ w_X4_yawnsTill (wR w13 a0 5) a1 a2 a3 (fun r16 w17 => K r16 w17) w13) w7) X w5) X w2) X w
theorem c_X11_yawns {x : xG} {l : Launch} (hl : l.stackTraces = false) {a0 : Nat} {a1 : Int32} {a2 : Int32} {a3 : Int32} {mc ms : Nat} {X : String → Wd → Prop} {K : Int32 → Wd → Prop} {w : Wd} (h : w_X11_yawns mc ms a0 a1 a2 a3 K X w) : vx_Met l yX11_yawns (xws yX11_yawns cX11_yawns 4 (some .int)) (rmd 8 mc ms) (xPc x [.ref (adr x a0), .int a1, .int a2, .int a3] w) (QcI x K) (XCx x X) mc ms (xA x) := by
  refine xMetX (by decide) (Nat.le_of_ble_eq_true rfl) (fun p e s m below meth c C hlk hr htab => ?_)
  show GW x p l e (rmd 8 mc ms) s m [.ref (adr x a0), .int a1, .int a2, .int a3].toArray below meth c 4 (vx_MQ below (QcI x K) (XCx x X) [.ref (adr x a0), .int a1, .int a2, .int a3].toArray s mc ms (xA x)) 0 [(0, .ref (adr x a0)), (1, .int a1), (2, .int a2), (3, .int a3)] [] w 0 0
  refine g_aload_n (pc := 0) C dX11_yawns_0 (q := 0) rfl ?_
  refine g_iload_n (pc := 1) C dX11_yawns_1 (q := 1) rfl ?_
  obtain ⟨k1, h⟩ := h
  obtain ⟨hb3, h⟩ := h
  refine mxX11_119 (pc := 2) C hl htab hlk k1 h (Nat.le_of_ble_eq_true rfl) (Nat.le_of_ble_eq_true rfl) hb3 dX11_yawns_2 (fun w2 h => ?_)
  refine g_aload_n (pc := 5) C dX11_yawns_5 (q := 0) rfl ?_
  refine g_iload_n (pc := 6) C dX11_yawns_6 (q := 3) rfl ?_
  obtain ⟨k4, h⟩ := h
  obtain ⟨hb6, h⟩ := h
  refine mxX11_119 (pc := 7) C hl htab hlk k4 h (Nat.le_of_ble_eq_true rfl) (Nat.le_of_ble_eq_true rfl) hb6 dX11_yawns_7 (fun w5 h => ?_)
  refine g_iload_n (pc := 10) C dX11_yawns_10 (q := 2) rfl ?_
  obtain ⟨hb8, h⟩ := h
  refine mxX11_274 (pc := 11) C hl htab hlk h (Nat.le_of_ble_eq_true rfl) (Nat.le_of_ble_eq_true rfl) hb8 dX11_yawns_11 (fun w7 h => ?_)
  refine g_aload_n (pc := 14) C dX11_yawns_14 (q := 0) rfl ?_
  obtain ⟨k9, h⟩ := h
  obtain ⟨k10, h⟩ := h
  refine gfX11_65 (pc := 15) C k9 (isK_ne k10) dX11_yawns_15 ?_
  refine g_aload_n (pc := 18) C dX11_yawns_18 (q := 0) rfl ?_
  obtain ⟨k11, h⟩ := h
  refine gfX11_49 (pc := 19) C k9 (isK_ne k11) dX11_yawns_19 ?_
  obtain ⟨k12, h⟩ := h
  refine gfX11_122 (pc := 22) C k11 (isK_ne k12) dX11_yawns_22 ?_
  refine miX11_277 (pc := 25) C k10 h (Nat.le_of_ble_eq_true rfl) (Nat.le_of_ble_eq_true rfl) hb8 dX11_yawns_25 (fun w13 h => ?_)
  refine g_aload_n (pc := 28) C dX11_yawns_28 (q := 0) rfl ?_
  obtain ⟨k14, h⟩ := h
  obtain ⟨k15, h⟩ := h
  refine gfX11_65 (pc := 29) C k14 (isK_ne k15) dX11_yawns_29 ?_
  refine g_iload_n (pc := 32) C dX11_yawns_32 (q := 1) rfl ?_
  refine g_iload_n (pc := 33) C dX11_yawns_33 (q := 2) rfl ?_
  refine g_iload_n (pc := 34) C dX11_yawns_34 (q := 3) rfl ?_
  refine miX11_313 (pc := 35) C k15 h (Nat.le_of_ble_eq_true rfl) (Nat.le_of_ble_eq_true rfl) hb8 dX11_yawns_35 (fun r16 w17 h => ?_)
  refine gx_ret ?_; exact g_iret (pc := 38) C hlk hr hb8.1 hb8.2 dX11_yawns_38 h
theorem maX11_236 (C : xC x p s m c cc nL args RX11) {a0 : Nat} {a1 : Int32} {K : Wd → Prop} {D MC MS c0 s0 : Nat} (h : w_X3_init c0 s0 a0 a1 K w) (hD : 1 + 1 ≤ D) (hW : (st.map fun v => v.category).sum ≤ 8) (hr : i + c0 ≤ MC ∧ j + s0 ≤ MS) (hd : decode cc pc = .ok (.invokespecial 236, 3)) (k : ∀ (u : Wd), K u → GW x p l e (rmd D MC MS) s m args below meth c nL Q (pc + 3) lo st u (i + c0) (j + s0)) : GW x p l e (rmd D MC MS) s m args below meth c nL Q pc lo (.int a1 :: .ref (adr x a0) :: st) w i j := g_callI C (As := [.int a1]) (c_X3_init h) (x_cwI C 1 LKX3_init LLX11_236 LTX3_init LIX3 rfl ⟨by decide, by decide, rfl⟩ hD (by decide)) rfl rfl hW hd hr k
theorem miX11_241 (C : xC x p s m c cc nL args RX11) {a0 : Nat} {a1 : Int32} {K : Int32 → Wd → Prop} {D MC MS : Nat} (hq : isK w a0 3) (h : w_X3_nextDeed a0 a1 K w) (hD : 1 + 1 ≤ D) (hW : (st.map fun v => v.category).sum ≤ 8) (hij : i ≤ MC ∧ j ≤ MS) (hd : decode cc pc = .ok (.invokevirtual 241, 3)) (k : ∀ (r : Int32) (u : Wd), K r u → GW x p l e (rmd D MC MS) s m args below meth c nL Q (pc + 3) lo (.int r :: st) u i j) : GW x p l e (rmd D MC MS) s m args below meth c nL Q pc lo (.int a1 :: .ref (adr x a0) :: st) w i j := g_callVi0 C (As := [.int a1]) (ci := 3) (c_X3_nextDeed h) (x_cwV C 1 LMX11_241 ⟨rfl, by decide, by decide, rfl⟩ hD (by decide)) rfl hq (by decide) rfl rfl hW hd hij k
theorem nwX11_234 (C : xC x p s m c cc nL args RX11) (hb : i + 1 ≤ R.cells ∧ j + 1 ≤ R.slots) (hd : decode cc pc = .ok (.new 234, 3)) (k : ∀ (r : Nat) (u : Wd), r = wN w → u = wA w 3 0 → GW x p l e R s m args below meth c nL Q (pc + 3) lo (.ref (adr x r) :: st) u (i + 1) (j + 1)) : GW x p l e R s m args below meth c nL Q pc lo st w i j := g_new C tyX3 (ci := 3) rfl (by decide) inX3 tyX3_ok LCLX11_234 LINX3 LIX3 rfl (by decide) hb hd k
def l_X11_year_22 (mc ms : Nat) (X : String → Wd → Prop)  (K : Int32 → Wd → Prop) : Nat → Nat → Int32 → Nat → Int32 → Int32 → Nat → Nat → Wd → Prop
  | 0, _, _, _, _, _, _, _, _ => False
  | n + 1, a0, a2, a3, a4, a5, i0, j0, w => ((a2 ≤ a5 → K a4 w) ∧ (¬ a2 ≤ a5 → isK w a0 11 ∧ isK w (wR w a0 0) 5 ∧ isK w (wR w (wR w a0 0) 0) 2 ∧ isK w (wR w (wR w (wR w a0 0) 0) 0) 1 ∧ isK w a3 3 ∧ w_X3_nextDeed a3 (wI w (wR w (wR w (wR w a0 0) 0) 0) 1) (fun r16 w17 => isK w17 a0 11 ∧ w_X11_carryOutIfCan a0 r16.toInt64 (fun r19 w20 => ((r19 = 0 → l_X11_year_22 mc ms X K n a0 a2 a3 a4 (a5 + 1) i0 j0 w20) ∧ (¬ r19 = 0 → l_X11_year_22 mc ms X K n a0 a2 a3 (a4 + 1) (a5 + 1) i0 j0 w20))) w17) w))
def w_X11_year (mc ms : Nat) (a0 : Nat) (a1 : Int32) (a2 : Int32) (K : Int32 → Wd → Prop) (X : String → Wd → Prop) (w : Wd) : Prop :=
  (1 ≤ mc ∧ 6 ≤ ms) ∧ w_X11_needWithin 1 6 a2 1 30 (fun w1 => (2 ≤ mc ∧ 7 ≤ ms) ∧ ∀ r4 w5, r4 = wN w1 → w5 = wA w1 3 0 → (2 ≤ mc ∧ 7 ≤ ms) ∧ w_X3_init 0 0 r4 a1 (fun w8 => ∃ n22, l_X11_year_22 mc ms X  K n22 a0 a2 r4 0 0 2 7 w8) w5) X w
theorem t_X11_year_22 (C : xC x p s m c cX11_year 8 args RX11) (hlk : meth.locks = false) (hr : meth.sig.returnType = some .int) (hl : l.stackTraces = false) (htab : ∀ z ∈ c.exceptionTable.toList, False) {mc ms : Nat} {X : String → Wd → Prop} {K : Int32 → Wd → Prop}   : ∀ (n : Nat) (a0 : Nat) (a2 : Int32) (a3 : Nat) (a4 : Int32) (a5 : Int32) (i0 j0 : Nat) (w : Wd), i0 ≤ mc ∧ j0 ≤ ms → l_X11_year_22 mc ms X K n a0 a2 a3 a4 a5 i0 j0 w → GW x p l e (rmd 7 mc ms) s m args below meth c 8 (vx_MQ below (QcI x K) (XCx x X) args s mc ms (xA x)) 22 [(0, .ref (adr x a0)), (2, .int a2), (3, .ref (adr x a3)), (4, .int a4), (5, .int a5)] [] w i0 j0 := by
  intro n
  induction n with
  | zero => intro _ _ _ _ _ _ _ _ _ h; exact False.elim h
  | succ n ih =>
    intro a0 a2 a3 a4 a5 i0 j0 w hb h
    refine g_iload (pc := 22) C dX11_year_22 (q := 4) rfl ?_
    refine g_iload_n (pc := 24) C dX11_year_24 (q := 1) rfl ?_
    refine g_icmp_ge (pc := 25) C dX11_year_25 (tgt := 66) rfl (fun z10 => ?_) (fun z10 => ?_)
    · replace h := h.1 z10
      refine g_iload (pc := 66) C dX11_year_66 (q := 3) rfl ?_
      refine gx_ret ?_; exact g_iret (pc := 68) C hlk hr hb.1 hb.2 dX11_year_68 h
    · replace h := h.2 z10
      refine g_aload_n (pc := 28) C dX11_year_28 (q := 2) rfl ?_
      refine g_aload_n (pc := 29) C dX11_year_29 (q := 0) rfl ?_
      obtain ⟨k11, h⟩ := h
      obtain ⟨k12, h⟩ := h
      refine gfX11_49 (pc := 30) C k11 (isK_ne k12) dX11_year_30 ?_
      obtain ⟨k13, h⟩ := h
      refine gfX11_122 (pc := 33) C k12 (isK_ne k13) dX11_year_33 ?_
      obtain ⟨k14, h⟩ := h
      refine gfX11_125 (pc := 36) C k13 (isK_ne k14) dX11_year_36 ?_
      refine gfX11_238 (pc := 39) C k14 dX11_year_39 ?_
      obtain ⟨k15, h⟩ := h
      refine miX11_241 (pc := 42) C k15 h (Nat.le_of_ble_eq_true rfl) (Nat.le_of_ble_eq_true rfl) hb dX11_year_42 (fun r16 w17 h => ?_)
      refine g_i2l (pc := 45) C dX11_year_45 ?_
      refine g_lstore (pc := 46) C dX11_year_46 (Nat.le_of_ble_eq_true rfl) (lo' := [(6, .long r16.toInt64), (0, .ref (adr x a0)), (2, .int a2), (3, .ref (adr x a3)), (4, .int a4), (5, .int a5)]) rfl ?_
      refine g_aload_n (pc := 48) C dX11_year_48 (q := 1) rfl ?_
      refine g_lload (pc := 49) C dX11_year_49 (q := 0) rfl ?_
      obtain ⟨k18, h⟩ := h
      refine miX11_230 (pc := 51) C k18 h (Nat.le_of_ble_eq_true rfl) (Nat.le_of_ble_eq_true rfl) hb dX11_year_51 (fun r19 w20 h => ?_)
      refine g_if_eq (pc := 54) C dX11_year_54 (tgt := 60) rfl (fun z21 => ?_) (fun z21 => ?_)
      · replace h := h.1 z21
        refine g_iinc (pc := 60) C dX11_year_60 (q := 5) rfl (v2 := a5 + 1) rfl (Nat.le_of_ble_eq_true rfl) (lo' := [(5, .int (a5 + 1)), (6, .long r16.toInt64), (0, .ref (adr x a0)), (2, .int a2), (3, .ref (adr x a3)), (4, .int a4)]) rfl ?_
        refine g_goto (pc := 63) C dX11_year_63 (tgt := 22) rfl ?_
        refine g_sub [2, 3, 4, 5, 0] rfl ?_
        exact ih _ _ _ _ _ _ _ _ hb h
      · replace h := h.2 z21
        refine g_iinc (pc := 57) C dX11_year_57 (q := 4) rfl (v2 := a4 + 1) rfl (Nat.le_of_ble_eq_true rfl) (lo' := [(4, .int (a4 + 1)), (6, .long r16.toInt64), (0, .ref (adr x a0)), (2, .int a2), (3, .ref (adr x a3)), (5, .int a5)]) rfl ?_
        refine g_iinc (pc := 60) C dX11_year_60 (q := 5) rfl (v2 := a5 + 1) rfl (Nat.le_of_ble_eq_true rfl) (lo' := [(5, .int (a5 + 1)), (4, .int (a4 + 1)), (6, .long r16.toInt64), (0, .ref (adr x a0)), (2, .int a2), (3, .ref (adr x a3))]) rfl ?_
        refine g_goto (pc := 63) C dX11_year_63 (tgt := 22) rfl ?_
        refine g_sub [3, 4, 5, 1, 0] rfl ?_
        exact ih _ _ _ _ _ _ _ _ hb h
theorem c_X11_year {x : xG} {l : Launch} (hl : l.stackTraces = false) {a0 : Nat} {a1 : Int32} {a2 : Int32} {mc ms : Nat} {X : String → Wd → Prop} {K : Int32 → Wd → Prop} {w : Wd} (h : w_X11_year mc ms a0 a1 a2 K X w) : vx_Met l yX11_year (xws yX11_year cX11_year 8 (some .int)) (rmd 7 mc ms) (xPc x [.ref (adr x a0), .int a1, .int a2] w) (QcI x K) (XCx x X) mc ms (xA x) := by
  refine xMetX (by decide) (Nat.le_of_ble_eq_true rfl) (fun p e s m below meth c C hlk hr htab => ?_)
  show GW x p l e (rmd 7 mc ms) s m [.ref (adr x a0), .int a1, .int a2].toArray below meth c 8 (vx_MQ below (QcI x K) (XCx x X) [.ref (adr x a0), .int a1, .int a2].toArray s mc ms (xA x)) 0 [(0, .ref (adr x a0)), (1, .int a1), (2, .int a2)] [] w 0 0
  refine g_iload_n (pc := 0) C dX11_year_0 (q := 2) rfl ?_
  refine g_iconst (pc := 1) C dX11_year_1 (v := 1) rfl ?_
  refine g_bipush (pc := 2) C dX11_year_2 (v := 30) rfl ?_
  obtain ⟨hb2, h⟩ := h
  refine mxX11_95 (pc := 4) C hl htab hlk h (Nat.le_of_ble_eq_true rfl) (Nat.le_of_ble_eq_true rfl) hb2 dX11_year_4 (fun w1 h => ?_)
  obtain ⟨hb3, h⟩ := h
  refine nwX11_234 (pc := 7) C hb3 dX11_year_7 (fun r4 w5 e6 e7 => ?_)
  replace h := h r4 w5 e6 e7
  refine g_dup (pc := 10) C dX11_year_10 rfl ?_
  refine g_iload_n (pc := 11) C dX11_year_11 (q := 1) rfl ?_
  obtain ⟨hb9, h⟩ := h
  refine maX11_236 (pc := 12) C h (Nat.le_of_ble_eq_true rfl) (Nat.le_of_ble_eq_true rfl) hb9 dX11_year_12 (fun w8 h => ?_)
  refine g_astore_n (pc := 15) C dX11_year_15 (Nat.le_of_ble_eq_true rfl) (lo' := [(3, .ref (adr x r4)), (0, .ref (adr x a0)), (1, .int a1), (2, .int a2)]) rfl ?_
  refine g_iconst (pc := 16) C dX11_year_16 (v := 0) rfl ?_
  refine g_istore (pc := 17) C dX11_year_17 (Nat.le_of_ble_eq_true rfl) (lo' := [(4, .int 0), (3, .ref (adr x r4)), (0, .ref (adr x a0)), (1, .int a1), (2, .int a2)]) rfl ?_
  refine g_iconst (pc := 19) C dX11_year_19 (v := 0) rfl ?_
  refine g_istore (pc := 20) C dX11_year_20 (Nat.le_of_ble_eq_true rfl) (lo' := [(5, .int 0), (4, .int 0), (3, .ref (adr x r4)), (0, .ref (adr x a0)), (1, .int a1), (2, .int a2)]) rfl ?_
  obtain ⟨n22, h⟩ := h
  refine g_sub [3, 5, 2, 1, 0] rfl ?_
  refine t_X11_year_22 C hlk hr hl htab n22 _ _ _ _ _ _ _ _ hb9 h
end ME
