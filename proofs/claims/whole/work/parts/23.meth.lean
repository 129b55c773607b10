/-! methods: X11_hours, X11_needHouse, X11_house, X11_image, X11_init, X11_judge, X11_leastNoise, X11_needBeside, X11_needUnlike, X11_level, X11_listen, X11_loudHour, X11_loudest, X11_needSet, X11_perform, X11_plan, X11_quietHours, X11_quietWell, X11_quietest, X11_restore, X11_roundAt, X11_seen, X11_served, X11_shield, X11_stays -/
section ME
variable {x : xG} {p : Program} {l : Launch} {e : Env} {R : Room} {s : State} {m : MethodId} {args : Array Value} {below : List Frame} {meth : Method} {c : Code} {Q : State → Prop} {cc : ByteArray} {nL : Nat} {pc : Nat} {lo : List (Nat × Value)} {st : List Value} {w : Wd} {i j : Nat}
def l_X11_hours_27 (mc ms : Nat) (X : String → Wd → Prop)  (K : Int32 → Wd → Prop) : Nat → Nat → Int32 → Int32 → Int32 → Nat → Nat → Wd → Prop
  | 0, _, _, _, _, _, _, _ => False
  | n + 1, a0, a1, a2, a3, i0, j0, w => ((a1 ≤ a3 → isK w a0 11 ∧ isK w (wR w a0 0) 5 ∧ isK w (wR w (wR w a0 0) 0) 2 ∧ w_X2_allWater (wR w (wR w a0 0) 0) (fun r15 w16 => K (r15 - a2) w16) w) ∧ (¬ a1 ≤ a3 → isK w a0 11 ∧ isK w (wR w a0 0) 5 ∧ isK w (wR w (wR w a0 0) 0) 2 ∧ w_X2_passHour (wR w (wR w a0 0) 0) (fun w20 => l_X11_hours_27 mc ms X K n a0 a1 a2 (a3 + 1) i0 j0 w20) w))
def w_X11_hours (mc ms : Nat) (a0 : Nat) (a1 : Int32) (K : Int32 → Wd → Prop) (X : String → Wd → Prop) (w : Wd) : Prop :=
  (1 ≤ mc ∧ 6 ≤ ms) ∧ w_X11_needWithin 1 6 a1 1 99 (fun w1 => isK w1 a0 11 ∧ isK w1 (wR w1 a0 0) 5 ∧ w_X5_remember (wR w1 a0 0) (fun w5 => isK w5 a0 11 ∧ isK w5 (wR w5 a0 0) 5 ∧ isK w5 (wR w5 (wR w5 a0 0) 0) 2 ∧ w_X2_allWater (wR w5 (wR w5 a0 0) 0) (fun r9 w10 => ∃ n21, l_X11_hours_27 mc ms X  K n21 a0 a1 r9 0 1 6 w10) w5) w1) X w
theorem t_X11_hours_27 (C : xC x p s m c cX11_hours 4 args RX11) (hlk : meth.locks = false) (hr : meth.sig.returnType = some .int) (hl : l.stackTraces = false) (htab : ∀ z ∈ c.exceptionTable.toList, False) {mc ms : Nat} {X : String → Wd → Prop} {K : Int32 → Wd → Prop}   : ∀ (n : Nat) (a0 : Nat) (a1 : Int32) (a2 : Int32) (a3 : Int32) (i0 j0 : Nat) (w : Wd), i0 ≤ mc ∧ j0 ≤ ms → l_X11_hours_27 mc ms X K n a0 a1 a2 a3 i0 j0 w → GW x p l e (rmd 7 mc ms) s m args below meth c 4 (vx_MQ below (QcI x K) (XCx x X) args s mc ms (xA x)) 27 [(0, .ref (adr x a0)), (1, .int a1), (2, .int a2), (3, .int a3)] [] w i0 j0 := by
  intro n
  induction n with
  | zero => intro _ _ _ _ _ _ _ _ h; exact False.elim h
  | succ n ih =>
    intro a0 a1 a2 a3 i0 j0 w hb h
    refine g_iload_n (pc := 27) C dX11_hours_27 (q := 3) rfl ?_
    refine g_iload_n (pc := 28) C dX11_hours_28 (q := 1) rfl ?_
    refine g_icmp_ge (pc := 29) C dX11_hours_29 (tgt := 48) rfl (fun z11 => ?_) (fun z11 => ?_)
    · replace h := h.1 z11
      refine g_aload_n (pc := 48) C dX11_hours_48 (q := 0) rfl ?_
      obtain ⟨k12, h⟩ := h
      obtain ⟨k13, h⟩ := h
      refine gfX11_49 (pc := 49) C k12 (isK_ne k13) dX11_hours_49 ?_
      obtain ⟨k14, h⟩ := h
      refine gfX11_122 (pc := 52) C k13 (isK_ne k14) dX11_hours_52 ?_
      refine miX11_169 (pc := 55) C k14 h (Nat.le_of_ble_eq_true rfl) (Nat.le_of_ble_eq_true rfl) hb dX11_hours_55 (fun r15 w16 h => ?_)
      refine g_iload_n (pc := 58) C dX11_hours_58 (q := 2) rfl ?_
      refine g_isub (pc := 59) C dX11_hours_59 ?_
      refine gx_ret ?_; exact g_iret (pc := 60) C hlk hr hb.1 hb.2 dX11_hours_60 h
    · replace h := h.2 z11
      refine g_aload_n (pc := 32) C dX11_hours_32 (q := 0) rfl ?_
      obtain ⟨k17, h⟩ := h
      obtain ⟨k18, h⟩ := h
      refine gfX11_49 (pc := 33) C k17 (isK_ne k18) dX11_hours_33 ?_
      obtain ⟨k19, h⟩ := h
      refine gfX11_122 (pc := 36) C k18 (isK_ne k19) dX11_hours_36 ?_
      refine miX11_199 (pc := 39) C k19 h (Nat.le_of_ble_eq_true rfl) (Nat.le_of_ble_eq_true rfl) hb dX11_hours_39 (fun w20 h => ?_)
      refine g_iinc (pc := 42) C dX11_hours_42 (q := 3) rfl (v2 := a3 + 1) rfl (Nat.le_of_ble_eq_true rfl) (lo' := [(3, .int (a3 + 1)), (0, .ref (adr x a0)), (1, .int a1), (2, .int a2)]) rfl ?_
      refine g_goto (pc := 45) C dX11_hours_45 (tgt := 27) rfl ?_
      refine g_sub [1, 2, 3, 0] rfl ?_
      exact ih _ _ _ _ _ _ _ hb h
theorem c_X11_hours {x : xG} {l : Launch} (hl : l.stackTraces = false) {a0 : Nat} {a1 : Int32} {mc ms : Nat} {X : String → Wd → Prop} {K : Int32 → Wd → Prop} {w : Wd} (h : w_X11_hours mc ms a0 a1 K X w) : vx_Met l yX11_hours (xws yX11_hours cX11_hours 4 (some .int)) (rmd 7 mc ms) (xPc x [.ref (adr x a0), .int a1] w) (QcI x K) (XCx x X) mc ms (xA x) := by
  refine xMetX (by decide) (Nat.le_of_ble_eq_true rfl) (fun p e s m below meth c C hlk hr htab => ?_)
  show GW x p l e (rmd 7 mc ms) s m [.ref (adr x a0), .int a1].toArray below meth c 4 (vx_MQ below (QcI x K) (XCx x X) [.ref (adr x a0), .int a1].toArray s mc ms (xA x)) 0 [(0, .ref (adr x a0)), (1, .int a1)] [] w 0 0
  refine g_iload_n (pc := 0) C dX11_hours_0 (q := 1) rfl ?_
  refine g_iconst (pc := 1) C dX11_hours_1 (v := 1) rfl ?_
  refine g_bipush (pc := 2) C dX11_hours_2 (v := 99) rfl ?_
  obtain ⟨hb2, h⟩ := h
  refine mxX11_95 (pc := 4) C hl htab hlk h (Nat.le_of_ble_eq_true rfl) (Nat.le_of_ble_eq_true rfl) hb2 dX11_hours_4 (fun w1 h => ?_)
  refine g_aload_n (pc := 7) C dX11_hours_7 (q := 0) rfl ?_
  obtain ⟨k3, h⟩ := h
  obtain ⟨k4, h⟩ := h
  refine gfX11_49 (pc := 8) C k3 (isK_ne k4) dX11_hours_8 ?_
  refine miX11_176 (pc := 11) C k4 h (Nat.le_of_ble_eq_true rfl) (Nat.le_of_ble_eq_true rfl) hb2 dX11_hours_11 (fun w5 h => ?_)
  refine g_aload_n (pc := 14) C dX11_hours_14 (q := 0) rfl ?_
  obtain ⟨k6, h⟩ := h
  obtain ⟨k7, h⟩ := h
  refine gfX11_49 (pc := 15) C k6 (isK_ne k7) dX11_hours_15 ?_
  obtain ⟨k8, h⟩ := h
  refine gfX11_122 (pc := 18) C k7 (isK_ne k8) dX11_hours_18 ?_
  refine miX11_169 (pc := 21) C k8 h (Nat.le_of_ble_eq_true rfl) (Nat.le_of_ble_eq_true rfl) hb2 dX11_hours_21 (fun r9 w10 h => ?_)
  refine g_istore_n (pc := 24) C dX11_hours_24 (Nat.le_of_ble_eq_true rfl) (lo' := [(2, .int r9), (0, .ref (adr x a0)), (1, .int a1)]) rfl ?_
  refine g_iconst (pc := 25) C dX11_hours_25 (v := 0) rfl ?_
  refine g_istore_n (pc := 26) C dX11_hours_26 (Nat.le_of_ble_eq_true rfl) (lo' := [(3, .int 0), (2, .int r9), (0, .ref (adr x a0)), (1, .int a1)]) rfl ?_
  obtain ⟨n21, h⟩ := h
  refine g_sub [2, 3, 1, 0] rfl ?_
  refine t_X11_hours_27 C hlk hr hl htab n21 _ _ _ _ _ _ _ hb2 h
theorem miX11_330 (C : xC x p s m c cc nL args RX11) {a0 : Nat} {a1 : Int32} {K : Int32 → Wd → Prop} {D MC MS : Nat} (hq : isK w a0 1) (h : w_X1_hasHouse a0 a1 K w) (hD : 0 + 1 ≤ D) (hW : (st.map fun v => v.category).sum ≤ 8) (hij : i ≤ MC ∧ j ≤ MS) (hd : decode cc pc = .ok (.invokevirtual 330, 3)) (k : ∀ (r : Int32) (u : Wd), K r u → GW x p l e (rmd D MC MS) s m args below meth c nL Q (pc + 3) lo (.int r :: st) u i j) : GW x p l e (rmd D MC MS) s m args below meth c nL Q pc lo (.int a1 :: .ref (adr x a0) :: st) w i j := g_callVi0 C (As := [.int a1]) (ci := 1) (c_X1_hasHouse h) (x_cwV C 1 LMX11_330 ⟨rfl, by decide, by decide, rfl⟩ hD (by decide)) rfl hq (by decide) rfl rfl hW hd hij k
def w_X11_needHouse (mc ms : Nat) (a0 : Nat) (a1 : Int32) (K : Wd → Prop) (X : String → Wd → Prop) (w : Wd) : Prop :=
  isK w a0 11 ∧ isK w (wR w a0 0) 5 ∧ isK w (wR w (wR w a0 0) 0) 2 ∧ isK w (wR w (wR w (wR w a0 0) 0) 0) 1 ∧ w_X1_hasHouse (wR w (wR w (wR w a0 0) 0) 0) a1 (fun r5 w6 => ((r5 = 0 → (1 ≤ mc ∧ 6 ≤ ms) ∧ ∀ N9, wN w6 ≤ N9 → X "java/util/NoSuchElementException" (wJ w6 N9)) ∧ (¬ r5 = 0 → K w6))) w
theorem c_X11_needHouse {x : xG} {l : Launch} (hl : l.stackTraces = false) {a0 : Nat} {a1 : Int32} {mc ms : Nat} {X : String → Wd → Prop} {K : Wd → Prop} {w : Wd} (h : w_X11_needHouse mc ms a0 a1 K X w) : vx_Met l yX11_needHouse (xws yX11_needHouse cX11_needHouse 2 none) (rmd 6 mc ms) (xPc x [.ref (adr x a0), .int a1] w) (QcV x K) (XCx x X) mc ms (xA x) := by
  refine xMetX (by decide) (Nat.le_of_ble_eq_true rfl) (fun p e s m below meth c C hlk hr htab => ?_)
  show GW x p l e (rmd 6 mc ms) s m [.ref (adr x a0), .int a1].toArray below meth c 2 (vx_MQ below (QcV x K) (XCx x X) [.ref (adr x a0), .int a1].toArray s mc ms (xA x)) 0 [(0, .ref (adr x a0)), (1, .int a1)] [] w 0 0
  refine g_aload_n (pc := 0) C dX11_needHouse_0 (q := 0) rfl ?_
  obtain ⟨k1, h⟩ := h
  obtain ⟨k2, h⟩ := h
  refine gfX11_49 (pc := 1) C k1 (isK_ne k2) dX11_needHouse_1 ?_
  obtain ⟨k3, h⟩ := h
  refine gfX11_122 (pc := 4) C k2 (isK_ne k3) dX11_needHouse_4 ?_
  obtain ⟨k4, h⟩ := h
  refine gfX11_125 (pc := 7) C k3 (isK_ne k4) dX11_needHouse_7 ?_
  refine g_iload_n (pc := 10) C dX11_needHouse_10 (q := 1) rfl ?_
  refine miX11_330 (pc := 11) C k4 h (Nat.le_of_ble_eq_true rfl) (Nat.le_of_ble_eq_true rfl) ⟨Nat.zero_le _, Nat.zero_le _⟩ dX11_needHouse_11 (fun r5 w6 h => ?_)
  refine g_if_ne (pc := 14) C dX11_needHouse_14 (tgt := 28) rfl (fun z7 => ?_) (fun z7 => ?_)
  · replace h := h.2 z7
    refine gx_ret ?_; exact g_vret (pc := 28) C hlk hr (Nat.zero_le _) (Nat.zero_le _) dX11_needHouse_28 h
  · replace h := h.1 z7
    obtain ⟨hb8, h⟩ := h
    exact thr_NoSuchElementException (pc := 17) C hl htab hlk (q := 23) (k0 := 23) rfl dX11_needHouse_17 dX11_needHouse_20 (⟨dX11_needHouse_21, dX11_needHouse_24, dX11_needHouse_27⟩) (Nat.le_of_ble_eq_true rfl) (Nat.le_of_ble_eq_true rfl) hb8 h
theorem miX11_159 (C : xC x p s m c cc nL args RX11) {a0 : Nat} {a1 : Int32} {K : Int32 → Wd → Prop} {D MC MS : Nat} (hq : isK w a0 1) (h : w_X1_needOf a0 a1 K w) (hD : 0 + 1 ≤ D) (hW : (st.map fun v => v.category).sum ≤ 8) (hij : i ≤ MC ∧ j ≤ MS) (hd : decode cc pc = .ok (.invokevirtual 159, 3)) (k : ∀ (r : Int32) (u : Wd), K r u → GW x p l e (rmd D MC MS) s m args below meth c nL Q (pc + 3) lo (.int r :: st) u i j) : GW x p l e (rmd D MC MS) s m args below meth c nL Q pc lo (.int a1 :: .ref (adr x a0) :: st) w i j := g_callVi0 C (As := [.int a1]) (ci := 1) (c_X1_needOf h) (x_cwV C 1 LMX11_159 ⟨rfl, by decide, by decide, rfl⟩ hD (by decide)) rfl hq (by decide) rfl rfl hW hd hij k
theorem miX11_162 (C : xC x p s m c cc nL args RX11) {a0 : Nat} {a1 : Int32} {K : Int32 → Wd → Prop} {D MC MS : Nat} (hq : isK w a0 1) (h : w_X1_fromOf a0 a1 K w) (hD : 0 + 1 ≤ D) (hW : (st.map fun v => v.category).sum ≤ 8) (hij : i ≤ MC ∧ j ≤ MS) (hd : decode cc pc = .ok (.invokevirtual 162, 3)) (k : ∀ (r : Int32) (u : Wd), K r u → GW x p l e (rmd D MC MS) s m args below meth c nL Q (pc + 3) lo (.int r :: st) u i j) : GW x p l e (rmd D MC MS) s m args below meth c nL Q pc lo (.int a1 :: .ref (adr x a0) :: st) w i j := g_callVi0 C (As := [.int a1]) (ci := 1) (c_X1_fromOf h) (x_cwV C 1 LMX11_162 ⟨rfl, by decide, by decide, rfl⟩ hD (by decide)) rfl hq (by decide) rfl rfl hW hd hij k
theorem mxX11_156 (C : xC x p s m c cc nL args RX11) {a0 : Nat} {a1 : Int32} {K : Wd → Prop} {D MC MS c0 s0 : Nat} {Qc : Array Value → State → Outcome → State → Prop} {X : String → Wd → Prop} (hl : l.stackTraces = false) (htab : ∀ z ∈ c.exceptionTable.toList, False) (hlk : meth.locks = false) (hq : isK w a0 11) (h : w_X11_needHouse c0 s0 a0 a1 K X w) (hD : 6 + 1 ≤ D) (hW : (st.map fun v => v.category).sum ≤ 8) (hr : i + c0 ≤ MC ∧ j + s0 ≤ MS) (hd : decode cc pc = .ok (.invokevirtual 156, 3)) (k : ∀ (u : Wd), K u → GW x p l e (rmd D MC MS) s m args below meth c nL (vx_MQ below Qc (XCx x X) args s MC MS (xA x)) (pc + 3) lo st u (i + c0) (j + s0)) : GW x p l e (rmd D MC MS) s m args below meth c nL (vx_MQ below Qc (XCx x X) args s MC MS (xA x)) pc lo (.int a1 :: .ref (adr x a0) :: st) w i j := gx_callVv C (As := [.int a1]) (ci := 11) htab hlk (c_X11_needHouse hl h) (x_cwV C 1 LMX11_156 ⟨rfl, by decide, by decide, rfl⟩ hD (by decide)) rfl hq (by decide) rfl rfl hW hd hr k
def w_X11_house (mc ms : Nat) (a0 : Nat) (a1 : Int32) (a2 : Int32) (K : Int32 → Wd → Prop) (X : String → Wd → Prop) (w : Wd) : Prop :=
  isK w a0 11 ∧ (1 ≤ mc ∧ 6 ≤ ms) ∧ w_X11_needHouse 1 6 a0 a1 (fun w2 => (2 ≤ mc ∧ 12 ≤ ms) ∧ w_X11_needWithin 1 6 a2 0 1 (fun w4 => ((a2 = 0 → isK w4 a0 11 ∧ isK w4 (wR w4 a0 0) 5 ∧ isK w4 (wR w4 (wR w4 a0 0) 0) 2 ∧ isK w4 (wR w4 (wR w4 (wR w4 a0 0) 0) 0) 1 ∧ w_X1_needOf (wR w4 (wR w4 (wR w4 a0 0) 0) 0) a1 (fun r17 w18 => K r17 w18) w4) ∧ (¬ a2 = 0 → isK w4 a0 11 ∧ isK w4 (wR w4 a0 0) 5 ∧ isK w4 (wR w4 (wR w4 a0 0) 0) 2 ∧ isK w4 (wR w4 (wR w4 (wR w4 a0 0) 0) 0) 1 ∧ w_X1_fromOf (wR w4 (wR w4 (wR w4 a0 0) 0) 0) a1 (fun r11 w12 => K r11 w12) w4))) X w2) X w
theorem c_X11_house {x : xG} {l : Launch} (hl : l.stackTraces = false) {a0 : Nat} {a1 : Int32} {a2 : Int32} {mc ms : Nat} {X : String → Wd → Prop} {K : Int32 → Wd → Prop} {w : Wd} (h : w_X11_house mc ms a0 a1 a2 K X w) : vx_Met l yX11_house (xws yX11_house cX11_house 3 (some .int)) (rmd 7 mc ms) (xPc x [.ref (adr x a0), .int a1, .int a2] w) (QcI x K) (XCx x X) mc ms (xA x) := by
  refine xMetX (by decide) (Nat.le_of_ble_eq_true rfl) (fun p e s m below meth c C hlk hr htab => ?_)
  show GW x p l e (rmd 7 mc ms) s m [.ref (adr x a0), .int a1, .int a2].toArray below meth c 3 (vx_MQ below (QcI x K) (XCx x X) [.ref (adr x a0), .int a1, .int a2].toArray s mc ms (xA x)) 0 [(0, .ref (adr x a0)), (1, .int a1), (2, .int a2)] [] w 0 0
  refine g_aload_n (pc := 0) C dX11_house_0 (q := 0) rfl ?_
  refine g_iload_n (pc := 1) C dX11_house_1 (q := 1) rfl ?_
  obtain ⟨k1, h⟩ := h
  obtain ⟨hb3, h⟩ := h
  refine mxX11_156 (pc := 2) C hl htab hlk k1 h (Nat.le_of_ble_eq_true rfl) (Nat.le_of_ble_eq_true rfl) hb3 dX11_house_2 (fun w2 h => ?_)
  refine g_iload_n (pc := 5) C dX11_house_5 (q := 2) rfl ?_
  refine g_iconst (pc := 6) C dX11_house_6 (v := 0) rfl ?_
  refine g_iconst (pc := 7) C dX11_house_7 (v := 1) rfl ?_
  obtain ⟨hb5, h⟩ := h
  refine mxX11_95 (pc := 8) C hl htab hlk h (Nat.le_of_ble_eq_true rfl) (Nat.le_of_ble_eq_true rfl) hb5 dX11_house_8 (fun w4 h => ?_)
  refine g_iload_n (pc := 11) C dX11_house_11 (q := 2) rfl ?_
  refine g_if_ne (pc := 12) C dX11_house_12 (tgt := 32) rfl (fun z6 => ?_) (fun z6 => ?_)
  · replace h := h.2 z6
    refine g_aload_n (pc := 32) C dX11_house_32 (q := 0) rfl ?_
    obtain ⟨k7, h⟩ := h
    obtain ⟨k8, h⟩ := h
    refine gfX11_49 (pc := 33) C k7 (isK_ne k8) dX11_house_33 ?_
    obtain ⟨k9, h⟩ := h
    refine gfX11_122 (pc := 36) C k8 (isK_ne k9) dX11_house_36 ?_
    obtain ⟨k10, h⟩ := h
    refine gfX11_125 (pc := 39) C k9 (isK_ne k10) dX11_house_39 ?_
    refine g_iload_n (pc := 42) C dX11_house_42 (q := 1) rfl ?_
    refine miX11_162 (pc := 43) C k10 h (Nat.le_of_ble_eq_true rfl) (Nat.le_of_ble_eq_true rfl) hb5 dX11_house_43 (fun r11 w12 h => ?_)
    refine gx_ret ?_; exact g_iret (pc := 46) C hlk hr hb5.1 hb5.2 dX11_house_46 h
  · replace h := h.1 z6
    refine g_aload_n (pc := 15) C dX11_house_15 (q := 0) rfl ?_
    obtain ⟨k13, h⟩ := h
    obtain ⟨k14, h⟩ := h
    refine gfX11_49 (pc := 16) C k13 (isK_ne k14) dX11_house_16 ?_
    obtain ⟨k15, h⟩ := h
    refine gfX11_122 (pc := 19) C k14 (isK_ne k15) dX11_house_19 ?_
    obtain ⟨k16, h⟩ := h
    refine gfX11_125 (pc := 22) C k15 (isK_ne k16) dX11_house_22 ?_
    refine g_iload_n (pc := 25) C dX11_house_25 (q := 1) rfl ?_
    refine miX11_159 (pc := 26) C k16 h (Nat.le_of_ble_eq_true rfl) (Nat.le_of_ble_eq_true rfl) hb5 dX11_house_26 (fun r17 w18 h => ?_)
    refine g_goto (pc := 29) C dX11_house_29 (tgt := 46) rfl ?_
    refine gx_ret ?_; exact g_iret (pc := 46) C hlk hr hb5.1 hb5.2 dX11_house_46 h
theorem miX11_390 (C : xC x p s m c cc nL args RX11) {a0 : Nat} {a1 : Nat} {K : Wd → Prop} {D MC MS : Nat} (hq : isK w a0 5) (h : w_X5_become a0 a1 K w) (hD : 1 + 1 ≤ D) (hW : (st.map fun v => v.category).sum ≤ 8) (hij : i ≤ MC ∧ j ≤ MS) (hd : decode cc pc = .ok (.invokevirtual 390, 3)) (k : ∀ (u : Wd), K u → GW x p l e (rmd D MC MS) s m args below meth c nL Q (pc + 3) lo st u i j) : GW x p l e (rmd D MC MS) s m args below meth c nL Q pc lo (.ref (adr x a1) :: .ref (adr x a0) :: st) w i j := g_callVv0 C (As := [.ref (adr x a1)]) (ci := 5) (c_X5_become h) (x_cwV C 1 LMX11_390 ⟨rfl, by decide, by decide, rfl⟩ hD (by decide)) rfl hq (by decide) rfl rfl hW hd hij k
theorem mxX11_386 (C : xC x p s m c cc nL args RX11) {a0 : Nat} {a1 : Int32} {K : Nat → Wd → Prop} {D MC MS c0 s0 : Nat} {Qc : Array Value → State → Outcome → State → Prop} {X : String → Wd → Prop} (hl : l.stackTraces = false) (htab : ∀ z ∈ c.exceptionTable.toList, False) (hlk : meth.locks = false) (hq : isK w a0 11) (h : w_X11_anyImage c0 s0 a0 a1 K X w) (hD : 6 + 1 ≤ D) (hW : (st.map fun v => v.category).sum ≤ 8) (hr : i + c0 ≤ MC ∧ j + s0 ≤ MS) (hd : decode cc pc = .ok (.invokevirtual 386, 3)) (k : ∀ (r : Nat) (u : Wd), K r u → GW x p l e (rmd D MC MS) s m args below meth c nL (vx_MQ below Qc (XCx x X) args s MC MS (xA x)) (pc + 3) lo (.ref (adr x r) :: st) u (i + c0) (j + s0)) : GW x p l e (rmd D MC MS) s m args below meth c nL (vx_MQ below Qc (XCx x X) args s MC MS (xA x)) pc lo (.int a1 :: .ref (adr x a0) :: st) w i j := gx_callVr C (As := [.int a1]) (ci := 11) htab hlk (c_X11_anyImage hl h) (x_cwV C 1 LMX11_386 ⟨rfl, by decide, by decide, rfl⟩ hD (by decide)) rfl hq (by decide) rfl rfl hW hd hr k
def w_X11_image (mc ms : Nat) (a0 : Nat) (a1 : Int32) (K : Wd → Prop) (X : String → Wd → Prop) (w : Wd) : Prop :=
  isK w a0 11 ∧ (1 ≤ mc ∧ 6 ≤ ms) ∧ w_X11_anyImage 1 6 a0 a1 (fun r2 w3 => isK w3 a0 11 ∧ isK w3 (wR w3 a0 0) 5 ∧ isK w3 r2 5 ∧ w_X5_become r2 (wR w3 a0 0) (fun w8 => isK w8 r2 5 ∧ K (uI w8 r2 1 1)) w3) X w
theorem c_X11_image {x : xG} {l : Launch} (hl : l.stackTraces = false) {a0 : Nat} {a1 : Int32} {mc ms : Nat} {X : String → Wd → Prop} {K : Wd → Prop} {w : Wd} (h : w_X11_image mc ms a0 a1 K X w) : vx_Met l yX11_image (xws yX11_image cX11_image 3 none) (rmd 7 mc ms) (xPc x [.ref (adr x a0), .int a1] w) (QcV x K) (XCx x X) mc ms (xA x) := by
  refine xMetX (by decide) (Nat.le_of_ble_eq_true rfl) (fun p e s m below meth c C hlk hr htab => ?_)
  show GW x p l e (rmd 7 mc ms) s m [.ref (adr x a0), .int a1].toArray below meth c 3 (vx_MQ below (QcV x K) (XCx x X) [.ref (adr x a0), .int a1].toArray s mc ms (xA x)) 0 [(0, .ref (adr x a0)), (1, .int a1)] [] w 0 0
  refine g_aload_n (pc := 0) C dX11_image_0 (q := 0) rfl ?_
  refine g_iload_n (pc := 1) C dX11_image_1 (q := 1) rfl ?_
  obtain ⟨k1, h⟩ := h
  obtain ⟨hb4, h⟩ := h
  refine mxX11_386 (pc := 2) C hl htab hlk k1 h (Nat.le_of_ble_eq_true rfl) (Nat.le_of_ble_eq_true rfl) hb4 dX11_image_2 (fun r2 w3 h => ?_)
  refine g_astore_n (pc := 5) C dX11_image_5 (Nat.le_of_ble_eq_true rfl) (lo' := [(2, .ref (adr x r2)), (0, .ref (adr x a0)), (1, .int a1)]) rfl ?_
  refine g_aload_n (pc := 6) C dX11_image_6 (q := 0) rfl ?_
  refine g_aload_n (pc := 7) C dX11_image_7 (q := 1) rfl ?_
  obtain ⟨k5, h⟩ := h
  obtain ⟨k6, h⟩ := h
  refine gfX11_49 (pc := 8) C k5 (isK_ne k6) dX11_image_8 ?_
  obtain ⟨k7, h⟩ := h
  refine miX11_390 (pc := 11) C k7 h (Nat.le_of_ble_eq_true rfl) (Nat.le_of_ble_eq_true rfl) hb4 dX11_image_11 (fun w8 h => ?_)
  refine g_aload_n (pc := 14) C dX11_image_14 (q := 0) rfl ?_
  refine g_iconst (pc := 15) C dX11_image_15 (v := 1) rfl ?_
  obtain ⟨k9, h⟩ := h
  refine pfX11_393 (pc := 16) C k9 (Or.inr rfl) dX11_image_16 ?_
  refine gx_ret ?_; exact g_vret (pc := 19) C hlk hr hb4.1 hb4.2 dX11_image_19 h
theorem maX11_23 (C : xC x p s m c cc nL args RX11) {a0 : Nat} {K : Wd → Prop} {D MC MS c0 s0 : Nat} (h : w_X8_init c0 s0 a0 K w) (hD : 1 + 1 ≤ D) (hW : (st.map fun v => v.category).sum ≤ 8) (hr : i + c0 ≤ MC ∧ j + s0 ≤ MS) (hd : decode cc pc = .ok (.invokespecial 23, 3)) (k : ∀ (u : Wd), K u → GW x p l e (rmd D MC MS) s m args below meth c nL Q (pc + 3) lo st u (i + c0) (j + s0)) : GW x p l e (rmd D MC MS) s m args below meth c nL Q pc lo (.ref (adr x a0) :: st) w i j := g_callIN C (As := []) (c_X8_init h) (x_cwIN C 0 LKX8_init LNX11_23 LTX8_init LIX8 rfl ⟨by decide, by decide, rfl⟩ hD (by decide)) rfl rfl hW hd hr k
theorem maX11_30 (C : xC x p s m c cc nL args RX11) {a0 : Nat} {K : Wd → Prop} {D MC MS c0 s0 : Nat} (h : w_X9_init c0 s0 a0 K w) (hD : 1 + 1 ≤ D) (hW : (st.map fun v => v.category).sum ≤ 8) (hr : i + c0 ≤ MC ∧ j + s0 ≤ MS) (hd : decode cc pc = .ok (.invokespecial 30, 3)) (k : ∀ (u : Wd), K u → GW x p l e (rmd D MC MS) s m args below meth c nL Q (pc + 3) lo st u (i + c0) (j + s0)) : GW x p l e (rmd D MC MS) s m args below meth c nL Q pc lo (.ref (adr x a0) :: st) w i j := g_callIN C (As := []) (c_X9_init h) (x_cwIN C 0 LKX9_init LNX11_30 LTX9_init LIX9 rfl ⟨by decide, by decide, rfl⟩ hD (by decide)) rfl rfl hW hd hr k
theorem maX11_37 (C : xC x p s m c cc nL args RX11) {a0 : Nat} {K : Wd → Prop} {D MC MS c0 s0 : Nat} (h : w_X1_init c0 s0 a0 K w) (hD : 1 + 1 ≤ D) (hW : (st.map fun v => v.category).sum ≤ 8) (hr : i + c0 ≤ MC ∧ j + s0 ≤ MS) (hd : decode cc pc = .ok (.invokespecial 37, 3)) (k : ∀ (u : Wd), K u → GW x p l e (rmd D MC MS) s m args below meth c nL Q (pc + 3) lo st u (i + c0) (j + s0)) : GW x p l e (rmd D MC MS) s m args below meth c nL Q pc lo (.ref (adr x a0) :: st) w i j := g_callIN C (As := []) (c_X1_init h) (x_cwIN C 0 LKX1_init LNX11_37 LTX1_init LIX1 rfl ⟨by decide, by decide, rfl⟩ hD (by decide)) rfl rfl hW hd hr k
theorem maX11_40 (C : xC x p s m c cc nL args RX11) {a0 : Nat} {a1 : Nat} {K : Wd → Prop} {D MC MS c0 s0 : Nat} (h : w_X2_init c0 s0 a0 a1 K w) (hD : 1 + 1 ≤ D) (hW : (st.map fun v => v.category).sum ≤ 8) (hr : i + c0 ≤ MC ∧ j + s0 ≤ MS) (hd : decode cc pc = .ok (.invokespecial 40, 3)) (k : ∀ (u : Wd), K u → GW x p l e (rmd D MC MS) s m args below meth c nL Q (pc + 3) lo st u (i + c0) (j + s0)) : GW x p l e (rmd D MC MS) s m args below meth c nL Q pc lo (.ref (adr x a1) :: .ref (adr x a0) :: st) w i j := g_callI C (As := [.ref (adr x a1)]) (c_X2_init h) (x_cwI C 1 LKX2_init LLX11_40 LTX2_init LIX2 rfl ⟨by decide, by decide, rfl⟩ hD (by decide)) rfl rfl hW hd hr k
theorem maX11_45 (C : xC x p s m c cc nL args RX11) {a0 : Nat} {a1 : Nat} {K : Wd → Prop} {D MC MS c0 s0 : Nat} (h : w_X4_init c0 s0 a0 a1 K w) (hD : 1 + 1 ≤ D) (hW : (st.map fun v => v.category).sum ≤ 8) (hr : i + c0 ≤ MC ∧ j + s0 ≤ MS) (hd : decode cc pc = .ok (.invokespecial 45, 3)) (k : ∀ (u : Wd), K u → GW x p l e (rmd D MC MS) s m args below meth c nL Q (pc + 3) lo st u (i + c0) (j + s0)) : GW x p l e (rmd D MC MS) s m args below meth c nL Q pc lo (.ref (adr x a1) :: .ref (adr x a0) :: st) w i j := g_callI C (As := [.ref (adr x a1)]) (c_X4_init h) (x_cwI C 1 LKX4_init LLX11_45 LTX4_init LIX4 rfl ⟨by decide, by decide, rfl⟩ hD (by decide)) rfl rfl hW hd hr k
theorem maX11_48 (C : xC x p s m c cc nL args RX11) {a0 : Nat} {a1 : Nat} {K : Wd → Prop} {D MC MS c0 s0 : Nat} (h : w_X5_init c0 s0 a0 a1 K w) (hD : 2 + 1 ≤ D) (hW : (st.map fun v => v.category).sum ≤ 8) (hr : i + c0 ≤ MC ∧ j + s0 ≤ MS) (hd : decode cc pc = .ok (.invokespecial 48, 3)) (k : ∀ (u : Wd), K u → GW x p l e (rmd D MC MS) s m args below meth c nL Q (pc + 3) lo st u (i + c0) (j + s0)) : GW x p l e (rmd D MC MS) s m args below meth c nL Q pc lo (.ref (adr x a1) :: .ref (adr x a0) :: st) w i j := g_callI C (As := [.ref (adr x a1)]) (c_X5_init h) (x_cwI C 1 LKX5_init LLX11_48 LTX5_init LIX5 rfl ⟨by decide, by decide, rfl⟩ hD (by decide)) rfl rfl hW hd hr k
theorem maX11_53 (C : xC x p s m c cc nL args RX11) {a0 : Nat} {K : Wd → Prop} {D MC MS c0 s0 : Nat} (h : w_X10_init c0 s0 a0 K w) (hD : 1 + 1 ≤ D) (hW : (st.map fun v => v.category).sum ≤ 8) (hr : i + c0 ≤ MC ∧ j + s0 ≤ MS) (hd : decode cc pc = .ok (.invokespecial 53, 3)) (k : ∀ (u : Wd), K u → GW x p l e (rmd D MC MS) s m args below meth c nL Q (pc + 3) lo st u (i + c0) (j + s0)) : GW x p l e (rmd D MC MS) s m args below meth c nL Q pc lo (.ref (adr x a0) :: st) w i j := g_callIN C (As := []) (c_X10_init h) (x_cwIN C 0 LKX10_init LNX11_53 LTX10_init LIX10 rfl ⟨by decide, by decide, rfl⟩ hD (by decide)) rfl rfl hW hd hr k
theorem maX11_60 (C : xC x p s m c cc nL args RX11) {a0 : Nat} {a1 : Nat} {K : Wd → Prop} {D MC MS c0 s0 : Nat} (h : w_X7_init c0 s0 a0 a1 K w) (hD : 1 + 1 ≤ D) (hW : (st.map fun v => v.category).sum ≤ 8) (hr : i + c0 ≤ MC ∧ j + s0 ≤ MS) (hd : decode cc pc = .ok (.invokespecial 60, 3)) (k : ∀ (u : Wd), K u → GW x p l e (rmd D MC MS) s m args below meth c nL Q (pc + 3) lo st u (i + c0) (j + s0)) : GW x p l e (rmd D MC MS) s m args below meth c nL Q pc lo (.ref (adr x a1) :: .ref (adr x a0) :: st) w i j := g_callI C (As := [.ref (adr x a1)]) (c_X7_init h) (x_cwI C 1 LKX7_init LLX11_60 LTX7_init LIX7 rfl ⟨by decide, by decide, rfl⟩ hD (by decide)) rfl rfl hW hd hr k
theorem maX11_71 (C : xC x p s m c cc nL args RX11) {a0 : Nat} {a1 : Nat} {K : Wd → Prop} {D MC MS c0 s0 : Nat} (h : w_X0_init c0 s0 a0 a1 K w) (hD : 1 + 1 ≤ D) (hW : (st.map fun v => v.category).sum ≤ 8) (hr : i + c0 ≤ MC ∧ j + s0 ≤ MS) (hd : decode cc pc = .ok (.invokespecial 71, 3)) (k : ∀ (u : Wd), K u → GW x p l e (rmd D MC MS) s m args below meth c nL Q (pc + 3) lo st u (i + c0) (j + s0)) : GW x p l e (rmd D MC MS) s m args below meth c nL Q pc lo (.ref (adr x a1) :: .ref (adr x a0) :: st) w i j := g_callI C (As := [.ref (adr x a1)]) (c_X0_init h) (x_cwI C 1 LKX0_init LLX11_71 LTX0_init LIX0 rfl ⟨by decide, by decide, rfl⟩ hD (by decide)) rfl rfl hW hd hr k
theorem maX11_80 (C : xC x p s m c cc nL args RX11) {a0 : Nat} {a1 : Nat} {a2 : Nat} {K : Wd → Prop} {D MC MS c0 s0 : Nat} (h : w_X6_init c0 s0 a0 a1 a2 K w) (hD : 1 + 1 ≤ D) (hW : (st.map fun v => v.category).sum ≤ 8) (hr : i + c0 ≤ MC ∧ j + s0 ≤ MS) (hd : decode cc pc = .ok (.invokespecial 80, 3)) (k : ∀ (u : Wd), K u → GW x p l e (rmd D MC MS) s m args below meth c nL Q (pc + 3) lo st u (i + c0) (j + s0)) : GW x p l e (rmd D MC MS) s m args below meth c nL Q pc lo (.ref (adr x a2) :: .ref (adr x a1) :: .ref (adr x a0) :: st) w i j := g_callI C (As := [.ref (adr x a1), .ref (adr x a2)]) (c_X6_init h) (x_cwI C 2 LKX6_init LLX11_80 LTX6_init LIX6 rfl ⟨by decide, by decide, rfl⟩ hD (by decide)) rfl rfl hW hd hr k
theorem nwX11_9 (C : xC x p s m c cc nL args RX11) (hb : i + 1 ≤ R.cells ∧ j + 5 ≤ R.slots) (hd : decode cc pc = .ok (.new 9, 3)) (k : ∀ (r : Nat) (u : Wd), r = wN w → u = wA w 5 0 → GW x p l e R s m args below meth c nL Q (pc + 3) lo (.ref (adr x r) :: st) u (i + 1) (j + 5)) : GW x p l e R s m args below meth c nL Q pc lo st w i j := g_new C tyX5 (ci := 5) rfl (by decide) inX5 tyX5_ok LCLX11_9 LINX5 LIX5 rfl (by decide) hb hd k
theorem nwX11_15 (C : xC x p s m c cc nL args RX11) (hb : i + 1 ≤ R.cells ∧ j + 4 ≤ R.slots) (hd : decode cc pc = .ok (.new 15, 3)) (k : ∀ (r : Nat) (u : Wd), r = wN w → u = wA w 10 0 → GW x p l e R s m args below meth c nL Q (pc + 3) lo (.ref (adr x r) :: st) u (i + 1) (j + 4)) : GW x p l e R s m args below meth c nL Q pc lo st w i j := g_new C tyX10 (ci := 10) rfl (by decide) inX10 tyX10_ok LCLX11_15 LINX10 LIX10 rfl (by decide) hb hd k
theorem nwX11_21 (C : xC x p s m c cc nL args RX11) (hb : i + 1 ≤ R.cells ∧ j + 6 ≤ R.slots) (hd : decode cc pc = .ok (.new 21, 3)) (k : ∀ (r : Nat) (u : Wd), r = wN w → u = wA w 8 0 → GW x p l e R s m args below meth c nL Q (pc + 3) lo (.ref (adr x r) :: st) u (i + 1) (j + 6)) : GW x p l e R s m args below meth c nL Q pc lo st w i j := g_new C tyX8 (ci := 8) rfl (by decide) inX8 tyX8_ok LCLX11_21 LINX8 LIX8 rfl (by decide) hb hd k
theorem nwX11_28 (C : xC x p s m c cc nL args RX11) (hb : i + 1 ≤ R.cells ∧ j + 5 ≤ R.slots) (hd : decode cc pc = .ok (.new 28, 3)) (k : ∀ (r : Nat) (u : Wd), r = wN w → u = wA w 9 0 → GW x p l e R s m args below meth c nL Q (pc + 3) lo (.ref (adr x r) :: st) u (i + 1) (j + 5)) : GW x p l e R s m args below meth c nL Q pc lo st w i j := g_new C tyX9 (ci := 9) rfl (by decide) inX9 tyX9_ok LCLX11_28 LINX9 LIX9 rfl (by decide) hb hd k
theorem nwX11_35 (C : xC x p s m c cc nL args RX11) (hb : i + 1 ≤ R.cells ∧ j + 13 ≤ R.slots) (hd : decode cc pc = .ok (.new 35, 3)) (k : ∀ (r : Nat) (u : Wd), r = wN w → u = wA w 1 0 → GW x p l e R s m args below meth c nL Q (pc + 3) lo (.ref (adr x r) :: st) u (i + 1) (j + 13)) : GW x p l e R s m args below meth c nL Q pc lo st w i j := g_new C tyX1 (ci := 1) rfl (by decide) inX1 tyX1_ok LCLX11_35 LINX1 LIX1 rfl (by decide) hb hd k
theorem nwX11_38 (C : xC x p s m c cc nL args RX11) (hb : i + 1 ≤ R.cells ∧ j + 5 ≤ R.slots) (hd : decode cc pc = .ok (.new 38, 3)) (k : ∀ (r : Nat) (u : Wd), r = wN w → u = wA w 2 0 → GW x p l e R s m args below meth c nL Q (pc + 3) lo (.ref (adr x r) :: st) u (i + 1) (j + 5)) : GW x p l e R s m args below meth c nL Q pc lo st w i j := g_new C tyX2 (ci := 2) rfl (by decide) inX2 tyX2_ok LCLX11_38 LINX2 LIX2 rfl (by decide) hb hd k
theorem nwX11_43 (C : xC x p s m c cc nL args RX11) (hb : i + 1 ≤ R.cells ∧ j + 6 ≤ R.slots) (hd : decode cc pc = .ok (.new 43, 3)) (k : ∀ (r : Nat) (u : Wd), r = wN w → u = wA w 4 0 → GW x p l e R s m args below meth c nL Q (pc + 3) lo (.ref (adr x r) :: st) u (i + 1) (j + 6)) : GW x p l e R s m args below meth c nL Q pc lo st w i j := g_new C tyX4 (ci := 4) rfl (by decide) inX4 tyX4_ok LCLX11_43 LINX4 LIX4 rfl (by decide) hb hd k
theorem nwX11_58 (C : xC x p s m c cc nL args RX11) (hb : i + 1 ≤ R.cells ∧ j + 13 ≤ R.slots) (hd : decode cc pc = .ok (.new 58, 3)) (k : ∀ (r : Nat) (u : Wd), r = wN w → u = wA w 7 0 → GW x p l e R s m args below meth c nL Q (pc + 3) lo (.ref (adr x r) :: st) u (i + 1) (j + 13)) : GW x p l e R s m args below meth c nL Q pc lo st w i j := g_new C tyX7 (ci := 7) rfl (by decide) inX7 tyX7_ok LCLX11_58 LINX7 LIX7 rfl (by decide) hb hd k
theorem nwX11_69 (C : xC x p s m c cc nL args RX11) (hb : i + 1 ≤ R.cells ∧ j + 1 ≤ R.slots) (hd : decode cc pc = .ok (.new 69, 3)) (k : ∀ (r : Nat) (u : Wd), r = wN w → u = wA w 0 0 → GW x p l e R s m args below meth c nL Q (pc + 3) lo (.ref (adr x r) :: st) u (i + 1) (j + 1)) : GW x p l e R s m args below meth c nL Q pc lo st w i j := g_new C tyX0 (ci := 0) rfl (by decide) inX0 tyX0_ok LCLX11_69 LINX0 LIX0 rfl (by decide) hb hd k
theorem nwX11_78 (C : xC x p s m c cc nL args RX11) (hb : i + 1 ≤ R.cells ∧ j + 4 ≤ R.slots) (hd : decode cc pc = .ok (.new 78, 3)) (k : ∀ (r : Nat) (u : Wd), r = wN w → u = wA w 6 0 → GW x p l e R s m args below meth c nL Q (pc + 3) lo (.ref (adr x r) :: st) u (i + 1) (j + 4)) : GW x p l e R s m args below meth c nL Q pc lo st w i j := g_new C tyX6 (ci := 6) rfl (by decide) inX6 tyX6_ok LCLX11_78 LINX6 LIX6 rfl (by decide) hb hd k
def l_X11_init_83 (mc ms : Nat) (E114 : Nat → Nat → Nat → Nat → Nat → Nat → Wd → Prop) (K : Wd → Prop) : Nat → Nat → Nat → Nat → Nat → Int32 → Nat → Nat → Wd → Prop
  | 0, _, _, _, _, _, _, _, _ => False
  | n + 1, a0, a1, a2, a3, a4, i0, j0, w => isK w a0 11 ∧ isK w (wR w a0 1) 25 ∧ (((Int32.ofNat (wn w (wR w a0 1))) ≤ a4 → E114 a0 a1 a2 a3 i0 j0 w) ∧ (¬ (Int32.ofNat (wn w (wR w a0 1))) ≤ a4 → (i0 + 1 ≤ mc ∧ j0 + 5 ≤ ms) ∧ ∀ r69 w70, r69 = wN w → w70 = wA w 5 0 → ∃ c75 s76, ((i0 + 1) + c75 ≤ mc ∧ (j0 + 5) + s76 ≤ ms) ∧ w_X5_init c75 s76 r69 a1 (fun w73 => isK w73 (wR w a0 1) 25 ∧ isK w73 r69 5 ∧ vp_in a4 (wn w73 (wR w a0 1)) ∧ l_X11_init_83 mc ms E114 K n a0 a1 a2 a3 (a4 + 1) ((i0 + 1) + c75) ((j0 + 5) + s76) (uR w73 (wR w a0 1) a4.toNatClampNeg r69)) w70))
def l_X11_init_117 (mc ms : Nat) (E147 : Nat → Nat → Nat → Nat → Nat → Nat → Wd → Prop) (K : Wd → Prop) : Nat → Nat → Nat → Nat → Nat → Int32 → Nat → Nat → Wd → Prop
  | 0, _, _, _, _, _, _, _, _ => False
  | n + 1, a0, a1, a2, a3, a4, i0, j0, w => isK w a0 11 ∧ isK w (wR w a0 2) 26 ∧ (((Int32.ofNat (wn w (wR w a0 2))) ≤ a4 → E147 a0 a1 a2 a3 i0 j0 w) ∧ (¬ (Int32.ofNat (wn w (wR w a0 2))) ≤ a4 → (i0 + 1 ≤ mc ∧ j0 + 4 ≤ ms) ∧ ∀ r92 w93, r92 = wN w → w93 = wA w 10 0 → ((i0 + 1) + 1 ≤ mc ∧ (j0 + 4) + 30 ≤ ms) ∧ w_X10_init 1 30 r92 (fun w96 => isK w96 (wR w a0 2) 26 ∧ isK w96 r92 10 ∧ vp_in a4 (wn w96 (wR w a0 2)) ∧ l_X11_init_117 mc ms E147 K n a0 a1 a2 a3 (a4 + 1) ((i0 + 1) + 1) ((j0 + 4) + 30) (uR w96 (wR w a0 2) a4.toNatClampNeg r92)) w93))
def w_X11_init (mc ms : Nat) (a0 : Nat) (K : Wd → Prop) (w : Wd) : Prop :=
  (1 ≤ mc ∧ 3 ≤ ms) ∧ ∀ r2 w3, r2 = wN w → w3 = wA w 25 3 → isK w3 a0 11 ∧ r2 ≠ 0 ∧ (2 ≤ mc ∧ 7 ≤ ms) ∧ ∀ r9 w10, r9 = wN (uR w3 a0 1 r2) → w10 = wA (uR w3 a0 1 r2) 26 4 → isK w10 a0 11 ∧ r9 ≠ 0 ∧ (3 ≤ mc ∧ 13 ≤ ms) ∧ ∀ r16 w17, r16 = wN (uR w10 a0 2 r9) → w17 = wA (uR w10 a0 2 r9) 8 0 → (6 ≤ mc ∧ 391 ≤ ms) ∧ w_X8_init 3 378 r16 (fun w20 => isK w20 a0 11 ∧ r16 ≠ 0 ∧ (7 ≤ mc ∧ 396 ≤ ms) ∧ ∀ r25 w26, r25 = wN (uR w20 a0 7 r16) → w26 = wA (uR w20 a0 7 r16) 9 0 → (8 ≤ mc ∧ 1045 ≤ ms) ∧ w_X9_init 1 649 r25 (fun w29 => isK w29 a0 11 ∧ r25 ≠ 0 ∧ (9 ≤ mc ∧ 1058 ≤ ms) ∧ ∀ r34 w35, r34 = wN (uR w29 a0 9 r25) → w35 = wA (uR w29 a0 9 r25) 1 0 → (17 ≤ mc ∧ 1130 ≤ ms) ∧ w_X1_init 8 72 r34 (fun w38 => (18 ≤ mc ∧ 1135 ≤ ms) ∧ ∀ r41 w42, r41 = wN w38 → w42 = wA w38 2 0 → (20 ≤ mc ∧ 1155 ≤ ms) ∧ w_X2_init 2 20 r41 r34 (fun w45 => (21 ≤ mc ∧ 1161 ≤ ms) ∧ ∀ r48 w49, r48 = wN w45 → w49 = wA w45 4 0 → (25 ≤ mc ∧ 1253 ≤ ms) ∧ w_X4_init 4 92 r48 r41 (fun w52 => (26 ≤ mc ∧ 1258 ≤ ms) ∧ ∀ r55 w56, r55 = wN w52 → w56 = wA w52 5 0 → ∃ c61 s62, (26 + c61 ≤ mc ∧ 1258 + s62 ≤ ms) ∧ w_X5_init c61 s62 r55 r34 (fun w59 => isK w59 a0 11 ∧ r55 ≠ 0 ∧ ∃ n140, l_X11_init_83 mc ms (fun b80 b81 b82 b83 i85 j86 w84 => ∃ n139, l_X11_init_117 mc ms (fun b101 b102 b103 b104 i106 j107 w105 => isK w105 b101 11 ∧ b103 ≠ 0 ∧ (i106 + 1 ≤ mc ∧ j107 + 13 ≤ ms) ∧ ∀ r112 w113, r112 = wN (uR w105 b101 3 b103) → w113 = wA (uR w105 b101 3 b103) 7 0 → ((i106 + 1) + 2 ≤ mc ∧ (j107 + 13) + 1800 ≤ ms) ∧ w_X7_init 2 1800 r112 b102 (fun w116 => isK w116 b101 11 ∧ r112 ≠ 0 ∧ b104 ≠ 0 ∧ (((i106 + 1) + 2) + 1 ≤ mc ∧ ((j107 + 13) + 1800) + 1 ≤ ms) ∧ ∀ r122 w123, r122 = wN (uR (uR w116 b101 4 r112) b101 5 b104) → w123 = wA (uR (uR w116 b101 4 r112) b101 5 b104) 0 0 → ((((i106 + 1) + 2) + 1) + 0 ≤ mc ∧ (((j107 + 13) + 1800) + 1) + 0 ≤ ms) ∧ w_X0_init 0 0 r122 b104 (fun w126 => isK w126 b101 11 ∧ r122 ≠ 0 ∧ (((((i106 + 1) + 2) + 1) + 0) + 1 ≤ mc ∧ ((((j107 + 13) + 1800) + 1) + 0) + 4 ≤ ms) ∧ ∀ r131 w132, r131 = wN (uR w126 b101 6 r122) → w132 = wA (uR w126 b101 6 r122) 6 0 → ((((((i106 + 1) + 2) + 1) + 0) + 1) + 2 ≤ mc ∧ (((((j107 + 13) + 1800) + 1) + 0) + 4) + 70 ≤ ms) ∧ w_X6_init 2 70 r131 b104 b103 (fun w135 => isK w135 b101 11 ∧ r131 ≠ 0 ∧ K (uR w135 b101 8 r131)) w132) w123) w113) K n139 b80 b81 b82 b83 0 i85 j86 w84) K n140 a0 r34 r41 r48 0 (26 + c61) (1258 + s62) (uR w59 a0 0 r55)) w56) w49) w42) w35) w26) w17
theorem t_X11_init_83 (C : xC x p s m c cX11_init 5 args RX11) (hlk : meth.locks = false) (hr : meth.sig.returnType = none) (hnm : meth.name = "<init>") {mc ms : Nat} {K : Wd → Prop} {E114 : Nat → Nat → Nat → Nat → Nat → Nat → Wd → Prop} (hE114 : ∀ (b0 : Nat) (b1 : Nat) (b2 : Nat) (b3 : Nat) (i0 j0 : Nat) (w : Wd), i0 ≤ mc ∧ j0 ≤ ms → E114 b0 b1 b2 b3 i0 j0 w → GW x p l e (rmd 3 mc ms) s m args below meth c 5 (QV x K below args s mc ms) 114 [(0, .ref (adr x b0)), (1, .ref (adr x b1)), (2, .ref (adr x b2)), (3, .ref (adr x b3))] [] w i0 j0) : ∀ (n : Nat) (a0 : Nat) (a1 : Nat) (a2 : Nat) (a3 : Nat) (a4 : Int32) (i0 j0 : Nat) (w : Wd), i0 ≤ mc ∧ j0 ≤ ms → l_X11_init_83 mc ms E114 K n a0 a1 a2 a3 a4 i0 j0 w → GW x p l e (rmd 3 mc ms) s m args below meth c 5 (QV x K below args s mc ms) 83 [(0, .ref (adr x a0)), (1, .ref (adr x a1)), (2, .ref (adr x a2)), (3, .ref (adr x a3)), (4, .int a4)] [] w i0 j0 := by
  intro n
  induction n with
  | zero => intro _ _ _ _ _ _ _ _ _ h; exact False.elim h
  | succ n ih =>
    intro a0 a1 a2 a3 a4 i0 j0 w hb h
    refine g_iload (pc := 83) C dX11_init_83 (q := 4) rfl ?_
    refine g_aload_n (pc := 85) C dX11_init_85 (q := 0) rfl ?_
    obtain ⟨k65, h⟩ := h
    obtain ⟨k66, h⟩ := h
    refine gfX11_11 (pc := 86) C k65 (isK_ne k66) dX11_init_86 ?_
    refine g_alen (pc := 89) C k66 (by decide) dX11_init_89 ?_
    refine g_icmp_ge (pc := 90) C dX11_init_90 (tgt := 114) rfl (fun z67 => ?_) (fun z67 => ?_)
    · replace h := h.1 z67
      refine g_sub [0, 1, 2, 3] rfl ?_
      exact hE114 _ _ _ _ _ _ _ hb h
    · replace h := h.2 z67
      refine g_aload_n (pc := 93) C dX11_init_93 (q := 0) rfl ?_
      refine gfX11_11 (pc := 94) C k65 (isK_ne k66) dX11_init_94 ?_
      refine g_iload (pc := 97) C dX11_init_97 (q := 4) rfl ?_
      obtain ⟨hb68, h⟩ := h
      refine nwX11_9 (pc := 99) C hb68 dX11_init_99 (fun r69 w70 e71 e72 => ?_)
      replace h := h r69 w70 e71 e72
      refine g_dup (pc := 102) C dX11_init_102 rfl ?_
      refine g_aload_n (pc := 103) C dX11_init_103 (q := 1) rfl ?_
      obtain ⟨c75, s76, hb74, h⟩ := h
      refine maX11_48 (pc := 104) C h (Nat.le_of_ble_eq_true rfl) (Nat.le_of_ble_eq_true rfl) hb74 dX11_init_104 (fun w73 h => ?_)
      obtain ⟨k77, h⟩ := h
      obtain ⟨k78, h⟩ := h
      obtain ⟨k79, h⟩ := h
      refine g_aast (pc := 107) C (t := 5) (ci := 5) k77 (Nat.le_of_ble_eq_true rfl) (Nat.le_of_ble_eq_true rfl) rfl k78 (Nat.le_of_ble_eq_true rfl) rfl k79 dX11_init_107 ?_
      refine g_iinc (pc := 108) C dX11_init_108 (q := 4) rfl (v2 := a4 + 1) rfl (Nat.le_of_ble_eq_true rfl) (lo' := [(4, .int (a4 + 1)), (0, .ref (adr x a0)), (1, .ref (adr x a1)), (2, .ref (adr x a2)), (3, .ref (adr x a3))]) rfl ?_
      refine g_goto (pc := 111) C dX11_init_111 (tgt := 83) rfl ?_
      refine g_sub [1, 2, 3, 4, 0] rfl ?_
      exact ih _ _ _ _ _ _ _ _ hb74 h
theorem t_X11_init_117 (C : xC x p s m c cX11_init 5 args RX11) (hlk : meth.locks = false) (hr : meth.sig.returnType = none) (hnm : meth.name = "<init>") {mc ms : Nat} {K : Wd → Prop} {E147 : Nat → Nat → Nat → Nat → Nat → Nat → Wd → Prop} (hE147 : ∀ (b0 : Nat) (b1 : Nat) (b2 : Nat) (b3 : Nat) (i0 j0 : Nat) (w : Wd), i0 ≤ mc ∧ j0 ≤ ms → E147 b0 b1 b2 b3 i0 j0 w → GW x p l e (rmd 3 mc ms) s m args below meth c 5 (QV x K below args s mc ms) 147 [(0, .ref (adr x b0)), (1, .ref (adr x b1)), (2, .ref (adr x b2)), (3, .ref (adr x b3))] [] w i0 j0) : ∀ (n : Nat) (a0 : Nat) (a1 : Nat) (a2 : Nat) (a3 : Nat) (a4 : Int32) (i0 j0 : Nat) (w : Wd), i0 ≤ mc ∧ j0 ≤ ms → l_X11_init_117 mc ms E147 K n a0 a1 a2 a3 a4 i0 j0 w → GW x p l e (rmd 3 mc ms) s m args below meth c 5 (QV x K below args s mc ms) 117 [(0, .ref (adr x a0)), (1, .ref (adr x a1)), (2, .ref (adr x a2)), (3, .ref (adr x a3)), (4, .int a4)] [] w i0 j0 := by
  intro n
  induction n with
  | zero => intro _ _ _ _ _ _ _ _ _ h; exact False.elim h
  | succ n ih =>
    intro a0 a1 a2 a3 a4 i0 j0 w hb h
    refine g_iload (pc := 117) C dX11_init_117 (q := 4) rfl ?_
    refine g_aload_n (pc := 119) C dX11_init_119 (q := 0) rfl ?_
    obtain ⟨k88, h⟩ := h
    obtain ⟨k89, h⟩ := h
    refine gfX11_17 (pc := 120) C k88 (isK_ne k89) dX11_init_120 ?_
    refine g_alen (pc := 123) C k89 (by decide) dX11_init_123 ?_
    refine g_icmp_ge (pc := 124) C dX11_init_124 (tgt := 147) rfl (fun z90 => ?_) (fun z90 => ?_)
    · replace h := h.1 z90
      refine g_sub [0, 1, 2, 3] rfl ?_
      exact hE147 _ _ _ _ _ _ _ hb h
    · replace h := h.2 z90
      refine g_aload_n (pc := 127) C dX11_init_127 (q := 0) rfl ?_
      refine gfX11_17 (pc := 128) C k88 (isK_ne k89) dX11_init_128 ?_
      refine g_iload (pc := 131) C dX11_init_131 (q := 4) rfl ?_
      obtain ⟨hb91, h⟩ := h
      refine nwX11_15 (pc := 133) C hb91 dX11_init_133 (fun r92 w93 e94 e95 => ?_)
      replace h := h r92 w93 e94 e95
      refine g_dup (pc := 136) C dX11_init_136 rfl ?_
      obtain ⟨hb97, h⟩ := h
      refine maX11_53 (pc := 137) C h (Nat.le_of_ble_eq_true rfl) (Nat.le_of_ble_eq_true rfl) hb97 dX11_init_137 (fun w96 h => ?_)
      obtain ⟨k98, h⟩ := h
      obtain ⟨k99, h⟩ := h
      obtain ⟨k100, h⟩ := h
      refine g_aast (pc := 140) C (t := 6) (ci := 10) k98 (Nat.le_of_ble_eq_true rfl) (Nat.le_of_ble_eq_true rfl) rfl k99 (Nat.le_of_ble_eq_true rfl) rfl k100 dX11_init_140 ?_
      refine g_iinc (pc := 141) C dX11_init_141 (q := 4) rfl (v2 := a4 + 1) rfl (Nat.le_of_ble_eq_true rfl) (lo' := [(4, .int (a4 + 1)), (0, .ref (adr x a0)), (1, .ref (adr x a1)), (2, .ref (adr x a2)), (3, .ref (adr x a3))]) rfl ?_
      refine g_goto (pc := 144) C dX11_init_144 (tgt := 117) rfl ?_
      refine g_sub [1, 2, 3, 4, 0] rfl ?_
      exact ih _ _ _ _ _ _ _ _ hb97 h
theorem c_X11_init {x : xG} {l : Launch} {a0 : Nat} {mc ms : Nat} {K : Wd → Prop} {w : Wd} (h : w_X11_init mc ms a0 K w) : Met l yX11_init (xws yX11_init cX11_init 5 none) (rmd 3 mc ms) (xPc x [.ref (adr x a0)] w) (QcV x K) mc ms (xA x) := by
  refine xMet (by decide) (Nat.le_of_ble_eq_true rfl) (fun p e s m below meth c C hlk hr hnm => ?_)
  show GW x p l e (rmd 3 mc ms) s m [.ref (adr x a0)].toArray below meth c 5 (QV x K below [.ref (adr x a0)].toArray s mc ms) 0 [(0, .ref (adr x a0))] [] w 0 0
  refine g_aload_n (pc := 0) C dX11_init_0 (q := 0) rfl ?_
  refine g_objI (pc := 1) C LOX11 LOi LOc dX11_init_1 (Nat.le_of_ble_eq_true rfl) (Nat.le_of_ble_eq_true rfl) ?_
  refine g_aload_n (pc := 4) C dX11_init_4 (q := 0) rfl ?_
  refine g_iconst (pc := 5) C dX11_init_5 (v := 3) rfl ?_
  obtain ⟨hb1, h⟩ := h
  refine g_newq (pc := 6) C (n := 3) rfl (t := 5) (Nat.le_of_ble_eq_true rfl) rfl (by decide) LCLX11_9 (by decide) (Nat.le_of_ble_eq_true rfl) hb1 dX11_init_6 (fun r2 w3 e4 e5 => ?_)
  replace h := h r2 w3 e4 e5
  obtain ⟨k6, h⟩ := h
  obtain ⟨k7, h⟩ := h
  refine pfX11_11 (pc := 9) C k6 k7 hnm dX11_init_9 ?_
  refine g_aload_n (pc := 12) C dX11_init_12 (q := 0) rfl ?_
  refine g_iconst (pc := 13) C dX11_init_13 (v := 4) rfl ?_
  obtain ⟨hb8, h⟩ := h
  refine g_newq (pc := 14) (w := uR w3 a0 1 r2) C (n := 4) rfl (t := 6) (Nat.le_of_ble_eq_true rfl) rfl (by decide) LCLX11_15 (by decide) (Nat.le_of_ble_eq_true rfl) hb8 dX11_init_14 (fun r9 w10 e11 e12 => ?_)
  replace h := h r9 w10 e11 e12
  obtain ⟨k13, h⟩ := h
  obtain ⟨k14, h⟩ := h
  refine pfX11_17 (pc := 17) C k13 k14 hnm dX11_init_17 ?_
  refine g_aload_n (pc := 20) C dX11_init_20 (q := 0) rfl ?_
  obtain ⟨hb15, h⟩ := h
  refine nwX11_21 (pc := 21) (w := uR w10 a0 2 r9) C hb15 dX11_init_21 (fun r16 w17 e18 e19 => ?_)
  replace h := h r16 w17 e18 e19
  refine g_dup (pc := 24) C dX11_init_24 rfl ?_
  obtain ⟨hb21, h⟩ := h
  refine maX11_23 (pc := 25) C h (Nat.le_of_ble_eq_true rfl) (Nat.le_of_ble_eq_true rfl) hb21 dX11_init_25 (fun w20 h => ?_)
  obtain ⟨k22, h⟩ := h
  obtain ⟨k23, h⟩ := h
  refine pfX11_24 (pc := 28) C k22 k23 hnm dX11_init_28 ?_
  refine g_aload_n (pc := 31) C dX11_init_31 (q := 0) rfl ?_
  obtain ⟨hb24, h⟩ := h
  refine nwX11_28 (pc := 32) (w := uR w20 a0 7 r16) C hb24 dX11_init_32 (fun r25 w26 e27 e28 => ?_)
  replace h := h r25 w26 e27 e28
  refine g_dup (pc := 35) C dX11_init_35 rfl ?_
  obtain ⟨hb30, h⟩ := h
  refine maX11_30 (pc := 36) C h (Nat.le_of_ble_eq_true rfl) (Nat.le_of_ble_eq_true rfl) hb30 dX11_init_36 (fun w29 h => ?_)
  obtain ⟨k31, h⟩ := h
  obtain ⟨k32, h⟩ := h
  refine pfX11_31 (pc := 39) C k31 k32 hnm dX11_init_39 ?_
  obtain ⟨hb33, h⟩ := h
  refine nwX11_35 (pc := 42) (w := uR w29 a0 9 r25) C hb33 dX11_init_42 (fun r34 w35 e36 e37 => ?_)
  replace h := h r34 w35 e36 e37
  refine g_dup (pc := 45) C dX11_init_45 rfl ?_
  obtain ⟨hb39, h⟩ := h
  refine maX11_37 (pc := 46) C h (Nat.le_of_ble_eq_true rfl) (Nat.le_of_ble_eq_true rfl) hb39 dX11_init_46 (fun w38 h => ?_)
  refine g_astore_n (pc := 49) C dX11_init_49 (Nat.le_of_ble_eq_true rfl) (lo' := [(1, .ref (adr x r34)), (0, .ref (adr x a0))]) rfl ?_
  obtain ⟨hb40, h⟩ := h
  refine nwX11_38 (pc := 50) C hb40 dX11_init_50 (fun r41 w42 e43 e44 => ?_)
  replace h := h r41 w42 e43 e44
  refine g_dup (pc := 53) C dX11_init_53 rfl ?_
  refine g_aload_n (pc := 54) C dX11_init_54 (q := 0) rfl ?_
  obtain ⟨hb46, h⟩ := h
  refine maX11_40 (pc := 55) C h (Nat.le_of_ble_eq_true rfl) (Nat.le_of_ble_eq_true rfl) hb46 dX11_init_55 (fun w45 h => ?_)
  refine g_astore_n (pc := 58) C dX11_init_58 (Nat.le_of_ble_eq_true rfl) (lo' := [(2, .ref (adr x r41)), (1, .ref (adr x r34)), (0, .ref (adr x a0))]) rfl ?_
  obtain ⟨hb47, h⟩ := h
  refine nwX11_43 (pc := 59) C hb47 dX11_init_59 (fun r48 w49 e50 e51 => ?_)
  replace h := h r48 w49 e50 e51
  refine g_dup (pc := 62) C dX11_init_62 rfl ?_
  refine g_aload_n (pc := 63) C dX11_init_63 (q := 0) rfl ?_
  obtain ⟨hb53, h⟩ := h
  refine maX11_45 (pc := 64) C h (Nat.le_of_ble_eq_true rfl) (Nat.le_of_ble_eq_true rfl) hb53 dX11_init_64 (fun w52 h => ?_)
  refine g_astore_n (pc := 67) C dX11_init_67 (Nat.le_of_ble_eq_true rfl) (lo' := [(3, .ref (adr x r48)), (2, .ref (adr x r41)), (1, .ref (adr x r34)), (0, .ref (adr x a0))]) rfl ?_
  refine g_aload_n (pc := 68) C dX11_init_68 (q := 3) rfl ?_
  obtain ⟨hb54, h⟩ := h
  refine nwX11_9 (pc := 69) C hb54 dX11_init_69 (fun r55 w56 e57 e58 => ?_)
  replace h := h r55 w56 e57 e58
  refine g_dup (pc := 72) C dX11_init_72 rfl ?_
  refine g_aload_n (pc := 73) C dX11_init_73 (q := 2) rfl ?_
  obtain ⟨c61, s62, hb60, h⟩ := h
  refine maX11_48 (pc := 74) C h (Nat.le_of_ble_eq_true rfl) (Nat.le_of_ble_eq_true rfl) hb60 dX11_init_74 (fun w59 h => ?_)
  obtain ⟨k63, h⟩ := h
  obtain ⟨k64, h⟩ := h
  refine pfX11_49 (pc := 77) C k63 k64 hnm dX11_init_77 ?_
  refine g_iconst (pc := 80) C dX11_init_80 (v := 0) rfl ?_
  refine g_istore (pc := 81) C dX11_init_81 (Nat.le_of_ble_eq_true rfl) (lo' := [(4, .int 0), (3, .ref (adr x r48)), (2, .ref (adr x r41)), (1, .ref (adr x r34)), (0, .ref (adr x a0))]) rfl ?_
  obtain ⟨n140, h⟩ := h
  refine g_sub [4, 3, 2, 1, 0] rfl ?_
  refine t_X11_init_83 C hlk hr hnm ?_ n140 _ _ _ _ _ _ _ _ hb60 h
  · intro b80 b81 b82 b83 i85 j86 w84 hb87 h
    refine g_iconst (pc := 114) C dX11_init_114 (v := 0) rfl ?_
    refine g_istore (pc := 115) C dX11_init_115 (Nat.le_of_ble_eq_true rfl) (lo' := [(4, .int 0), (0, .ref (adr x b80)), (1, .ref (adr x b81)), (2, .ref (adr x b82)), (3, .ref (adr x b83))]) rfl ?_
    obtain ⟨n139, h⟩ := h
    refine g_sub [1, 2, 3, 4, 0] rfl ?_
    refine t_X11_init_117 C hlk hr hnm ?_ n139 _ _ _ _ _ _ _ _ hb87 h
    · intro b101 b102 b103 b104 i106 j107 w105 hb108 h
      refine g_aload_n (pc := 147) C dX11_init_147 (q := 0) rfl ?_
      refine g_aload_n (pc := 148) C dX11_init_148 (q := 2) rfl ?_
      obtain ⟨k109, h⟩ := h
      obtain ⟨k110, h⟩ := h
      refine pfX11_54 (pc := 149) C k109 k110 hnm dX11_init_149 ?_
      refine g_aload_n (pc := 152) C dX11_init_152 (q := 0) rfl ?_
      obtain ⟨hb111, h⟩ := h
      refine nwX11_58 (pc := 153) (w := uR w105 b101 3 b103) C hb111 dX11_init_153 (fun r112 w113 e114 e115 => ?_)
      replace h := h r112 w113 e114 e115
      refine g_dup (pc := 156) C dX11_init_156 rfl ?_
      refine g_aload_n (pc := 157) C dX11_init_157 (q := 1) rfl ?_
      obtain ⟨hb117, h⟩ := h
      refine maX11_60 (pc := 158) C h (Nat.le_of_ble_eq_true rfl) (Nat.le_of_ble_eq_true rfl) hb117 dX11_init_158 (fun w116 h => ?_)
      obtain ⟨k118, h⟩ := h
      obtain ⟨k119, h⟩ := h
      refine pfX11_61 (pc := 161) C k118 k119 hnm dX11_init_161 ?_
      refine g_aload_n (pc := 164) C dX11_init_164 (q := 0) rfl ?_
      refine g_aload_n (pc := 165) C dX11_init_165 (q := 3) rfl ?_
      obtain ⟨k120, h⟩ := h
      refine pfX11_65 (pc := 166) (w := uR w116 b101 4 r112) C k118 k120 hnm dX11_init_166 ?_
      refine g_aload_n (pc := 169) C dX11_init_169 (q := 0) rfl ?_
      obtain ⟨hb121, h⟩ := h
      refine nwX11_69 (pc := 170) (w := uR (uR w116 b101 4 r112) b101 5 b104) C hb121 dX11_init_170 (fun r122 w123 e124 e125 => ?_)
      replace h := h r122 w123 e124 e125
      refine g_dup (pc := 173) C dX11_init_173 rfl ?_
      refine g_aload_n (pc := 174) C dX11_init_174 (q := 3) rfl ?_
      obtain ⟨hb127, h⟩ := h
      refine maX11_71 (pc := 175) C h (Nat.le_of_ble_eq_true rfl) (Nat.le_of_ble_eq_true rfl) hb127 dX11_init_175 (fun w126 h => ?_)
      obtain ⟨k128, h⟩ := h
      obtain ⟨k129, h⟩ := h
      refine pfX11_74 (pc := 178) C k128 k129 hnm dX11_init_178 ?_
      refine g_aload_n (pc := 181) C dX11_init_181 (q := 0) rfl ?_
      obtain ⟨hb130, h⟩ := h
      refine nwX11_78 (pc := 182) (w := uR w126 b101 6 r122) C hb130 dX11_init_182 (fun r131 w132 e133 e134 => ?_)
      replace h := h r131 w132 e133 e134
      refine g_dup (pc := 185) C dX11_init_185 rfl ?_
      refine g_aload_n (pc := 186) C dX11_init_186 (q := 3) rfl ?_
      refine g_aload_n (pc := 187) C dX11_init_187 (q := 2) rfl ?_
      obtain ⟨hb136, h⟩ := h
      refine maX11_80 (pc := 188) C h (Nat.le_of_ble_eq_true rfl) (Nat.le_of_ble_eq_true rfl) hb136 dX11_init_188 (fun w135 h => ?_)
      obtain ⟨k137, h⟩ := h
      obtain ⟨k138, h⟩ := h
      refine pfX11_83 (pc := 191) C k137 k138 hnm dX11_init_191 ?_
      exact g_vret (pc := 194) C hlk hr hb136.1 hb136.2 dX11_init_194 h
theorem miX11_218 (C : xC x p s m c cc nL args RX11) {a0 : Nat} {a1 : Int32} {K : Int64 → Wd → Prop} {D MC MS : Nat} (hq : isK w a0 10) (h : w_X10_numberAt a0 a1 K w) (hD : 0 + 1 ≤ D) (hW : (st.map fun v => v.category).sum ≤ 8) (hij : i ≤ MC ∧ j ≤ MS) (hd : decode cc pc = .ok (.invokevirtual 218, 3)) (k : ∀ (r : Int64) (u : Wd), K r u → GW x p l e (rmd D MC MS) s m args below meth c nL Q (pc + 3) lo (.long r :: st) u i j) : GW x p l e (rmd D MC MS) s m args below meth c nL Q pc lo (.int a1 :: .ref (adr x a0) :: st) w i j := g_callVl0 C (As := [.int a1]) (ci := 10) (c_X10_numberAt h) (x_cwV C 1 LMX11_218 ⟨rfl, by decide, by decide, rfl⟩ hD (by decide)) rfl hq (by decide) rfl rfl hW hd hij k
def l_X11_judge_35 (mc ms : Nat) (X : String → Wd → Prop) (E96 : Nat → Int32 → Int32 → Int32 → Nat → Nat → Wd → Prop) (K : Int32 → Wd → Prop) : Nat → Nat → Int32 → Nat → Int32 → Int32 → Int32 → Nat → Nat → Wd → Prop
  | 0, _, _, _, _, _, _, _, _, _ => False
  | n + 1, a0, a2, a3, a4, a5, a6, i0, j0, w => isK w a3 10 ∧ (((wI w a3 1) ≤ a6 → E96 a0 a2 a4 a5 i0 j0 w) ∧ (¬ (wI w a3 1) ≤ a6 → ((a5 = 0 → w_X10_numberAt a3 a6 (fun r15 w16 => isK w16 a0 11 ∧ isK w16 (wR w16 a0 3) 2 ∧ w_X0_whyNotTold (wR w16 a0 3) r15 (fun r19 w20 => ((r19 = 0 → isK w20 a0 11 ∧ isK w20 (wR w20 a0 6) 0 ∧ isK w20 (wR w20 a0 3) 2 ∧ w_X0_carryOut (wR w20 a0 6) (wR w20 a0 3) r15 (fun w25 => l_X11_judge_35 mc ms X E96 K n a0 a2 a3 a6 r19 (a6 + 1) i0 j0 w25) w20) ∧ (¬ r19 = 0 → l_X11_judge_35 mc ms X E96 K n a0 a2 a3 a6 r19 (a6 + 1) i0 j0 w20))) w16) w) ∧ (¬ a5 = 0 → E96 a0 a2 a4 a5 i0 j0 w))))
def j_X11_judge_96 (mc ms : Nat) (X : String → Wd → Prop)  (K : Int32 → Wd → Prop) (a0 : Nat) (a2 : Int32) (a4 : Int32) (a5 : Int32) (i0 j0 : Nat) (w : Wd) : Prop :=
  ((a2 = 0 → ((a5 = 0 → K (-1) w) ∧ (¬ a5 = 0 → K a4 w))) ∧ (¬ a2 = 0 → ((a2 = 1 → K a5 w) ∧ (¬ a2 = 1 → ((a2 = 2 → isK w a0 11 ∧ isK w (wR w a0 3) 2 ∧ w_X2_allWater (wR w a0 3) (fun r40 w41 => K r40 w41) w) ∧ (¬ a2 = 2 → isK w a0 11 ∧ isK w (wR w a0 3) 2 ∧ w_X2_awakeBits (wR w a0 3) (fun r44 w45 => K r44 w45) w))))))
def w_X11_judge (mc ms : Nat) (a0 : Nat) (a1 : Int32) (a2 : Int32) (K : Int32 → Wd → Prop) (X : String → Wd → Prop) (w : Wd) : Prop :=
  isK w a0 11 ∧ (2 ≤ mc ∧ 12 ≤ ms) ∧ w_X11_presentTray 2 12 a0 a1 (fun r2 w3 => (3 ≤ mc ∧ 18 ≤ ms) ∧ w_X11_needWithin 1 6 a2 0 3 (fun w5 => isK w5 a0 11 ∧ isK w5 (wR w5 a0 3) 2 ∧ isK w5 (wR w5 a0 0) 5 ∧ isK w5 (wR w5 (wR w5 a0 0) 0) 2 ∧ w_X2_become (wR w5 a0 3) (wR w5 (wR w5 a0 0) 0) (fun w11 => ∃ n49, l_X11_judge_35 mc ms X (fun b26 b27 b28 b29 i31 j32 w30 => j_X11_judge_96 mc ms X K b26 b27 b28 b29 i31 j32 w30) K n49 a0 a2 r2 0 0 0 3 18 w11) w5) X w3) X w
theorem t_X11_judge_35 (C : xC x p s m c cX11_judge 9 args RX11) (hlk : meth.locks = false) (hr : meth.sig.returnType = some .int) (hl : l.stackTraces = false) (htab : ∀ z ∈ c.exceptionTable.toList, False) {mc ms : Nat} {X : String → Wd → Prop} {K : Int32 → Wd → Prop} {E96 : Nat → Int32 → Int32 → Int32 → Nat → Nat → Wd → Prop} (hE96 : ∀ (b0 : Nat) (b2 : Int32) (b4 : Int32) (b5 : Int32) (i0 j0 : Nat) (w : Wd), i0 ≤ mc ∧ j0 ≤ ms → E96 b0 b2 b4 b5 i0 j0 w → GW x p l e (rmd 8 mc ms) s m args below meth c 9 (vx_MQ below (QcI x K) (XCx x X) args s mc ms (xA x)) 96 [(0, .ref (adr x b0)), (2, .int b2), (4, .int b4), (5, .int b5)] [] w i0 j0) : ∀ (n : Nat) (a0 : Nat) (a2 : Int32) (a3 : Nat) (a4 : Int32) (a5 : Int32) (a6 : Int32) (i0 j0 : Nat) (w : Wd), i0 ≤ mc ∧ j0 ≤ ms → l_X11_judge_35 mc ms X E96 K n a0 a2 a3 a4 a5 a6 i0 j0 w → GW x p l e (rmd 8 mc ms) s m args below meth c 9 (vx_MQ below (QcI x K) (XCx x X) args s mc ms (xA x)) 35 [(0, .ref (adr x a0)), (2, .int a2), (3, .ref (adr x a3)), (4, .int a4), (5, .int a5), (6, .int a6)] [] w i0 j0 := by
  intro n
  induction n with
  | zero => intro _ _ _ _ _ _ _ _ _ _ h; exact False.elim h
  | succ n ih =>
    intro a0 a2 a3 a4 a5 a6 i0 j0 w hb h
    refine g_iload (pc := 35) C dX11_judge_35 (q := 5) rfl ?_
    refine g_aload_n (pc := 37) C dX11_judge_37 (q := 2) rfl ?_
    obtain ⟨k12, h⟩ := h
    refine gfX11_215 (pc := 38) C k12 dX11_judge_38 ?_
    refine g_icmp_ge (pc := 41) C dX11_judge_41 (tgt := 96) rfl (fun z13 => ?_) (fun z13 => ?_)
    · replace h := h.1 z13
      refine g_sub [0, 1, 3, 4] rfl ?_
      exact hE96 _ _ _ _ _ _ _ hb h
    · replace h := h.2 z13
      refine g_iload (pc := 44) C dX11_judge_44 (q := 4) rfl ?_
      refine g_if_ne (pc := 46) C dX11_judge_46 (tgt := 96) rfl (fun z14 => ?_) (fun z14 => ?_)
      · replace h := h.2 z14
        refine g_sub [0, 1, 3, 4] rfl ?_
        exact hE96 _ _ _ _ _ _ _ hb h
      · replace h := h.1 z14
        refine g_aload_n (pc := 49) C dX11_judge_49 (q := 2) rfl ?_
        refine g_iload (pc := 50) C dX11_judge_50 (q := 5) rfl ?_
        refine miX11_218 (pc := 52) C k12 h (Nat.le_of_ble_eq_true rfl) (Nat.le_of_ble_eq_true rfl) hb dX11_judge_52 (fun r15 w16 h => ?_)
        refine g_lstore (pc := 55) C dX11_judge_55 (Nat.le_of_ble_eq_true rfl) (lo' := [(7, .long r15), (0, .ref (adr x a0)), (2, .int a2), (3, .ref (adr x a3)), (4, .int a4), (5, .int a5), (6, .int a6)]) rfl ?_
        refine g_iload (pc := 57) C dX11_judge_57 (q := 6) rfl ?_
        refine g_istore (pc := 59) C dX11_judge_59 (Nat.le_of_ble_eq_true rfl) (lo' := [(4, .int a6), (7, .long r15), (0, .ref (adr x a0)), (2, .int a2), (3, .ref (adr x a3)), (5, .int a5), (6, .int a6)]) rfl ?_
        refine g_aload_n (pc := 61) C dX11_judge_61 (q := 2) rfl ?_
        obtain ⟨k17, h⟩ := h
        obtain ⟨k18, h⟩ := h
        refine gfX11_54 (pc := 62) C k17 (isK_ne k18) dX11_judge_62 ?_
        refine g_lload (pc := 65) C dX11_judge_65 (q := 1) rfl ?_
        refine miX11_222 (pc := 67) C h (Nat.le_of_ble_eq_true rfl) (Nat.le_of_ble_eq_true rfl) hb dX11_judge_67 (fun r19 w20 h => ?_)
        refine g_istore (pc := 70) C dX11_judge_70 (Nat.le_of_ble_eq_true rfl) (lo' := [(5, .int r19), (4, .int a6), (7, .long r15), (0, .ref (adr x a0)), (2, .int a2), (3, .ref (adr x a3)), (6, .int a6)]) rfl ?_
        refine g_iload (pc := 72) C dX11_judge_72 (q := 0) rfl ?_
        refine g_if_ne (pc := 74) C dX11_judge_74 (tgt := 90) rfl (fun z21 => ?_) (fun z21 => ?_)
        · replace h := h.2 z21
          refine g_iinc (pc := 90) C dX11_judge_90 (q := 6) rfl (v2 := a6 + 1) rfl (Nat.le_of_ble_eq_true rfl) (lo' := [(6, .int (a6 + 1)), (5, .int r19), (4, .int a6), (7, .long r15), (0, .ref (adr x a0)), (2, .int a2), (3, .ref (adr x a3))]) rfl ?_
          refine g_goto (pc := 93) C dX11_judge_93 (tgt := 35) rfl ?_
          refine g_sub [4, 5, 6, 2, 1, 0] rfl ?_
          exact ih _ _ _ _ _ _ _ _ _ hb h
        · replace h := h.1 z21
          refine g_aload_n (pc := 77) C dX11_judge_77 (q := 3) rfl ?_
          obtain ⟨k22, h⟩ := h
          obtain ⟨k23, h⟩ := h
          refine gfX11_74 (pc := 78) C k22 (isK_ne k23) dX11_judge_78 ?_
          refine g_aload_n (pc := 81) C dX11_judge_81 (q := 3) rfl ?_
          obtain ⟨k24, h⟩ := h
          refine gfX11_54 (pc := 82) C k22 (isK_ne k24) dX11_judge_82 ?_
          refine g_lload (pc := 85) C dX11_judge_85 (q := 2) rfl ?_
          refine miX11_226 (pc := 87) C k23 h (Nat.le_of_ble_eq_true rfl) (Nat.le_of_ble_eq_true rfl) hb dX11_judge_87 (fun w25 h => ?_)
          refine g_iinc (pc := 90) C dX11_judge_90 (q := 6) rfl (v2 := a6 + 1) rfl (Nat.le_of_ble_eq_true rfl) (lo' := [(6, .int (a6 + 1)), (5, .int r19), (4, .int a6), (7, .long r15), (0, .ref (adr x a0)), (2, .int a2), (3, .ref (adr x a3))]) rfl ?_
          refine g_goto (pc := 93) C dX11_judge_93 (tgt := 35) rfl ?_
          refine g_sub [4, 5, 6, 2, 1, 0] rfl ?_
          exact ih _ _ _ _ _ _ _ _ _ hb h
theorem t_X11_judge_96 (C : xC x p s m c cX11_judge 9 args RX11) (hlk : meth.locks = false) (hr : meth.sig.returnType = some .int) (hl : l.stackTraces = false) (htab : ∀ z ∈ c.exceptionTable.toList, False) {mc ms : Nat} {X : String → Wd → Prop} {K : Int32 → Wd → Prop}   (a0 : Nat) (a2 : Int32) (a4 : Int32) (a5 : Int32) (i0 j0 : Nat) (w : Wd) (hb : i0 ≤ mc ∧ j0 ≤ ms) (h : j_X11_judge_96 mc ms X K a0 a2 a4 a5 i0 j0 w) : GW x p l e (rmd 8 mc ms) s m args below meth c 9 (vx_MQ below (QcI x K) (XCx x X) args s mc ms (xA x)) 96 [(0, .ref (adr x a0)), (2, .int a2), (4, .int a4), (5, .int a5)] [] w i0 j0 := by
  refine g_iload_n (pc := 96) C dX11_judge_96 (q := 1) rfl ?_
  by_cases z34 : a2 = 0
  · replace h := h.1 z34
    refine g_tabIn (pc := 97) C dX11_judge_97 (by rw [z34]; decide) (by rw [z34]; decide) (off := 27) (by rw [z34]; rfl) (tgt := 124) rfl ?_
    refine g_iload (pc := 124) C dX11_judge_124 (q := 3) rfl ?_
    refine g_if_ne (pc := 126) C dX11_judge_126 (tgt := 133) rfl (fun z37 => ?_) (fun z37 => ?_)
    · replace h := h.2 z37
      refine g_iload (pc := 133) C dX11_judge_133 (q := 2) rfl ?_
      refine gx_ret ?_; exact g_iret (pc := 135) C hlk hr hb.1 hb.2 dX11_judge_135 h
    · replace h := h.1 z37
      refine g_iconst (pc := 129) C dX11_judge_129 (v := (-1)) rfl ?_
      refine g_goto (pc := 130) C dX11_judge_130 (tgt := 135) rfl ?_
      refine gx_ret ?_; exact g_iret (pc := 135) C hlk hr hb.1 hb.2 dX11_judge_135 h
  replace h := h.2 z34
  by_cases z35 : a2 = 1
  · replace h := h.1 z35
    refine g_tabIn (pc := 97) C dX11_judge_97 (by rw [z35]; decide) (by rw [z35]; decide) (off := 39) (by rw [z35]; rfl) (tgt := 136) rfl ?_
    refine g_iload (pc := 136) C dX11_judge_136 (q := 3) rfl ?_
    refine gx_ret ?_; exact g_iret (pc := 138) C hlk hr hb.1 hb.2 dX11_judge_138 h
  replace h := h.2 z35
  by_cases z36 : a2 = 2
  · replace h := h.1 z36
    refine g_tabIn (pc := 97) C dX11_judge_97 (by rw [z36]; decide) (by rw [z36]; decide) (off := 42) (by rw [z36]; rfl) (tgt := 139) rfl ?_
    refine g_aload_n (pc := 139) C dX11_judge_139 (q := 0) rfl ?_
    obtain ⟨k38, h⟩ := h
    obtain ⟨k39, h⟩ := h
    refine gfX11_54 (pc := 140) C k38 (isK_ne k39) dX11_judge_140 ?_
    refine miX11_169 (pc := 143) C k39 h (Nat.le_of_ble_eq_true rfl) (Nat.le_of_ble_eq_true rfl) hb dX11_judge_143 (fun r40 w41 h => ?_)
    refine gx_ret ?_; exact g_iret (pc := 146) C hlk hr hb.1 hb.2 dX11_judge_146 h
  replace h := h.2 z36
  have y46 := ne_toInt (n := 0) z34 (by decide)
  have y47 := ne_toInt (n := 1) z35 (by decide)
  have y48 := ne_toInt (n := 2) z36 (by decide)
  refine g_tabOut (pc := 97) C dX11_judge_97 (by omega) (tgt := 147) rfl ?_
  refine g_aload_n (pc := 147) C dX11_judge_147 (q := 0) rfl ?_
  obtain ⟨k42, h⟩ := h
  obtain ⟨k43, h⟩ := h
  refine gfX11_54 (pc := 148) C k42 (isK_ne k43) dX11_judge_148 ?_
  refine miX11_165 (pc := 151) C k43 h (Nat.le_of_ble_eq_true rfl) (Nat.le_of_ble_eq_true rfl) hb dX11_judge_151 (fun r44 w45 h => ?_)
  refine gx_ret ?_; exact g_iret (pc := 154) C hlk hr hb.1 hb.2 dX11_judge_154 h
theorem c_X11_judge {x : xG} {l : Launch} (hl : l.stackTraces = false) {a0 : Nat} {a1 : Int32} {a2 : Int32} {mc ms : Nat} {X : String → Wd → Prop} {K : Int32 → Wd → Prop} {w : Wd} (h : w_X11_judge mc ms a0 a1 a2 K X w) : vx_Met l yX11_judge (xws yX11_judge cX11_judge 9 (some .int)) (rmd 8 mc ms) (xPc x [.ref (adr x a0), .int a1, .int a2] w) (QcI x K) (XCx x X) mc ms (xA x) := by
  refine xMetX (by decide) (Nat.le_of_ble_eq_true rfl) (fun p e s m below meth c C hlk hr htab => ?_)
  show GW x p l e (rmd 8 mc ms) s m [.ref (adr x a0), .int a1, .int a2].toArray below meth c 9 (vx_MQ below (QcI x K) (XCx x X) [.ref (adr x a0), .int a1, .int a2].toArray s mc ms (xA x)) 0 [(0, .ref (adr x a0)), (1, .int a1), (2, .int a2)] [] w 0 0
  refine g_aload_n (pc := 0) C dX11_judge_0 (q := 0) rfl ?_
  refine g_iload_n (pc := 1) C dX11_judge_1 (q := 1) rfl ?_
  obtain ⟨k1, h⟩ := h
  obtain ⟨hb4, h⟩ := h
  refine mxX11_208 (pc := 2) C hl htab hlk k1 h (Nat.le_of_ble_eq_true rfl) (Nat.le_of_ble_eq_true rfl) hb4 dX11_judge_2 (fun r2 w3 h => ?_)
  refine g_astore_n (pc := 5) C dX11_judge_5 (Nat.le_of_ble_eq_true rfl) (lo' := [(3, .ref (adr x r2)), (0, .ref (adr x a0)), (1, .int a1), (2, .int a2)]) rfl ?_
  refine g_iload_n (pc := 6) C dX11_judge_6 (q := 3) rfl ?_
  refine g_iconst (pc := 7) C dX11_judge_7 (v := 0) rfl ?_
  refine g_iconst (pc := 8) C dX11_judge_8 (v := 3) rfl ?_
  obtain ⟨hb6, h⟩ := h
  refine mxX11_95 (pc := 9) C hl htab hlk h (Nat.le_of_ble_eq_true rfl) (Nat.le_of_ble_eq_true rfl) hb6 dX11_judge_9 (fun w5 h => ?_)
  refine g_aload_n (pc := 12) C dX11_judge_12 (q := 1) rfl ?_
  obtain ⟨k7, h⟩ := h
  obtain ⟨k8, h⟩ := h
  refine gfX11_54 (pc := 13) C k7 (isK_ne k8) dX11_judge_13 ?_
  refine g_aload_n (pc := 16) C dX11_judge_16 (q := 1) rfl ?_
  obtain ⟨k9, h⟩ := h
  refine gfX11_49 (pc := 17) C k7 (isK_ne k9) dX11_judge_17 ?_
  obtain ⟨k10, h⟩ := h
  refine gfX11_122 (pc := 20) C k9 (isK_ne k10) dX11_judge_20 ?_
  refine miX11_212 (pc := 23) C k8 h (Nat.le_of_ble_eq_true rfl) (Nat.le_of_ble_eq_true rfl) hb6 dX11_judge_23 (fun w11 h => ?_)
  refine g_iconst (pc := 26) C dX11_judge_26 (v := 0) rfl ?_
  refine g_istore (pc := 27) C dX11_judge_27 (Nat.le_of_ble_eq_true rfl) (lo' := [(4, .int 0), (3, .ref (adr x r2)), (0, .ref (adr x a0)), (1, .int a1), (2, .int a2)]) rfl ?_
  refine g_iconst (pc := 29) C dX11_judge_29 (v := 0) rfl ?_
  refine g_istore (pc := 30) C dX11_judge_30 (Nat.le_of_ble_eq_true rfl) (lo' := [(5, .int 0), (4, .int 0), (3, .ref (adr x r2)), (0, .ref (adr x a0)), (1, .int a1), (2, .int a2)]) rfl ?_
  refine g_iconst (pc := 32) C dX11_judge_32 (v := 0) rfl ?_
  refine g_istore (pc := 33) C dX11_judge_33 (Nat.le_of_ble_eq_true rfl) (lo' := [(6, .int 0), (5, .int 0), (4, .int 0), (3, .ref (adr x r2)), (0, .ref (adr x a0)), (1, .int a1), (2, .int a2)]) rfl ?_
  obtain ⟨n49, h⟩ := h
  refine g_sub [4, 6, 3, 2, 1, 0] rfl ?_
  refine t_X11_judge_35 C hlk hr hl htab ?_ n49 _ _ _ _ _ _ _ _ _ hb6 h
  · intro b26 b27 b28 b29 i31 j32 w30 hb33 h
    exact t_X11_judge_96 C hlk hr hl htab  _ _ _ _ _ _ _ hb33 h
theorem miX11_297 (C : xC x p s m c cc nL args RX11) {a0 : Nat} {a1 : Int32} {a2 : Int32} {K : Int32 → Wd → Prop} {D MC MS : Nat} (hq : isK w a0 4) (h : w_X4_awakeOnesThatWake a0 a1 a2 K w) (hD : 4 + 1 ≤ D) (hW : (st.map fun v => v.category).sum ≤ 8) (hij : i ≤ MC ∧ j ≤ MS) (hd : decode cc pc = .ok (.invokevirtual 297, 3)) (k : ∀ (r : Int32) (u : Wd), K r u → GW x p l e (rmd D MC MS) s m args below meth c nL Q (pc + 3) lo (.int r :: st) u i j) : GW x p l e (rmd D MC MS) s m args below meth c nL Q pc lo (.int a2 :: .int a1 :: .ref (adr x a0) :: st) w i j := g_callVi0 C (As := [.int a1, .int a2]) (ci := 4) (c_X4_awakeOnesThatWake h) (x_cwV C 2 LMX11_297 ⟨rfl, by decide, by decide, rfl⟩ hD (by decide)) rfl hq (by decide) rfl rfl hW hd hij k
theorem miX11_300 (C : xC x p s m c cc nL args RX11) {a0 : Int32} {K : Int32 → Wd → Prop} {D MC MS : Nat} (h : w_J6_numberOfTrailingZeros_0f7a4 a0 K w) (hD : 0 + 1 ≤ D) (hW : (st.map fun v => v.category).sum ≤ 8) (hij : i ≤ MC ∧ j ≤ MS) (hd : decode cc pc = .ok (.invokestatic 300, 3)) (k : ∀ (r : Int32) (u : Wd), K r u → GW x p l e (rmd D MC MS) s m args below meth c nL Q (pc + 3) lo (.int r :: st) u i j) : GW x p l e (rmd D MC MS) s m args below meth c nL Q pc lo (.int a0 :: st) w i j := g_callSi0 C (As := [.int a0]) (c_J6_numberOfTrailingZeros_0f7a4 h) (x_cwS C 1 LMX11_300 ⟨by decide, by decide, rfl⟩ hD (by decide)) rfl rfl hW hd hij k
def l_X11_leastNoise_27 (mc ms : Nat) (X : String → Wd → Prop)  (K : Int32 → Wd → Prop) : Nat → Nat → Int32 → Int32 → Int32 → Nat → Nat → Wd → Prop
  | 0, _, _, _, _, _, _, _ => False
  | n + 1, a0, a1, a2, a3, i0, j0, w => ((99 < a3 → K (-1) w) ∧ (¬ 99 < a3 → isK w a0 11 ∧ isK w (wR w a0 5) 4 ∧ w_X4_awakeOnesThatWake (wR w a0 5) a1 a3 (fun r14 w15 => ((r14 = 0 → l_X11_leastNoise_27 mc ms X K n a0 a1 a2 (a3 + 1) i0 j0 w15) ∧ (¬ r14 = 0 → ((a2 = 0 → K a3 w15) ∧ (¬ a2 = 0 → w_J6_numberOfTrailingZeros_0f7a4 r14 (fun r18 w19 => K r18 w19) w15))))) w))
def w_X11_leastNoise (mc ms : Nat) (a0 : Nat) (a1 : Int32) (a2 : Int32) (K : Int32 → Wd → Prop) (X : String → Wd → Prop) (w : Wd) : Prop :=
  isK w a0 11 ∧ (1 ≤ mc ∧ 6 ≤ ms) ∧ w_X11_needWell 1 6 a0 a1 (fun w2 => (2 ≤ mc ∧ 12 ≤ ms) ∧ w_X11_needWithin 1 6 a2 0 1 (fun w4 => isK w4 a0 11 ∧ isK w4 (wR w4 a0 5) 4 ∧ isK w4 (wR w4 a0 0) 5 ∧ isK w4 (wR w4 (wR w4 a0 0) 0) 2 ∧ w_X4_over (wR w4 a0 5) (wR w4 (wR w4 a0 0) 0) (fun w10 => ∃ n20, l_X11_leastNoise_27 mc ms X  K n20 a0 a1 a2 0 2 12 w10) w4) X w2) X w
theorem t_X11_leastNoise_27 (C : xC x p s m c cX11_leastNoise 5 args RX11) (hlk : meth.locks = false) (hr : meth.sig.returnType = some .int) (hl : l.stackTraces = false) (htab : ∀ z ∈ c.exceptionTable.toList, False) {mc ms : Nat} {X : String → Wd → Prop} {K : Int32 → Wd → Prop}   : ∀ (n : Nat) (a0 : Nat) (a1 : Int32) (a2 : Int32) (a3 : Int32) (i0 j0 : Nat) (w : Wd), i0 ≤ mc ∧ j0 ≤ ms → l_X11_leastNoise_27 mc ms X K n a0 a1 a2 a3 i0 j0 w → GW x p l e (rmd 7 mc ms) s m args below meth c 5 (vx_MQ below (QcI x K) (XCx x X) args s mc ms (xA x)) 27 [(0, .ref (adr x a0)), (1, .int a1), (2, .int a2), (3, .int a3)] [] w i0 j0 := by
  intro n
  induction n with
  | zero => intro _ _ _ _ _ _ _ _ h; exact False.elim h
  | succ n ih =>
    intro a0 a1 a2 a3 i0 j0 w hb h
    refine g_iload_n (pc := 27) C dX11_leastNoise_27 (q := 3) rfl ?_
    refine g_bipush (pc := 28) C dX11_leastNoise_28 (v := 99) rfl ?_
    refine g_icmp_gt (pc := 30) C dX11_leastNoise_30 (tgt := 69) rfl (fun z11 => ?_) (fun z11 => ?_)
    · replace h := h.1 z11
      refine g_iconst (pc := 69) C dX11_leastNoise_69 (v := (-1)) rfl ?_
      refine gx_ret ?_; exact g_iret (pc := 70) C hlk hr hb.1 hb.2 dX11_leastNoise_70 h
    · replace h := h.2 z11
      refine g_aload_n (pc := 33) C dX11_leastNoise_33 (q := 0) rfl ?_
      obtain ⟨k12, h⟩ := h
      obtain ⟨k13, h⟩ := h
      refine gfX11_65 (pc := 34) C k12 (isK_ne k13) dX11_leastNoise_34 ?_
      refine g_iload_n (pc := 37) C dX11_leastNoise_37 (q := 1) rfl ?_
      refine g_iload_n (pc := 38) C dX11_leastNoise_38 (q := 3) rfl ?_
      refine miX11_297 (pc := 39) C k13 h (Nat.le_of_ble_eq_true rfl) (Nat.le_of_ble_eq_true rfl) hb dX11_leastNoise_39 (fun r14 w15 h => ?_)
      refine g_istore (pc := 42) C dX11_leastNoise_42 (Nat.le_of_ble_eq_true rfl) (lo' := [(4, .int r14), (0, .ref (adr x a0)), (1, .int a1), (2, .int a2), (3, .int a3)]) rfl ?_
      refine g_iload (pc := 44) C dX11_leastNoise_44 (q := 0) rfl ?_
      refine g_if_eq (pc := 46) C dX11_leastNoise_46 (tgt := 63) rfl (fun z16 => ?_) (fun z16 => ?_)
      · replace h := h.1 z16
        refine g_iinc (pc := 63) C dX11_leastNoise_63 (q := 4) rfl (v2 := a3 + 1) rfl (Nat.le_of_ble_eq_true rfl) (lo' := [(3, .int (a3 + 1)), (4, .int r14), (0, .ref (adr x a0)), (1, .int a1), (2, .int a2)]) rfl ?_
        refine g_goto (pc := 66) C dX11_leastNoise_66 (tgt := 27) rfl ?_
        refine g_sub [2, 3, 4, 0] rfl ?_
        exact ih _ _ _ _ _ _ _ hb h
      · replace h := h.2 z16
        refine g_iload_n (pc := 49) C dX11_leastNoise_49 (q := 3) rfl ?_
        refine g_if_ne (pc := 50) C dX11_leastNoise_50 (tgt := 57) rfl (fun z17 => ?_) (fun z17 => ?_)
        · replace h := h.2 z17
          refine g_iload (pc := 57) C dX11_leastNoise_57 (q := 0) rfl ?_
          refine miX11_300 (pc := 59) C h (Nat.le_of_ble_eq_true rfl) (Nat.le_of_ble_eq_true rfl) hb dX11_leastNoise_59 (fun r18 w19 h => ?_)
          refine gx_ret ?_; exact g_iret (pc := 62) C hlk hr hb.1 hb.2 dX11_leastNoise_62 h
        · replace h := h.1 z17
          refine g_iload_n (pc := 53) C dX11_leastNoise_53 (q := 4) rfl ?_
          refine g_goto (pc := 54) C dX11_leastNoise_54 (tgt := 62) rfl ?_
          refine gx_ret ?_; exact g_iret (pc := 62) C hlk hr hb.1 hb.2 dX11_leastNoise_62 h
theorem c_X11_leastNoise {x : xG} {l : Launch} (hl : l.stackTraces = false) {a0 : Nat} {a1 : Int32} {a2 : Int32} {mc ms : Nat} {X : String → Wd → Prop} {K : Int32 → Wd → Prop} {w : Wd} (h : w_X11_leastNoise mc ms a0 a1 a2 K X w) : vx_Met l yX11_leastNoise (xws yX11_leastNoise cX11_leastNoise 5 (some .int)) (rmd 7 mc ms) (xPc x [.ref (adr x a0), .int a1, .int a2] w) (QcI x K) (XCx x X) mc ms (xA x) := by
  refine xMetX (by decide) (Nat.le_of_ble_eq_true rfl) (fun p e s m below meth c C hlk hr htab => ?_)
  show GW x p l e (rmd 7 mc ms) s m [.ref (adr x a0), .int a1, .int a2].toArray below meth c 5 (vx_MQ below (QcI x K) (XCx x X) [.ref (adr x a0), .int a1, .int a2].toArray s mc ms (xA x)) 0 [(0, .ref (adr x a0)), (1, .int a1), (2, .int a2)] [] w 0 0
  refine g_aload_n (pc := 0) C dX11_leastNoise_0 (q := 0) rfl ?_
  refine g_iload_n (pc := 1) C dX11_leastNoise_1 (q := 1) rfl ?_
  obtain ⟨k1, h⟩ := h
  obtain ⟨hb3, h⟩ := h
  refine mxX11_119 (pc := 2) C hl htab hlk k1 h (Nat.le_of_ble_eq_true rfl) (Nat.le_of_ble_eq_true rfl) hb3 dX11_leastNoise_2 (fun w2 h => ?_)
  refine g_iload_n (pc := 5) C dX11_leastNoise_5 (q := 2) rfl ?_
  refine g_iconst (pc := 6) C dX11_leastNoise_6 (v := 0) rfl ?_
  refine g_iconst (pc := 7) C dX11_leastNoise_7 (v := 1) rfl ?_
  obtain ⟨hb5, h⟩ := h
  refine mxX11_95 (pc := 8) C hl htab hlk h (Nat.le_of_ble_eq_true rfl) (Nat.le_of_ble_eq_true rfl) hb5 dX11_leastNoise_8 (fun w4 h => ?_)
  refine g_aload_n (pc := 11) C dX11_leastNoise_11 (q := 0) rfl ?_
  obtain ⟨k6, h⟩ := h
  obtain ⟨k7, h⟩ := h
  refine gfX11_65 (pc := 12) C k6 (isK_ne k7) dX11_leastNoise_12 ?_
  refine g_aload_n (pc := 15) C dX11_leastNoise_15 (q := 0) rfl ?_
  obtain ⟨k8, h⟩ := h
  refine gfX11_49 (pc := 16) C k6 (isK_ne k8) dX11_leastNoise_16 ?_
  obtain ⟨k9, h⟩ := h
  refine gfX11_122 (pc := 19) C k8 (isK_ne k9) dX11_leastNoise_19 ?_
  refine miX11_277 (pc := 22) C k7 h (Nat.le_of_ble_eq_true rfl) (Nat.le_of_ble_eq_true rfl) hb5 dX11_leastNoise_22 (fun w10 h => ?_)
  refine g_iconst (pc := 25) C dX11_leastNoise_25 (v := 0) rfl ?_
  refine g_istore_n (pc := 26) C dX11_leastNoise_26 (Nat.le_of_ble_eq_true rfl) (lo' := [(3, .int 0), (0, .ref (adr x a0)), (1, .int a1), (2, .int a2)]) rfl ?_
  obtain ⟨n20, h⟩ := h
  refine g_sub [1, 2, 3, 0] rfl ?_
  refine t_X11_leastNoise_27 C hlk hr hl htab n20 _ _ _ _ _ _ _ hb5 h
theorem miX11_153 (C : xC x p s m c cc nL args RX11) {a0 : Nat} {a1 : Int32} {K : Int32 → Wd → Prop} {D MC MS : Nat} (hq : isK w a0 1) (h : w_X1_besideOf a0 a1 K w) (hD : 0 + 1 ≤ D) (hW : (st.map fun v => v.category).sum ≤ 8) (hij : i ≤ MC ∧ j ≤ MS) (hd : decode cc pc = .ok (.invokevirtual 153, 3)) (k : ∀ (r : Int32) (u : Wd), K r u → GW x p l e (rmd D MC MS) s m args below meth c nL Q (pc + 3) lo (.int r :: st) u i j) : GW x p l e (rmd D MC MS) s m args below meth c nL Q pc lo (.int a1 :: .ref (adr x a0) :: st) w i j := g_callVi0 C (As := [.int a1]) (ci := 1) (c_X1_besideOf h) (x_cwV C 1 LMX11_153 ⟨rfl, by decide, by decide, rfl⟩ hD (by decide)) rfl hq (by decide) rfl rfl hW hd hij k
theorem miX11_293 (C : xC x p s m c cc nL args RX11) {a0 : Int32} {a1 : Int32} {K : Int32 → Wd → Prop} {D MC MS : Nat} (h : w_X11_has a0 a1 K w) (hD : 0 + 1 ≤ D) (hW : (st.map fun v => v.category).sum ≤ 8) (hij : i ≤ MC ∧ j ≤ MS) (hd : decode cc pc = .ok (.invokestatic 293, 3)) (k : ∀ (r : Int32) (u : Wd), K r u → GW x p l e (rmd D MC MS) s m args below meth c nL Q (pc + 3) lo (.int r :: st) u i j) : GW x p l e (rmd D MC MS) s m args below meth c nL Q pc lo (.int a1 :: .int a0 :: st) w i j := g_callSi0 C (As := [.int a0, .int a1]) (c_X11_has h) (x_cwS C 2 LMX11_293 ⟨by decide, by decide, rfl⟩ hD (by decide)) rfl rfl hW hd hij k
def w_X11_needBeside (mc ms : Nat) (a0 : Nat) (a1 : Int32) (a2 : Int32) (K : Wd → Prop) (X : String → Wd → Prop) (w : Wd) : Prop :=
  isK w a0 11 ∧ isK w (wR w a0 0) 5 ∧ isK w (wR w (wR w a0 0) 0) 2 ∧ isK w (wR w (wR w (wR w a0 0) 0) 0) 1 ∧ w_X1_besideOf (wR w (wR w (wR w a0 0) 0) 0) a1 (fun r5 w6 => w_X11_has r5 a2 (fun r7 w8 => ((r7 = 0 → (1 ≤ mc ∧ 6 ≤ ms) ∧ ∀ N11, wN w8 ≤ N11 → X "java/lang/IllegalArgumentException" (wJ w8 N11)) ∧ (¬ r7 = 0 → K w8))) w6) w
theorem c_X11_needBeside {x : xG} {l : Launch} (hl : l.stackTraces = false) {a0 : Nat} {a1 : Int32} {a2 : Int32} {mc ms : Nat} {X : String → Wd → Prop} {K : Wd → Prop} {w : Wd} (h : w_X11_needBeside mc ms a0 a1 a2 K X w) : vx_Met l yX11_needBeside (xws yX11_needBeside cX11_needBeside 3 none) (rmd 6 mc ms) (xPc x [.ref (adr x a0), .int a1, .int a2] w) (QcV x K) (XCx x X) mc ms (xA x) := by
  refine xMetX (by decide) (Nat.le_of_ble_eq_true rfl) (fun p e s m below meth c C hlk hr htab => ?_)
  show GW x p l e (rmd 6 mc ms) s m [.ref (adr x a0), .int a1, .int a2].toArray below meth c 3 (vx_MQ below (QcV x K) (XCx x X) [.ref (adr x a0), .int a1, .int a2].toArray s mc ms (xA x)) 0 [(0, .ref (adr x a0)), (1, .int a1), (2, .int a2)] [] w 0 0
  refine g_aload_n (pc := 0) C dX11_needBeside_0 (q := 0) rfl ?_
  obtain ⟨k1, h⟩ := h
  obtain ⟨k2, h⟩ := h
  refine gfX11_49 (pc := 1) C k1 (isK_ne k2) dX11_needBeside_1 ?_
  obtain ⟨k3, h⟩ := h
  refine gfX11_122 (pc := 4) C k2 (isK_ne k3) dX11_needBeside_4 ?_
  obtain ⟨k4, h⟩ := h
  refine gfX11_125 (pc := 7) C k3 (isK_ne k4) dX11_needBeside_7 ?_
  refine g_iload_n (pc := 10) C dX11_needBeside_10 (q := 1) rfl ?_
  refine miX11_153 (pc := 11) C k4 h (Nat.le_of_ble_eq_true rfl) (Nat.le_of_ble_eq_true rfl) ⟨Nat.zero_le _, Nat.zero_le _⟩ dX11_needBeside_11 (fun r5 w6 h => ?_)
  refine g_iload_n (pc := 14) C dX11_needBeside_14 (q := 2) rfl ?_
  refine miX11_293 (pc := 15) C h (Nat.le_of_ble_eq_true rfl) (Nat.le_of_ble_eq_true rfl) ⟨Nat.zero_le _, Nat.zero_le _⟩ dX11_needBeside_15 (fun r7 w8 h => ?_)
  refine g_if_ne (pc := 18) C dX11_needBeside_18 (tgt := 32) rfl (fun z9 => ?_) (fun z9 => ?_)
  · replace h := h.2 z9
    refine gx_ret ?_; exact g_vret (pc := 32) C hlk hr (Nat.zero_le _) (Nat.zero_le _) dX11_needBeside_32 h
  · replace h := h.1 z9
    obtain ⟨hb10, h⟩ := h
    exact thr_IllegalArgumentException (pc := 21) C hl htab hlk (q := 28) (k0 := 28) rfl dX11_needBeside_21 dX11_needBeside_24 (Or.inr ⟨dX11_needBeside_25, dX11_needBeside_28, dX11_needBeside_31⟩) (Nat.le_of_ble_eq_true rfl) (Nat.le_of_ble_eq_true rfl) hb10 h
def w_X11_needUnlike (mc ms : Nat) (a0 : Int32) (a1 : Int32) (K : Wd → Prop) (X : String → Wd → Prop) (w : Wd) : Prop :=
  ((a0 = a1 → (1 ≤ mc ∧ 6 ≤ ms) ∧ ∀ N3, wN w ≤ N3 → X "java/lang/IllegalArgumentException" (wJ w N3)) ∧ (¬ a0 = a1 → K w))
theorem c_X11_needUnlike {x : xG} {l : Launch} (hl : l.stackTraces = false) {a0 : Int32} {a1 : Int32} {mc ms : Nat} {X : String → Wd → Prop} {K : Wd → Prop} {w : Wd} (h : w_X11_needUnlike mc ms a0 a1 K X w) : vx_Met l yX11_needUnlike (xws yX11_needUnlike cX11_needUnlike 2 none) (rmd 6 mc ms) (xPc x [.int a0, .int a1] w) (QcV x K) (XCx x X) mc ms (xA x) := by
  refine xMetX (by decide) (Nat.le_of_ble_eq_true rfl) (fun p e s m below meth c C hlk hr htab => ?_)
  show GW x p l e (rmd 6 mc ms) s m [.int a0, .int a1].toArray below meth c 2 (vx_MQ below (QcV x K) (XCx x X) [.int a0, .int a1].toArray s mc ms (xA x)) 0 [(0, .int a0), (1, .int a1)] [] w 0 0
  refine g_iload_n (pc := 0) C dX11_needUnlike_0 (q := 0) rfl ?_
  refine g_iload_n (pc := 1) C dX11_needUnlike_1 (q := 1) rfl ?_
  refine g_icmp_ne (pc := 2) C dX11_needUnlike_2 (tgt := 16) rfl (fun z1 => ?_) (fun z1 => ?_)
  · replace h := h.2 z1
    refine gx_ret ?_; exact g_vret (pc := 16) C hlk hr (Nat.zero_le _) (Nat.zero_le _) dX11_needUnlike_16 h
  · replace h := h.1 z1
    obtain ⟨hb2, h⟩ := h
    exact thr_IllegalArgumentException (pc := 5) C hl htab hlk (q := 27) (k0 := 27) rfl dX11_needUnlike_5 dX11_needUnlike_8 (Or.inr ⟨dX11_needUnlike_9, dX11_needUnlike_12, dX11_needUnlike_15⟩) (Nat.le_of_ble_eq_true rfl) (Nat.le_of_ble_eq_true rfl) hb2 h
theorem mxX11_283 (C : xC x p s m c cc nL args RX11) {a0 : Int32} {a1 : Int32} {K : Wd → Prop} {D MC MS c0 s0 : Nat} {Qc : Array Value → State → Outcome → State → Prop} {X : String → Wd → Prop} (hl : l.stackTraces = false) (htab : ∀ z ∈ c.exceptionTable.toList, False) (hlk : meth.locks = false) (h : w_X11_needUnlike c0 s0 a0 a1 K X w) (hD : 6 + 1 ≤ D) (hW : (st.map fun v => v.category).sum ≤ 8) (hr : i + c0 ≤ MC ∧ j + s0 ≤ MS) (hd : decode cc pc = .ok (.invokestatic 283, 3)) (k : ∀ (u : Wd), K u → GW x p l e (rmd D MC MS) s m args below meth c nL (vx_MQ below Qc (XCx x X) args s MC MS (xA x)) (pc + 3) lo st u (i + c0) (j + s0)) : GW x p l e (rmd D MC MS) s m args below meth c nL (vx_MQ below Qc (XCx x X) args s MC MS (xA x)) pc lo (.int a1 :: .int a0 :: st) w i j := gx_callSv C (As := [.int a0, .int a1]) htab hlk (c_X11_needUnlike hl h) (x_cwS C 2 LMX11_283 ⟨by decide, by decide, rfl⟩ hD (by decide)) rfl rfl hW hd hr k
theorem mxX11_343 (C : xC x p s m c cc nL args RX11) {a0 : Nat} {a1 : Int32} {a2 : Int32} {K : Wd → Prop} {D MC MS c0 s0 : Nat} {Qc : Array Value → State → Outcome → State → Prop} {X : String → Wd → Prop} (hl : l.stackTraces = false) (htab : ∀ z ∈ c.exceptionTable.toList, False) (hlk : meth.locks = false) (hq : isK w a0 11) (h : w_X11_needBeside c0 s0 a0 a1 a2 K X w) (hD : 6 + 1 ≤ D) (hW : (st.map fun v => v.category).sum ≤ 8) (hr : i + c0 ≤ MC ∧ j + s0 ≤ MS) (hd : decode cc pc = .ok (.invokevirtual 343, 3)) (k : ∀ (u : Wd), K u → GW x p l e (rmd D MC MS) s m args below meth c nL (vx_MQ below Qc (XCx x X) args s MC MS (xA x)) (pc + 3) lo st u (i + c0) (j + s0)) : GW x p l e (rmd D MC MS) s m args below meth c nL (vx_MQ below Qc (XCx x X) args s MC MS (xA x)) pc lo (.int a2 :: .int a1 :: .ref (adr x a0) :: st) w i j := gx_callVv C (As := [.int a1, .int a2]) (ci := 11) htab hlk (c_X11_needBeside hl h) (x_cwV C 2 LMX11_343 ⟨rfl, by decide, by decide, rfl⟩ hD (by decide)) rfl hq (by decide) rfl rfl hW hd hr k
def l_X11_level_37 (mc ms : Nat) (X : String → Wd → Prop)  (K : Int32 → Wd → Prop) : Nat → Nat → Int32 → Int32 → Int32 → Nat → Nat → Wd → Prop
  | 0, _, _, _, _, _, _, _ => False
  | n + 1, a0, a1, a2, a3, i0, j0, w => ((200 < a3 → K (-1) w) ∧ (¬ 200 < a3 → isK w a0 11 ∧ isK w (wR w a0 3) 2 ∧ w_X2_waterOf (wR w a0 3) a1 (fun r20 w21 => isK w21 a0 11 ∧ isK w21 (wR w21 a0 3) 2 ∧ w_X2_waterOf (wR w21 a0 3) a2 (fun r24 w25 => ((r20 = r24 → K a3 w25) ∧ (¬ r20 = r24 → isK w25 a0 11 ∧ isK w25 (wR w25 a0 3) 2 ∧ w_X2_passHour (wR w25 a0 3) (fun w29 => l_X11_level_37 mc ms X K n a0 a1 a2 (a3 + 1) i0 j0 w29) w25))) w21) w))
def w_X11_level (mc ms : Nat) (a0 : Nat) (a1 : Int32) (a2 : Int32) (K : Int32 → Wd → Prop) (X : String → Wd → Prop) (w : Wd) : Prop :=
  isK w a0 11 ∧ (1 ≤ mc ∧ 6 ≤ ms) ∧ w_X11_needWell 1 6 a0 a1 (fun w2 => isK w2 a0 11 ∧ (2 ≤ mc ∧ 12 ≤ ms) ∧ w_X11_needWell 1 6 a0 a2 (fun w5 => (3 ≤ mc ∧ 18 ≤ ms) ∧ w_X11_needUnlike 1 6 a1 a2 (fun w7 => isK w7 a0 11 ∧ (4 ≤ mc ∧ 24 ≤ ms) ∧ w_X11_needBeside 1 6 a0 a1 a2 (fun w10 => isK w10 a0 11 ∧ isK w10 (wR w10 a0 3) 2 ∧ isK w10 (wR w10 a0 0) 5 ∧ isK w10 (wR w10 (wR w10 a0 0) 0) 2 ∧ w_X2_become (wR w10 a0 3) (wR w10 (wR w10 a0 0) 0) (fun w16 => ∃ n30, l_X11_level_37 mc ms X  K n30 a0 a1 a2 0 4 24 w16) w10) X w7) X w5) X w2) X w
theorem t_X11_level_37 (C : xC x p s m c cX11_level 4 args RX11) (hlk : meth.locks = false) (hr : meth.sig.returnType = some .int) (hl : l.stackTraces = false) (htab : ∀ z ∈ c.exceptionTable.toList, False) {mc ms : Nat} {X : String → Wd → Prop} {K : Int32 → Wd → Prop}   : ∀ (n : Nat) (a0 : Nat) (a1 : Int32) (a2 : Int32) (a3 : Int32) (i0 j0 : Nat) (w : Wd), i0 ≤ mc ∧ j0 ≤ ms → l_X11_level_37 mc ms X K n a0 a1 a2 a3 i0 j0 w → GW x p l e (rmd 7 mc ms) s m args below meth c 4 (vx_MQ below (QcI x K) (XCx x X) args s mc ms (xA x)) 37 [(0, .ref (adr x a0)), (1, .int a1), (2, .int a2), (3, .int a3)] [] w i0 j0 := by
  intro n
  induction n with
  | zero => intro _ _ _ _ _ _ _ _ h; exact False.elim h
  | succ n ih =>
    intro a0 a1 a2 a3 i0 j0 w hb h
    refine g_iload_n (pc := 37) C dX11_level_37 (q := 3) rfl ?_
    refine g_sipush (pc := 38) C dX11_level_38 (v := 200) rfl ?_
    refine g_icmp_gt (pc := 41) C dX11_level_41 (tgt := 78) rfl (fun z17 => ?_) (fun z17 => ?_)
    · replace h := h.1 z17
      refine g_iconst (pc := 78) C dX11_level_78 (v := (-1)) rfl ?_
      refine gx_ret ?_; exact g_iret (pc := 79) C hlk hr hb.1 hb.2 dX11_level_79 h
    · replace h := h.2 z17
      refine g_aload_n (pc := 44) C dX11_level_44 (q := 0) rfl ?_
      obtain ⟨k18, h⟩ := h
      obtain ⟨k19, h⟩ := h
      refine gfX11_54 (pc := 45) C k18 (isK_ne k19) dX11_level_45 ?_
      refine g_iload_n (pc := 48) C dX11_level_48 (q := 1) rfl ?_
      refine miX11_141 (pc := 49) C k19 h (Nat.le_of_ble_eq_true rfl) (Nat.le_of_ble_eq_true rfl) hb dX11_level_49 (fun r20 w21 h => ?_)
      refine g_aload_n (pc := 52) C dX11_level_52 (q := 0) rfl ?_
      obtain ⟨k22, h⟩ := h
      obtain ⟨k23, h⟩ := h
      refine gfX11_54 (pc := 53) C k22 (isK_ne k23) dX11_level_53 ?_
      refine g_iload_n (pc := 56) C dX11_level_56 (q := 2) rfl ?_
      refine miX11_141 (pc := 57) C k23 h (Nat.le_of_ble_eq_true rfl) (Nat.le_of_ble_eq_true rfl) hb dX11_level_57 (fun r24 w25 h => ?_)
      refine g_icmp_ne (pc := 60) C dX11_level_60 (tgt := 65) rfl (fun z26 => ?_) (fun z26 => ?_)
      · replace h := h.2 z26
        refine g_aload_n (pc := 65) C dX11_level_65 (q := 0) rfl ?_
        obtain ⟨k27, h⟩ := h
        obtain ⟨k28, h⟩ := h
        refine gfX11_54 (pc := 66) C k27 (isK_ne k28) dX11_level_66 ?_
        refine miX11_199 (pc := 69) C k28 h (Nat.le_of_ble_eq_true rfl) (Nat.le_of_ble_eq_true rfl) hb dX11_level_69 (fun w29 h => ?_)
        refine g_iinc (pc := 72) C dX11_level_72 (q := 3) rfl (v2 := a3 + 1) rfl (Nat.le_of_ble_eq_true rfl) (lo' := [(3, .int (a3 + 1)), (0, .ref (adr x a0)), (1, .int a1), (2, .int a2)]) rfl ?_
        refine g_goto (pc := 75) C dX11_level_75 (tgt := 37) rfl ?_
        refine g_sub [1, 2, 3, 0] rfl ?_
        exact ih _ _ _ _ _ _ _ hb h
      · replace h := h.1 z26
        refine g_iload_n (pc := 63) C dX11_level_63 (q := 3) rfl ?_
        refine gx_ret ?_; exact g_iret (pc := 64) C hlk hr hb.1 hb.2 dX11_level_64 h
theorem c_X11_level {x : xG} {l : Launch} (hl : l.stackTraces = false) {a0 : Nat} {a1 : Int32} {a2 : Int32} {mc ms : Nat} {X : String → Wd → Prop} {K : Int32 → Wd → Prop} {w : Wd} (h : w_X11_level mc ms a0 a1 a2 K X w) : vx_Met l yX11_level (xws yX11_level cX11_level 4 (some .int)) (rmd 7 mc ms) (xPc x [.ref (adr x a0), .int a1, .int a2] w) (QcI x K) (XCx x X) mc ms (xA x) := by
  refine xMetX (by decide) (Nat.le_of_ble_eq_true rfl) (fun p e s m below meth c C hlk hr htab => ?_)
  show GW x p l e (rmd 7 mc ms) s m [.ref (adr x a0), .int a1, .int a2].toArray below meth c 4 (vx_MQ below (QcI x K) (XCx x X) [.ref (adr x a0), .int a1, .int a2].toArray s mc ms (xA x)) 0 [(0, .ref (adr x a0)), (1, .int a1), (2, .int a2)] [] w 0 0
  refine g_aload_n (pc := 0) C dX11_level_0 (q := 0) rfl ?_
  refine g_iload_n (pc := 1) C dX11_level_1 (q := 1) rfl ?_
  obtain ⟨k1, h⟩ := h
  obtain ⟨hb3, h⟩ := h
  refine mxX11_119 (pc := 2) C hl htab hlk k1 h (Nat.le_of_ble_eq_true rfl) (Nat.le_of_ble_eq_true rfl) hb3 dX11_level_2 (fun w2 h => ?_)
  refine g_aload_n (pc := 5) C dX11_level_5 (q := 0) rfl ?_
  refine g_iload_n (pc := 6) C dX11_level_6 (q := 2) rfl ?_
  obtain ⟨k4, h⟩ := h
  obtain ⟨hb6, h⟩ := h
  refine mxX11_119 (pc := 7) C hl htab hlk k4 h (Nat.le_of_ble_eq_true rfl) (Nat.le_of_ble_eq_true rfl) hb6 dX11_level_7 (fun w5 h => ?_)
  refine g_iload_n (pc := 10) C dX11_level_10 (q := 1) rfl ?_
  refine g_iload_n (pc := 11) C dX11_level_11 (q := 2) rfl ?_
  obtain ⟨hb8, h⟩ := h
  refine mxX11_283 (pc := 12) C hl htab hlk h (Nat.le_of_ble_eq_true rfl) (Nat.le_of_ble_eq_true rfl) hb8 dX11_level_12 (fun w7 h => ?_)
  refine g_aload_n (pc := 15) C dX11_level_15 (q := 0) rfl ?_
  refine g_iload_n (pc := 16) C dX11_level_16 (q := 1) rfl ?_
  refine g_iload_n (pc := 17) C dX11_level_17 (q := 2) rfl ?_
  obtain ⟨k9, h⟩ := h
  obtain ⟨hb11, h⟩ := h
  refine mxX11_343 (pc := 18) C hl htab hlk k9 h (Nat.le_of_ble_eq_true rfl) (Nat.le_of_ble_eq_true rfl) hb11 dX11_level_18 (fun w10 h => ?_)
  refine g_aload_n (pc := 21) C dX11_level_21 (q := 0) rfl ?_
  obtain ⟨k12, h⟩ := h
  obtain ⟨k13, h⟩ := h
  refine gfX11_54 (pc := 22) C k12 (isK_ne k13) dX11_level_22 ?_
  refine g_aload_n (pc := 25) C dX11_level_25 (q := 0) rfl ?_
  obtain ⟨k14, h⟩ := h
  refine gfX11_49 (pc := 26) C k12 (isK_ne k14) dX11_level_26 ?_
  obtain ⟨k15, h⟩ := h
  refine gfX11_122 (pc := 29) C k14 (isK_ne k15) dX11_level_29 ?_
  refine miX11_212 (pc := 32) C k13 h (Nat.le_of_ble_eq_true rfl) (Nat.le_of_ble_eq_true rfl) hb11 dX11_level_32 (fun w16 h => ?_)
  refine g_iconst (pc := 35) C dX11_level_35 (v := 0) rfl ?_
  refine g_istore_n (pc := 36) C dX11_level_36 (Nat.le_of_ble_eq_true rfl) (lo' := [(3, .int 0), (0, .ref (adr x a0)), (1, .int a1), (2, .int a2)]) rfl ?_
  obtain ⟨n30, h⟩ := h
  refine g_sub [1, 2, 3, 0] rfl ?_
  refine t_X11_level_37 C hlk hr hl htab n30 _ _ _ _ _ _ _ hb11 h
theorem miX11_349 (C : xC x p s m c cc nL args RX11) {a0 : Nat} {a1 : Nat} {K : Wd → Prop} {D MC MS : Nat} (hq : isK w a0 9) (h : w_X9_hear a0 a1 K w) (hD : 1 + 1 ≤ D) (hW : (st.map fun v => v.category).sum ≤ 8) (hij : i ≤ MC ∧ j ≤ MS) (hd : decode cc pc = .ok (.invokevirtual 349, 3)) (k : ∀ (u : Wd), K u → GW x p l e (rmd D MC MS) s m args below meth c nL Q (pc + 3) lo st u i j) : GW x p l e (rmd D MC MS) s m args below meth c nL Q pc lo (.ref (adr x a1) :: .ref (adr x a0) :: st) w i j := g_callVv0 C (As := [.ref (adr x a1)]) (ci := 9) (c_X9_hear h) (x_cwV C 1 LMX11_349 ⟨rfl, by decide, by decide, rfl⟩ hD (by decide)) rfl hq (by decide) rfl rfl hW hd hij k
theorem miX11_359 (C : xC x p s m c cc nL args RX11) {a0 : Nat} {K : Int32 → Wd → Prop} {D MC MS : Nat} (hq : isK w a0 9) (h : w_X9_tellsMost a0 K w) (hD : 3 + 1 ≤ D) (hW : (st.map fun v => v.category).sum ≤ 8) (hij : i ≤ MC ∧ j ≤ MS) (hd : decode cc pc = .ok (.invokevirtual 359, 3)) (k : ∀ (r : Int32) (u : Wd), K r u → GW x p l e (rmd D MC MS) s m args below meth c nL Q (pc + 3) lo (.int r :: st) u i j) : GW x p l e (rmd D MC MS) s m args below meth c nL Q pc lo (.ref (adr x a0) :: st) w i j := g_callVi0 C (As := []) (ci := 9) (c_X9_tellsMost h) (x_cwV C 0 LMX11_359 ⟨rfl, by decide, by decide, rfl⟩ hD (by decide)) rfl hq (by decide) rfl rfl hW hd hij k
theorem mxX11_346 (C : xC x p s m c cc nL args RX11) {a0 : Nat} {a1 : Int32} {K : Nat → Wd → Prop} {D MC MS c0 s0 : Nat} {Qc : Array Value → State → Outcome → State → Prop} {X : String → Wd → Prop} (hl : l.stackTraces = false) (htab : ∀ z ∈ c.exceptionTable.toList, False) (hlk : meth.locks = false) (hq : isK w a0 11) (h : w_X11_heardTray c0 s0 a0 a1 K X w) (hD : 8 + 1 ≤ D) (hW : (st.map fun v => v.category).sum ≤ 8) (hr : i + c0 ≤ MC ∧ j + s0 ≤ MS) (hd : decode cc pc = .ok (.invokevirtual 346, 3)) (k : ∀ (r : Nat) (u : Wd), K r u → GW x p l e (rmd D MC MS) s m args below meth c nL (vx_MQ below Qc (XCx x X) args s MC MS (xA x)) (pc + 3) lo (.ref (adr x r) :: st) u (i + c0) (j + s0)) : GW x p l e (rmd D MC MS) s m args below meth c nL (vx_MQ below Qc (XCx x X) args s MC MS (xA x)) pc lo (.int a1 :: .ref (adr x a0) :: st) w i j := gx_callVr C (As := [.int a1]) (ci := 11) htab hlk (c_X11_heardTray hl h) (x_cwV C 1 LMX11_346 ⟨rfl, by decide, by decide, rfl⟩ hD (by decide)) rfl hq (by decide) rfl rfl hW hd hr k
def w_X11_listen (mc ms : Nat) (a0 : Nat) (a1 : Int32) (K : Int32 → Wd → Prop) (X : String → Wd → Prop) (w : Wd) : Prop :=
  isK w a0 11 ∧ isK w (wR w a0 9) 9 ∧ (3 ≤ mc ∧ 18 ≤ ms) ∧ w_X11_heardTray 3 18 a0 a1 (fun r3 w4 => isK w4 (wR w a0 9) 9 ∧ w_X9_hear (wR w a0 9) r3 (fun w7 => isK w7 a0 11 ∧ isK w7 (wR w7 a0 9) 9 ∧ w_X9_tellsMost (wR w7 a0 9) (fun r10 w11 => K r10 w11) w7) w4) X w
theorem c_X11_listen {x : xG} {l : Launch} (hl : l.stackTraces = false) {a0 : Nat} {a1 : Int32} {mc ms : Nat} {X : String → Wd → Prop} {K : Int32 → Wd → Prop} {w : Wd} (h : w_X11_listen mc ms a0 a1 K X w) : vx_Met l yX11_listen (xws yX11_listen cX11_listen 2 (some .int)) (rmd 9 mc ms) (xPc x [.ref (adr x a0), .int a1] w) (QcI x K) (XCx x X) mc ms (xA x) := by
  refine xMetX (by decide) (Nat.le_of_ble_eq_true rfl) (fun p e s m below meth c C hlk hr htab => ?_)
  show GW x p l e (rmd 9 mc ms) s m [.ref (adr x a0), .int a1].toArray below meth c 2 (vx_MQ below (QcI x K) (XCx x X) [.ref (adr x a0), .int a1].toArray s mc ms (xA x)) 0 [(0, .ref (adr x a0)), (1, .int a1)] [] w 0 0
  refine g_aload_n (pc := 0) C dX11_listen_0 (q := 0) rfl ?_
  obtain ⟨k1, h⟩ := h
  obtain ⟨k2, h⟩ := h
  refine gfX11_31 (pc := 1) C k1 (isK_ne k2) dX11_listen_1 ?_
  refine g_aload_n (pc := 4) C dX11_listen_4 (q := 0) rfl ?_
  refine g_iload_n (pc := 5) C dX11_listen_5 (q := 1) rfl ?_
  obtain ⟨hb5, h⟩ := h
  refine mxX11_346 (pc := 6) C hl htab hlk k1 h (Nat.le_of_ble_eq_true rfl) (Nat.le_of_ble_eq_true rfl) hb5 dX11_listen_6 (fun r3 w4 h => ?_)
  obtain ⟨k6, h⟩ := h
  refine miX11_349 (pc := 9) C k6 h (Nat.le_of_ble_eq_true rfl) (Nat.le_of_ble_eq_true rfl) hb5 dX11_listen_9 (fun w7 h => ?_)
  refine g_aload_n (pc := 12) C dX11_listen_12 (q := 0) rfl ?_
  obtain ⟨k8, h⟩ := h
  obtain ⟨k9, h⟩ := h
  refine gfX11_31 (pc := 13) C k8 (isK_ne k9) dX11_listen_13 ?_
  refine miX11_359 (pc := 16) C k9 h (Nat.le_of_ble_eq_true rfl) (Nat.le_of_ble_eq_true rfl) hb5 dX11_listen_16 (fun r10 w11 h => ?_)
  refine gx_ret ?_; exact g_iret (pc := 19) C hlk hr hb5.1 hb5.2 dX11_listen_19 h
def l_X11_loudHour_31 (mc ms : Nat) (X : String → Wd → Prop)  (K : Int32 → Wd → Prop) : Nat → Nat → Int32 → Int32 → Int32 → Int32 → Int32 → Nat → Nat → Wd → Prop
  | 0, _, _, _, _, _, _, _, _, _ => False
  | n + 1, a0, a1, a2, a3, a4, a5, i0, j0, w => ((40 < a5 → K a3 w) ∧ (¬ 40 < a5 → isK w a0 11 ∧ isK w (wR w a0 5) 4 ∧ isK w (wR w a0 3) 2 ∧ w_X4_over (wR w a0 5) (wR w a0 3) (fun w15 => isK w15 a0 11 ∧ isK w15 (wR w15 a0 5) 4 ∧ w_X4_wokenBy (wR w15 a0 5) a1 a2 (fun r18 w19 => w_J6_bitCount_0f7a4 r18 (fun r20 w21 => ((r20 ≤ a4 → isK w21 a0 11 ∧ isK w21 (wR w21 a0 3) 2 ∧ w_X2_passHour (wR w21 a0 3) (fun w25 => l_X11_loudHour_31 mc ms X K n a0 a1 a2 a3 a4 (a5 + 1) i0 j0 w25) w21) ∧ (¬ r20 ≤ a4 → isK w21 a0 11 ∧ isK w21 (wR w21 a0 3) 2 ∧ w_X2_passHour (wR w21 a0 3) (fun w28 => l_X11_loudHour_31 mc ms X K n a0 a1 a2 a5 r20 (a5 + 1) i0 j0 w28) w21))) w19) w15) w))
def w_X11_loudHour (mc ms : Nat) (a0 : Nat) (a1 : Int32) (a2 : Int32) (K : Int32 → Wd → Prop) (X : String → Wd → Prop) (w : Wd) : Prop :=
  isK w a0 11 ∧ (1 ≤ mc ∧ 6 ≤ ms) ∧ w_X11_needWell 1 6 a0 a1 (fun w2 => (2 ≤ mc ∧ 12 ≤ ms) ∧ w_X11_needNoise 1 6 a2 (fun w4 => isK w4 a0 11 ∧ isK w4 (wR w4 a0 3) 2 ∧ isK w4 (wR w4 a0 0) 5 ∧ isK w4 (wR w4 (wR w4 a0 0) 0) 2 ∧ w_X2_become (wR w4 a0 3) (wR w4 (wR w4 a0 0) 0) (fun w10 => ∃ n29, l_X11_loudHour_31 mc ms X  K n29 a0 a1 a2 0 (-1) 0 2 12 w10) w4) X w2) X w
theorem t_X11_loudHour_31 (C : xC x p s m c cX11_loudHour 7 args RX11) (hlk : meth.locks = false) (hr : meth.sig.returnType = some .int) (hl : l.stackTraces = false) (htab : ∀ z ∈ c.exceptionTable.toList, False) {mc ms : Nat} {X : String → Wd → Prop} {K : Int32 → Wd → Prop}   : ∀ (n : Nat) (a0 : Nat) (a1 : Int32) (a2 : Int32) (a3 : Int32) (a4 : Int32) (a5 : Int32) (i0 j0 : Nat) (w : Wd), i0 ≤ mc ∧ j0 ≤ ms → l_X11_loudHour_31 mc ms X K n a0 a1 a2 a3 a4 a5 i0 j0 w → GW x p l e (rmd 8 mc ms) s m args below meth c 7 (vx_MQ below (QcI x K) (XCx x X) args s mc ms (xA x)) 31 [(0, .ref (adr x a0)), (1, .int a1), (2, .int a2), (3, .int a3), (4, .int a4), (5, .int a5)] [] w i0 j0 := by
  intro n
  induction n with
  | zero => intro _ _ _ _ _ _ _ _ _ _ h; exact False.elim h
  | succ n ih =>
    intro a0 a1 a2 a3 a4 a5 i0 j0 w hb h
    refine g_iload (pc := 31) C dX11_loudHour_31 (q := 5) rfl ?_
    refine g_bipush (pc := 33) C dX11_loudHour_33 (v := 40) rfl ?_
    refine g_icmp_gt (pc := 35) C dX11_loudHour_35 (tgt := 90) rfl (fun z11 => ?_) (fun z11 => ?_)
    · replace h := h.1 z11
      refine g_iload_n (pc := 90) C dX11_loudHour_90 (q := 3) rfl ?_
      refine gx_ret ?_; exact g_iret (pc := 91) C hlk hr hb.1 hb.2 dX11_loudHour_91 h
    · replace h := h.2 z11
      refine g_aload_n (pc := 38) C dX11_loudHour_38 (q := 0) rfl ?_
      obtain ⟨k12, h⟩ := h
      obtain ⟨k13, h⟩ := h
      refine gfX11_65 (pc := 39) C k12 (isK_ne k13) dX11_loudHour_39 ?_
      refine g_aload_n (pc := 42) C dX11_loudHour_42 (q := 0) rfl ?_
      obtain ⟨k14, h⟩ := h
      refine gfX11_54 (pc := 43) C k12 (isK_ne k14) dX11_loudHour_43 ?_
      refine miX11_277 (pc := 46) C k13 h (Nat.le_of_ble_eq_true rfl) (Nat.le_of_ble_eq_true rfl) hb dX11_loudHour_46 (fun w15 h => ?_)
      refine g_aload_n (pc := 49) C dX11_loudHour_49 (q := 0) rfl ?_
      obtain ⟨k16, h⟩ := h
      obtain ⟨k17, h⟩ := h
      refine gfX11_65 (pc := 50) C k16 (isK_ne k17) dX11_loudHour_50 ?_
      refine g_iload_n (pc := 53) C dX11_loudHour_53 (q := 1) rfl ?_
      refine g_iload_n (pc := 54) C dX11_loudHour_54 (q := 2) rfl ?_
      refine miX11_279 (pc := 55) C k17 h (Nat.le_of_ble_eq_true rfl) (Nat.le_of_ble_eq_true rfl) hb dX11_loudHour_55 (fun r18 w19 h => ?_)
      refine miX11_257 (pc := 58) C h (Nat.le_of_ble_eq_true rfl) (Nat.le_of_ble_eq_true rfl) hb dX11_loudHour_58 (fun r20 w21 h => ?_)
      refine g_istore (pc := 61) C dX11_loudHour_61 (Nat.le_of_ble_eq_true rfl) (lo' := [(6, .int r20), (0, .ref (adr x a0)), (1, .int a1), (2, .int a2), (3, .int a3), (4, .int a4), (5, .int a5)]) rfl ?_
      refine g_iload (pc := 63) C dX11_loudHour_63 (q := 0) rfl ?_
      refine g_iload (pc := 65) C dX11_loudHour_65 (q := 5) rfl ?_
      refine g_icmp_le (pc := 67) C dX11_loudHour_67 (tgt := 77) rfl (fun z22 => ?_) (fun z22 => ?_)
      · replace h := h.1 z22
        refine g_aload_n (pc := 77) C dX11_loudHour_77 (q := 1) rfl ?_
        obtain ⟨k23, h⟩ := h
        obtain ⟨k24, h⟩ := h
        refine gfX11_54 (pc := 78) C k23 (isK_ne k24) dX11_loudHour_78 ?_
        refine miX11_199 (pc := 81) C k24 h (Nat.le_of_ble_eq_true rfl) (Nat.le_of_ble_eq_true rfl) hb dX11_loudHour_81 (fun w25 h => ?_)
        refine g_iinc (pc := 84) C dX11_loudHour_84 (q := 6) rfl (v2 := a5 + 1) rfl (Nat.le_of_ble_eq_true rfl) (lo' := [(5, .int (a5 + 1)), (6, .int r20), (0, .ref (adr x a0)), (1, .int a1), (2, .int a2), (3, .int a3), (4, .int a4)]) rfl ?_
        refine g_goto (pc := 87) C dX11_loudHour_87 (tgt := 31) rfl ?_
        refine g_sub [2, 3, 4, 5, 6, 0] rfl ?_
        exact ih _ _ _ _ _ _ _ _ _ hb h
      · replace h := h.2 z22
        refine g_iload (pc := 70) C dX11_loudHour_70 (q := 0) rfl ?_
        refine g_istore (pc := 72) C dX11_loudHour_72 (Nat.le_of_ble_eq_true rfl) (lo' := [(4, .int r20), (6, .int r20), (0, .ref (adr x a0)), (1, .int a1), (2, .int a2), (3, .int a3), (5, .int a5)]) rfl ?_
        refine g_iload (pc := 74) C dX11_loudHour_74 (q := 6) rfl ?_
        refine g_istore_n (pc := 76) C dX11_loudHour_76 (Nat.le_of_ble_eq_true rfl) (lo' := [(3, .int a5), (4, .int r20), (6, .int r20), (0, .ref (adr x a0)), (1, .int a1), (2, .int a2), (5, .int a5)]) rfl ?_
        refine g_aload_n (pc := 77) C dX11_loudHour_77 (q := 3) rfl ?_
        obtain ⟨k26, h⟩ := h
        obtain ⟨k27, h⟩ := h
        refine gfX11_54 (pc := 78) C k26 (isK_ne k27) dX11_loudHour_78 ?_
        refine miX11_199 (pc := 81) C k27 h (Nat.le_of_ble_eq_true rfl) (Nat.le_of_ble_eq_true rfl) hb dX11_loudHour_81 (fun w28 h => ?_)
        refine g_iinc (pc := 84) C dX11_loudHour_84 (q := 6) rfl (v2 := a5 + 1) rfl (Nat.le_of_ble_eq_true rfl) (lo' := [(5, .int (a5 + 1)), (3, .int a5), (4, .int r20), (6, .int r20), (0, .ref (adr x a0)), (1, .int a1), (2, .int a2)]) rfl ?_
        refine g_goto (pc := 87) C dX11_loudHour_87 (tgt := 31) rfl ?_
        refine g_sub [4, 5, 6, 1, 2, 0] rfl ?_
        exact ih _ _ _ _ _ _ _ _ _ hb h
theorem c_X11_loudHour {x : xG} {l : Launch} (hl : l.stackTraces = false) {a0 : Nat} {a1 : Int32} {a2 : Int32} {mc ms : Nat} {X : String → Wd → Prop} {K : Int32 → Wd → Prop} {w : Wd} (h : w_X11_loudHour mc ms a0 a1 a2 K X w) : vx_Met l yX11_loudHour (xws yX11_loudHour cX11_loudHour 7 (some .int)) (rmd 8 mc ms) (xPc x [.ref (adr x a0), .int a1, .int a2] w) (QcI x K) (XCx x X) mc ms (xA x) := by
  refine xMetX (by decide) (Nat.le_of_ble_eq_true rfl) (fun p e s m below meth c C hlk hr htab => ?_)
  show GW x p l e (rmd 8 mc ms) s m [.ref (adr x a0), .int a1, .int a2].toArray below meth c 7 (vx_MQ below (QcI x K) (XCx x X) [.ref (adr x a0), .int a1, .int a2].toArray s mc ms (xA x)) 0 [(0, .ref (adr x a0)), (1, .int a1), (2, .int a2)] [] w 0 0
  refine g_aload_n (pc := 0) C dX11_loudHour_0 (q := 0) rfl ?_
  refine g_iload_n (pc := 1) C dX11_loudHour_1 (q := 1) rfl ?_
  obtain ⟨k1, h⟩ := h
  obtain ⟨hb3, h⟩ := h
  refine mxX11_119 (pc := 2) C hl htab hlk k1 h (Nat.le_of_ble_eq_true rfl) (Nat.le_of_ble_eq_true rfl) hb3 dX11_loudHour_2 (fun w2 h => ?_)
  refine g_iload_n (pc := 5) C dX11_loudHour_5 (q := 2) rfl ?_
  obtain ⟨hb5, h⟩ := h
  refine mxX11_274 (pc := 6) C hl htab hlk h (Nat.le_of_ble_eq_true rfl) (Nat.le_of_ble_eq_true rfl) hb5 dX11_loudHour_6 (fun w4 h => ?_)
  refine g_aload_n (pc := 9) C dX11_loudHour_9 (q := 0) rfl ?_
  obtain ⟨k6, h⟩ := h
  obtain ⟨k7, h⟩ := h
  refine gfX11_54 (pc := 10) C k6 (isK_ne k7) dX11_loudHour_10 ?_
  refine g_aload_n (pc := 13) C dX11_loudHour_13 (q := 0) rfl ?_
  obtain ⟨k8, h⟩ := h
  refine gfX11_49 (pc := 14) C k6 (isK_ne k8) dX11_loudHour_14 ?_
  obtain ⟨k9, h⟩ := h
  refine gfX11_122 (pc := 17) C k8 (isK_ne k9) dX11_loudHour_17 ?_
  refine miX11_212 (pc := 20) C k7 h (Nat.le_of_ble_eq_true rfl) (Nat.le_of_ble_eq_true rfl) hb5 dX11_loudHour_20 (fun w10 h => ?_)
  refine g_iconst (pc := 23) C dX11_loudHour_23 (v := 0) rfl ?_
  refine g_istore_n (pc := 24) C dX11_loudHour_24 (Nat.le_of_ble_eq_true rfl) (lo' := [(3, .int 0), (0, .ref (adr x a0)), (1, .int a1), (2, .int a2)]) rfl ?_
  refine g_iconst (pc := 25) C dX11_loudHour_25 (v := (-1)) rfl ?_
  refine g_istore (pc := 26) C dX11_loudHour_26 (Nat.le_of_ble_eq_true rfl) (lo' := [(4, .int (-1)), (3, .int 0), (0, .ref (adr x a0)), (1, .int a1), (2, .int a2)]) rfl ?_
  refine g_iconst (pc := 28) C dX11_loudHour_28 (v := 0) rfl ?_
  refine g_istore (pc := 29) C dX11_loudHour_29 (Nat.le_of_ble_eq_true rfl) (lo' := [(5, .int 0), (4, .int (-1)), (3, .int 0), (0, .ref (adr x a0)), (1, .int a1), (2, .int a2)]) rfl ?_
  obtain ⟨n29, h⟩ := h
  refine g_sub [3, 4, 5, 2, 1, 0] rfl ?_
  refine t_X11_loudHour_31 C hlk hr hl htab n29 _ _ _ _ _ _ _ _ _ hb5 h
def l_X11_loudest_25 (mc ms : Nat) (X : String → Wd → Prop)  (K : Int32 → Wd → Prop) : Nat → Nat → Int32 → Int32 → Int32 → Int32 → Nat → Nat → Wd → Prop
  | 0, _, _, _, _, _, _, _, _ => False
  | n + 1, a0, a1, a2, a3, a4, i0, j0, w => isK w a0 11 ∧ isK w (wR w a0 0) 5 ∧ isK w (wR w (wR w a0 0) 0) 2 ∧ isK w (wR w (wR w (wR w a0 0) 0) 0) 1 ∧ (((wI w (wR w (wR w (wR w a0 0) 0) 0) 1) ≤ a4 → K a2 w) ∧ (¬ (wI w (wR w (wR w (wR w a0 0) 0) 0) 1) ≤ a4 → isK w (wR w a0 5) 4 ∧ w_X4_wokenBy (wR w a0 5) a4 a1 (fun r14 w15 => w_J6_bitCount_0f7a4 r14 (fun r16 w17 => ((r16 ≤ a3 → l_X11_loudest_25 mc ms X K n a0 a1 a2 a3 (a4 + 1) i0 j0 w17) ∧ (¬ r16 ≤ a3 → l_X11_loudest_25 mc ms X K n a0 a1 a4 r16 (a4 + 1) i0 j0 w17))) w15) w))
def w_X11_loudest (mc ms : Nat) (a0 : Nat) (a1 : Int32) (K : Int32 → Wd → Prop) (X : String → Wd → Prop) (w : Wd) : Prop :=
  (1 ≤ mc ∧ 6 ≤ ms) ∧ w_X11_needNoise 1 6 a1 (fun w1 => isK w1 a0 11 ∧ isK w1 (wR w1 a0 5) 4 ∧ isK w1 (wR w1 a0 0) 5 ∧ isK w1 (wR w1 (wR w1 a0 0) 0) 2 ∧ w_X4_over (wR w1 a0 5) (wR w1 (wR w1 a0 0) 0) (fun w7 => ∃ n19, l_X11_loudest_25 mc ms X  K n19 a0 a1 (-1) (-1) 0 1 6 w7) w1) X w
theorem t_X11_loudest_25 (C : xC x p s m c cX11_loudest 6 args RX11) (hlk : meth.locks = false) (hr : meth.sig.returnType = some .int) (hl : l.stackTraces = false) (htab : ∀ z ∈ c.exceptionTable.toList, False) {mc ms : Nat} {X : String → Wd → Prop} {K : Int32 → Wd → Prop}   : ∀ (n : Nat) (a0 : Nat) (a1 : Int32) (a2 : Int32) (a3 : Int32) (a4 : Int32) (i0 j0 : Nat) (w : Wd), i0 ≤ mc ∧ j0 ≤ ms → l_X11_loudest_25 mc ms X K n a0 a1 a2 a3 a4 i0 j0 w → GW x p l e (rmd 8 mc ms) s m args below meth c 6 (vx_MQ below (QcI x K) (XCx x X) args s mc ms (xA x)) 25 [(0, .ref (adr x a0)), (1, .int a1), (2, .int a2), (3, .int a3), (4, .int a4)] [] w i0 j0 := by
  intro n
  induction n with
  | zero => intro _ _ _ _ _ _ _ _ _ h; exact False.elim h
  | succ n ih =>
    intro a0 a1 a2 a3 a4 i0 j0 w hb h
    refine g_iload (pc := 25) C dX11_loudest_25 (q := 4) rfl ?_
    refine g_aload_n (pc := 27) C dX11_loudest_27 (q := 0) rfl ?_
    obtain ⟨k8, h⟩ := h
    obtain ⟨k9, h⟩ := h
    refine gfX11_49 (pc := 28) C k8 (isK_ne k9) dX11_loudest_28 ?_
    obtain ⟨k10, h⟩ := h
    refine gfX11_122 (pc := 31) C k9 (isK_ne k10) dX11_loudest_31 ?_
    obtain ⟨k11, h⟩ := h
    refine gfX11_125 (pc := 34) C k10 (isK_ne k11) dX11_loudest_34 ?_
    refine gfX11_238 (pc := 37) C k11 dX11_loudest_37 ?_
    refine g_icmp_ge (pc := 40) C dX11_loudest_40 (tgt := 76) rfl (fun z12 => ?_) (fun z12 => ?_)
    · replace h := h.1 z12
      refine g_iload_n (pc := 76) C dX11_loudest_76 (q := 2) rfl ?_
      refine gx_ret ?_; exact g_iret (pc := 77) C hlk hr hb.1 hb.2 dX11_loudest_77 h
    · replace h := h.2 z12
      refine g_aload_n (pc := 43) C dX11_loudest_43 (q := 0) rfl ?_
      obtain ⟨k13, h⟩ := h
      refine gfX11_65 (pc := 44) C k8 (isK_ne k13) dX11_loudest_44 ?_
      refine g_iload (pc := 47) C dX11_loudest_47 (q := 4) rfl ?_
      refine g_iload_n (pc := 49) C dX11_loudest_49 (q := 1) rfl ?_
      refine miX11_279 (pc := 50) C k13 h (Nat.le_of_ble_eq_true rfl) (Nat.le_of_ble_eq_true rfl) hb dX11_loudest_50 (fun r14 w15 h => ?_)
      refine miX11_257 (pc := 53) C h (Nat.le_of_ble_eq_true rfl) (Nat.le_of_ble_eq_true rfl) hb dX11_loudest_53 (fun r16 w17 h => ?_)
      refine g_istore (pc := 56) C dX11_loudest_56 (Nat.le_of_ble_eq_true rfl) (lo' := [(5, .int r16), (0, .ref (adr x a0)), (1, .int a1), (2, .int a2), (3, .int a3), (4, .int a4)]) rfl ?_
      refine g_iload (pc := 58) C dX11_loudest_58 (q := 0) rfl ?_
      refine g_iload_n (pc := 60) C dX11_loudest_60 (q := 4) rfl ?_
      refine g_icmp_le (pc := 61) C dX11_loudest_61 (tgt := 70) rfl (fun z18 => ?_) (fun z18 => ?_)
      · replace h := h.1 z18
        refine g_iinc (pc := 70) C dX11_loudest_70 (q := 5) rfl (v2 := a4 + 1) rfl (Nat.le_of_ble_eq_true rfl) (lo' := [(4, .int (a4 + 1)), (5, .int r16), (0, .ref (adr x a0)), (1, .int a1), (2, .int a2), (3, .int a3)]) rfl ?_
        refine g_goto (pc := 73) C dX11_loudest_73 (tgt := 25) rfl ?_
        refine g_sub [2, 3, 4, 5, 0] rfl ?_
        exact ih _ _ _ _ _ _ _ _ hb h
      · replace h := h.2 z18
        refine g_iload (pc := 64) C dX11_loudest_64 (q := 0) rfl ?_
        refine g_istore_n (pc := 66) C dX11_loudest_66 (Nat.le_of_ble_eq_true rfl) (lo' := [(3, .int r16), (5, .int r16), (0, .ref (adr x a0)), (1, .int a1), (2, .int a2), (4, .int a4)]) rfl ?_
        refine g_iload (pc := 67) C dX11_loudest_67 (q := 5) rfl ?_
        refine g_istore_n (pc := 69) C dX11_loudest_69 (Nat.le_of_ble_eq_true rfl) (lo' := [(2, .int a4), (3, .int r16), (5, .int r16), (0, .ref (adr x a0)), (1, .int a1), (4, .int a4)]) rfl ?_
        refine g_iinc (pc := 70) C dX11_loudest_70 (q := 5) rfl (v2 := a4 + 1) rfl (Nat.le_of_ble_eq_true rfl) (lo' := [(4, .int (a4 + 1)), (2, .int a4), (3, .int r16), (5, .int r16), (0, .ref (adr x a0)), (1, .int a1)]) rfl ?_
        refine g_goto (pc := 73) C dX11_loudest_73 (tgt := 25) rfl ?_
        refine g_sub [4, 5, 1, 2, 0] rfl ?_
        exact ih _ _ _ _ _ _ _ _ hb h
theorem c_X11_loudest {x : xG} {l : Launch} (hl : l.stackTraces = false) {a0 : Nat} {a1 : Int32} {mc ms : Nat} {X : String → Wd → Prop} {K : Int32 → Wd → Prop} {w : Wd} (h : w_X11_loudest mc ms a0 a1 K X w) : vx_Met l yX11_loudest (xws yX11_loudest cX11_loudest 6 (some .int)) (rmd 8 mc ms) (xPc x [.ref (adr x a0), .int a1] w) (QcI x K) (XCx x X) mc ms (xA x) := by
  refine xMetX (by decide) (Nat.le_of_ble_eq_true rfl) (fun p e s m below meth c C hlk hr htab => ?_)
  show GW x p l e (rmd 8 mc ms) s m [.ref (adr x a0), .int a1].toArray below meth c 6 (vx_MQ below (QcI x K) (XCx x X) [.ref (adr x a0), .int a1].toArray s mc ms (xA x)) 0 [(0, .ref (adr x a0)), (1, .int a1)] [] w 0 0
  refine g_iload_n (pc := 0) C dX11_loudest_0 (q := 1) rfl ?_
  obtain ⟨hb2, h⟩ := h
  refine mxX11_274 (pc := 1) C hl htab hlk h (Nat.le_of_ble_eq_true rfl) (Nat.le_of_ble_eq_true rfl) hb2 dX11_loudest_1 (fun w1 h => ?_)
  refine g_aload_n (pc := 4) C dX11_loudest_4 (q := 0) rfl ?_
  obtain ⟨k3, h⟩ := h
  obtain ⟨k4, h⟩ := h
  refine gfX11_65 (pc := 5) C k3 (isK_ne k4) dX11_loudest_5 ?_
  refine g_aload_n (pc := 8) C dX11_loudest_8 (q := 0) rfl ?_
  obtain ⟨k5, h⟩ := h
  refine gfX11_49 (pc := 9) C k3 (isK_ne k5) dX11_loudest_9 ?_
  obtain ⟨k6, h⟩ := h
  refine gfX11_122 (pc := 12) C k5 (isK_ne k6) dX11_loudest_12 ?_
  refine miX11_277 (pc := 15) C k4 h (Nat.le_of_ble_eq_true rfl) (Nat.le_of_ble_eq_true rfl) hb2 dX11_loudest_15 (fun w7 h => ?_)
  refine g_iconst (pc := 18) C dX11_loudest_18 (v := (-1)) rfl ?_
  refine g_istore_n (pc := 19) C dX11_loudest_19 (Nat.le_of_ble_eq_true rfl) (lo' := [(2, .int (-1)), (0, .ref (adr x a0)), (1, .int a1)]) rfl ?_
  refine g_iconst (pc := 20) C dX11_loudest_20 (v := (-1)) rfl ?_
  refine g_istore_n (pc := 21) C dX11_loudest_21 (Nat.le_of_ble_eq_true rfl) (lo' := [(3, .int (-1)), (2, .int (-1)), (0, .ref (adr x a0)), (1, .int a1)]) rfl ?_
  refine g_iconst (pc := 22) C dX11_loudest_22 (v := 0) rfl ?_
  refine g_istore (pc := 23) C dX11_loudest_23 (Nat.le_of_ble_eq_true rfl) (lo' := [(4, .int 0), (3, .int (-1)), (2, .int (-1)), (0, .ref (adr x a0)), (1, .int a1)]) rfl ?_
  obtain ⟨n19, h⟩ := h
  refine g_sub [3, 4, 2, 1, 0] rfl ?_
  refine t_X11_loudest_25 C hlk hr hl htab n19 _ _ _ _ _ _ _ _ hb2 h
def w_X11_needSet (mc ms : Nat) (a0 : Nat) (a1 : Int32) (K : Wd → Prop) (X : String → Wd → Prop) (w : Wd) : Prop :=
  isK w a0 11 ∧ isK w (wR w a0 0) 5 ∧ isK w (wR w (wR w a0 0) 0) 2 ∧ isK w (wR w (wR w (wR w a0 0) 0) 0) 1 ∧ w_X1_allWells (wR w (wR w (wR w a0 0) 0) 0) (fun r5 w6 => (((a1 &&& (r5 ^^^ (-1))) = 0 → K w6) ∧ (¬ (a1 &&& (r5 ^^^ (-1))) = 0 → (1 ≤ mc ∧ 6 ≤ ms) ∧ ∀ N9, wN w6 ≤ N9 → X "java/lang/IllegalArgumentException" (wJ w6 N9)))) w
theorem c_X11_needSet {x : xG} {l : Launch} (hl : l.stackTraces = false) {a0 : Nat} {a1 : Int32} {mc ms : Nat} {X : String → Wd → Prop} {K : Wd → Prop} {w : Wd} (h : w_X11_needSet mc ms a0 a1 K X w) : vx_Met l yX11_needSet (xws yX11_needSet cX11_needSet 2 none) (rmd 6 mc ms) (xPc x [.ref (adr x a0), .int a1] w) (QcV x K) (XCx x X) mc ms (xA x) := by
  refine xMetX (by decide) (Nat.le_of_ble_eq_true rfl) (fun p e s m below meth c C hlk hr htab => ?_)
  show GW x p l e (rmd 6 mc ms) s m [.ref (adr x a0), .int a1].toArray below meth c 2 (vx_MQ below (QcV x K) (XCx x X) [.ref (adr x a0), .int a1].toArray s mc ms (xA x)) 0 [(0, .ref (adr x a0)), (1, .int a1)] [] w 0 0
  refine g_iload_n (pc := 0) C dX11_needSet_0 (q := 1) rfl ?_
  refine g_aload_n (pc := 1) C dX11_needSet_1 (q := 0) rfl ?_
  obtain ⟨k1, h⟩ := h
  obtain ⟨k2, h⟩ := h
  refine gfX11_49 (pc := 2) C k1 (isK_ne k2) dX11_needSet_2 ?_
  obtain ⟨k3, h⟩ := h
  refine gfX11_122 (pc := 5) C k2 (isK_ne k3) dX11_needSet_5 ?_
  obtain ⟨k4, h⟩ := h
  refine gfX11_125 (pc := 8) C k3 (isK_ne k4) dX11_needSet_8 ?_
  refine miX11_244 (pc := 11) C k4 h (Nat.le_of_ble_eq_true rfl) (Nat.le_of_ble_eq_true rfl) ⟨Nat.zero_le _, Nat.zero_le _⟩ dX11_needSet_11 (fun r5 w6 h => ?_)
  refine g_iconst (pc := 14) C dX11_needSet_14 (v := (-1)) rfl ?_
  refine g_ixor (pc := 15) C dX11_needSet_15 ?_
  refine g_iand (pc := 16) C dX11_needSet_16 ?_
  refine g_if_eq (pc := 17) C dX11_needSet_17 (tgt := 31) rfl (fun z7 => ?_) (fun z7 => ?_)
  · replace h := h.1 z7
    refine gx_ret ?_; exact g_vret (pc := 31) C hlk hr (Nat.zero_le _) (Nat.zero_le _) dX11_needSet_31 h
  · replace h := h.2 z7
    obtain ⟨hb8, h⟩ := h
    exact thr_IllegalArgumentException (pc := 20) C hl htab hlk (q := 26) (k0 := 26) rfl dX11_needSet_20 dX11_needSet_23 (Or.inr ⟨dX11_needSet_24, dX11_needSet_27, dX11_needSet_30⟩) (Nat.le_of_ble_eq_true rfl) (Nat.le_of_ble_eq_true rfl) hb8 h
theorem miX11_230 (C : xC x p s m c cc nL args RX11) {a0 : Nat} {a1 : Int64} {K : Int32 → Wd → Prop} {D MC MS : Nat} (hq : isK w a0 11) (h : w_X11_carryOutIfCan a0 a1 K w) (hD : 6 + 1 ≤ D) (hW : (st.map fun v => v.category).sum ≤ 8) (hij : i ≤ MC ∧ j ≤ MS) (hd : decode cc pc = .ok (.invokevirtual 230, 3)) (k : ∀ (r : Int32) (u : Wd), K r u → GW x p l e (rmd D MC MS) s m args below meth c nL Q (pc + 3) lo (.int r :: st) u i j) : GW x p l e (rmd D MC MS) s m args below meth c nL Q pc lo (.long a1 :: .ref (adr x a0) :: st) w i j := g_callVi0 C (As := [.long a1]) (ci := 11) (c_X11_carryOutIfCan h) (x_cwV C 1 LMX11_230 ⟨rfl, by decide, by decide, rfl⟩ hD (by decide)) rfl hq (by decide) rfl rfl hW hd hij k
def l_X11_perform_11 (mc ms : Nat) (X : String → Wd → Prop)  (K : Int32 → Wd → Prop) : Nat → Nat → Nat → Int32 → Int32 → Nat → Nat → Wd → Prop
  | 0, _, _, _, _, _, _, _ => False
  | n + 1, a0, a2, a3, a4, i0, j0, w => isK w a2 10 ∧ (((wI w a2 1) ≤ a4 → K a3 w) ∧ (¬ (wI w a2 1) ≤ a4 → w_X10_numberAt a2 a4 (fun r7 w8 => isK w8 a0 11 ∧ w_X11_carryOutIfCan a0 r7 (fun r10 w11 => ((r10 = 0 → K a3 w11) ∧ (¬ r10 = 0 → l_X11_perform_11 mc ms X K n a0 a2 (a3 + 1) (a4 + 1) i0 j0 w11))) w8) w))
def w_X11_perform (mc ms : Nat) (a0 : Nat) (a1 : Int32) (K : Int32 → Wd → Prop) (X : String → Wd → Prop) (w : Wd) : Prop :=
  isK w a0 11 ∧ (2 ≤ mc ∧ 12 ≤ ms) ∧ w_X11_presentTray 2 12 a0 a1 (fun r2 w3 => ∃ n13, l_X11_perform_11 mc ms X  K n13 a0 r2 0 0 2 12 w3) X w
theorem t_X11_perform_11 (C : xC x p s m c cX11_perform 5 args RX11) (hlk : meth.locks = false) (hr : meth.sig.returnType = some .int) (hl : l.stackTraces = false) (htab : ∀ z ∈ c.exceptionTable.toList, False) {mc ms : Nat} {X : String → Wd → Prop} {K : Int32 → Wd → Prop}   : ∀ (n : Nat) (a0 : Nat) (a2 : Nat) (a3 : Int32) (a4 : Int32) (i0 j0 : Nat) (w : Wd), i0 ≤ mc ∧ j0 ≤ ms → l_X11_perform_11 mc ms X K n a0 a2 a3 a4 i0 j0 w → GW x p l e (rmd 8 mc ms) s m args below meth c 5 (vx_MQ below (QcI x K) (XCx x X) args s mc ms (xA x)) 11 [(0, .ref (adr x a0)), (2, .ref (adr x a2)), (3, .int a3), (4, .int a4)] [] w i0 j0 := by
  intro n
  induction n with
  | zero => intro _ _ _ _ _ _ _ _ h; exact False.elim h
  | succ n ih =>
    intro a0 a2 a3 a4 i0 j0 w hb h
    refine g_iload (pc := 11) C dX11_perform_11 (q := 3) rfl ?_
    refine g_aload_n (pc := 13) C dX11_perform_13 (q := 1) rfl ?_
    obtain ⟨k5, h⟩ := h
    refine gfX11_215 (pc := 14) C k5 dX11_perform_14 ?_
    refine g_icmp_ge (pc := 17) C dX11_perform_17 (tgt := 42) rfl (fun z6 => ?_) (fun z6 => ?_)
    · replace h := h.1 z6
      refine g_iload_n (pc := 42) C dX11_perform_42 (q := 2) rfl ?_
      refine gx_ret ?_; exact g_iret (pc := 43) C hlk hr hb.1 hb.2 dX11_perform_43 h
    · replace h := h.2 z6
      refine g_aload_n (pc := 20) C dX11_perform_20 (q := 0) rfl ?_
      refine g_aload_n (pc := 21) C dX11_perform_21 (q := 1) rfl ?_
      refine g_iload (pc := 22) C dX11_perform_22 (q := 3) rfl ?_
      refine miX11_218 (pc := 24) C k5 h (Nat.le_of_ble_eq_true rfl) (Nat.le_of_ble_eq_true rfl) hb dX11_perform_24 (fun r7 w8 h => ?_)
      obtain ⟨k9, h⟩ := h
      refine miX11_230 (pc := 27) C k9 h (Nat.le_of_ble_eq_true rfl) (Nat.le_of_ble_eq_true rfl) hb dX11_perform_27 (fun r10 w11 h => ?_)
      refine g_if_eq (pc := 30) C dX11_perform_30 (tgt := 42) rfl (fun z12 => ?_) (fun z12 => ?_)
      · replace h := h.1 z12
        refine g_iload_n (pc := 42) C dX11_perform_42 (q := 2) rfl ?_
        refine gx_ret ?_; exact g_iret (pc := 43) C hlk hr hb.1 hb.2 dX11_perform_43 h
      · replace h := h.2 z12
        refine g_iinc (pc := 33) C dX11_perform_33 (q := 2) rfl (v2 := a3 + 1) rfl (Nat.le_of_ble_eq_true rfl) (lo' := [(3, .int (a3 + 1)), (0, .ref (adr x a0)), (2, .ref (adr x a2)), (4, .int a4)]) rfl ?_
        refine g_iinc (pc := 36) C dX11_perform_36 (q := 3) rfl (v2 := a4 + 1) rfl (Nat.le_of_ble_eq_true rfl) (lo' := [(4, .int (a4 + 1)), (3, .int (a3 + 1)), (0, .ref (adr x a0)), (2, .ref (adr x a2))]) rfl ?_
        refine g_goto (pc := 39) C dX11_perform_39 (tgt := 11) rfl ?_
        refine g_sub [2, 3, 1, 0] rfl ?_
        exact ih _ _ _ _ _ _ _ hb h
theorem c_X11_perform {x : xG} {l : Launch} (hl : l.stackTraces = false) {a0 : Nat} {a1 : Int32} {mc ms : Nat} {X : String → Wd → Prop} {K : Int32 → Wd → Prop} {w : Wd} (h : w_X11_perform mc ms a0 a1 K X w) : vx_Met l yX11_perform (xws yX11_perform cX11_perform 5 (some .int)) (rmd 8 mc ms) (xPc x [.ref (adr x a0), .int a1] w) (QcI x K) (XCx x X) mc ms (xA x) := by
  refine xMetX (by decide) (Nat.le_of_ble_eq_true rfl) (fun p e s m below meth c C hlk hr htab => ?_)
  show GW x p l e (rmd 8 mc ms) s m [.ref (adr x a0), .int a1].toArray below meth c 5 (vx_MQ below (QcI x K) (XCx x X) [.ref (adr x a0), .int a1].toArray s mc ms (xA x)) 0 [(0, .ref (adr x a0)), (1, .int a1)] [] w 0 0
  refine g_aload_n (pc := 0) C dX11_perform_0 (q := 0) rfl ?_
  refine g_iload_n (pc := 1) C dX11_perform_1 (q := 1) rfl ?_
  obtain ⟨k1, h⟩ := h
  obtain ⟨hb4, h⟩ := h
  refine mxX11_208 (pc := 2) C hl htab hlk k1 h (Nat.le_of_ble_eq_true rfl) (Nat.le_of_ble_eq_true rfl) hb4 dX11_perform_2 (fun r2 w3 h => ?_)
  refine g_astore_n (pc := 5) C dX11_perform_5 (Nat.le_of_ble_eq_true rfl) (lo' := [(2, .ref (adr x r2)), (0, .ref (adr x a0)), (1, .int a1)]) rfl ?_
  refine g_iconst (pc := 6) C dX11_perform_6 (v := 0) rfl ?_
  refine g_istore_n (pc := 7) C dX11_perform_7 (Nat.le_of_ble_eq_true rfl) (lo' := [(3, .int 0), (2, .ref (adr x r2)), (0, .ref (adr x a0)), (1, .int a1)]) rfl ?_
  refine g_iconst (pc := 8) C dX11_perform_8 (v := 0) rfl ?_
  refine g_istore (pc := 9) C dX11_perform_9 (Nat.le_of_ble_eq_true rfl) (lo' := [(4, .int 0), (3, .int 0), (2, .ref (adr x r2)), (0, .ref (adr x a0)), (1, .int a1)]) rfl ?_
  obtain ⟨n13, h⟩ := h
  refine g_sub [3, 2, 1, 0] rfl ?_
  refine t_X11_perform_11 C hlk hr hl htab n13 _ _ _ _ _ _ _ hb4 h
theorem miX11_327 (C : xC x p s m c cc nL args RX11) {a0 : Nat} {K : Int32 → Wd → Prop} {D MC MS : Nat} (hq : isK w a0 6) (h : w_X6_soonestEnd a0 K w) (hD : 2 + 1 ≤ D) (hW : (st.map fun v => v.category).sum ≤ 8) (hij : i ≤ MC ∧ j ≤ MS) (hd : decode cc pc = .ok (.invokevirtual 327, 3)) (k : ∀ (r : Int32) (u : Wd), K r u → GW x p l e (rmd D MC MS) s m args below meth c nL Q (pc + 3) lo (.int r :: st) u i j) : GW x p l e (rmd D MC MS) s m args below meth c nL Q pc lo (.ref (adr x a0) :: st) w i j := g_callVi0 C (As := []) (ci := 6) (c_X6_soonestEnd h) (x_cwV C 0 LMX11_327 ⟨rfl, by decide, by decide, rfl⟩ hD (by decide)) rfl hq (by decide) rfl rfl hW hd hij k
theorem miX11_333 (C : xC x p s m c cc nL args RX11) {a0 : Nat} {a1 : Int32} {a2 : Int32} {K : Int32 → Wd → Prop} {D MC MS : Nat} (hq : isK w a0 6) (h : w_X6_hourInPlan a0 a1 a2 K w) (hD : 3 + 1 ≤ D) (hW : (st.map fun v => v.category).sum ≤ 8) (hij : i ≤ MC ∧ j ≤ MS) (hd : decode cc pc = .ok (.invokevirtual 333, 3)) (k : ∀ (r : Int32) (u : Wd), K r u → GW x p l e (rmd D MC MS) s m args below meth c nL Q (pc + 3) lo (.int r :: st) u i j) : GW x p l e (rmd D MC MS) s m args below meth c nL Q pc lo (.int a2 :: .int a1 :: .ref (adr x a0) :: st) w i j := g_callVi0 C (As := [.int a1, .int a2]) (ci := 6) (c_X6_hourInPlan h) (x_cwV C 2 LMX11_333 ⟨rfl, by decide, by decide, rfl⟩ hD (by decide)) rfl hq (by decide) rfl rfl hW hd hij k
def j_X11_plan_53 (mc ms : Nat) (X : String → Wd → Prop)  (K : Int32 → Wd → Prop) (a0 : Nat) (a1 : Int32) (a2 : Int32) (s0 : Int32) (i0 j0 : Nat) (w : Wd) : Prop :=
  isK w a0 11 ∧ isK w (wR w a0 0) 5 ∧ isK w (wR w (wR w a0 0) 0) 2 ∧ isK w (wR w (wR w (wR w a0 0) 0) 0) 1 ∧ w_X1_hasHouse (wR w (wR w (wR w a0 0) 0) 0) s0 (fun r17 w18 => ((r17 = 0 → K (-1) w18) ∧ (¬ r17 = 0 → ((a1 = 0 → K a2 w18) ∧ (¬ a1 = 0 → isK w18 a0 11 ∧ isK w18 (wR w18 a0 8) 6 ∧ w_X6_hourInPlan (wR w18 a0 8) s0 a2 (fun r23 w24 => K r23 w24) w18))))) w
def j_X11_plan_12 (mc ms : Nat) (X : String → Wd → Prop)  (K : Int32 → Wd → Prop) (a0 : Nat) (a1 : Int32) (i0 j0 : Nat) (w : Wd) : Prop :=
  isK w a0 11 ∧ isK w (wR w a0 8) 6 ∧ isK w (wR w a0 0) 5 ∧ isK w (wR w (wR w a0 0) 0) 2 ∧ w_X6_lookAhead (wR w a0 8) (wR w (wR w a0 0) 0) (fun w6 => isK w6 a0 11 ∧ isK w6 (wR w6 a0 8) 6 ∧ w_X6_soonestEnd (wR w6 a0 8) (fun r9 w10 => ((0 ≤ r9 → ((a1 = 0 → j_X11_plan_53 mc ms X K a0 a1 r9 0 i0 j0 w10) ∧ (¬ a1 = 0 → j_X11_plan_53 mc ms X K a0 a1 r9 (a1 - 10) i0 j0 w10))) ∧ (¬ 0 ≤ r9 → K (-2) w10))) w6) w
def w_X11_plan (mc ms : Nat) (a0 : Nat) (a1 : Int32) (K : Int32 → Wd → Prop) (X : String → Wd → Prop) (w : Wd) : Prop :=
  ((a1 = 0 → j_X11_plan_12 mc ms X K a0 a1 0 0 w) ∧ (¬ a1 = 0 → (1 ≤ mc ∧ 6 ≤ ms) ∧ w_X11_needWithin 1 6 a1 10 15 (fun w25 => j_X11_plan_12 mc ms X K a0 a1 1 6 w25) X w))
theorem t_X11_plan_53 (C : xC x p s m c cX11_plan 4 args RX11) (hlk : meth.locks = false) (hr : meth.sig.returnType = some .int) (hl : l.stackTraces = false) (htab : ∀ z ∈ c.exceptionTable.toList, False) {mc ms : Nat} {X : String → Wd → Prop} {K : Int32 → Wd → Prop}   (a0 : Nat) (a1 : Int32) (a2 : Int32) (s0 : Int32) (i0 j0 : Nat) (w : Wd) (hb : i0 ≤ mc ∧ j0 ≤ ms) (h : j_X11_plan_53 mc ms X K a0 a1 a2 s0 i0 j0 w) : GW x p l e (rmd 7 mc ms) s m args below meth c 4 (vx_MQ below (QcI x K) (XCx x X) args s mc ms (xA x)) 53 [(0, .ref (adr x a0)), (1, .int a1), (2, .int a2)] [.int s0] w i0 j0 := by
  refine g_istore_n (pc := 53) C dX11_plan_53 (Nat.le_of_ble_eq_true rfl) (lo' := [(3, .int s0), (0, .ref (adr x a0)), (1, .int a1), (2, .int a2)]) rfl ?_
  refine g_aload_n (pc := 54) C dX11_plan_54 (q := 1) rfl ?_
  obtain ⟨k13, h⟩ := h
  obtain ⟨k14, h⟩ := h
  refine gfX11_49 (pc := 55) C k13 (isK_ne k14) dX11_plan_55 ?_
  obtain ⟨k15, h⟩ := h
  refine gfX11_122 (pc := 58) C k14 (isK_ne k15) dX11_plan_58 ?_
  obtain ⟨k16, h⟩ := h
  refine gfX11_125 (pc := 61) C k15 (isK_ne k16) dX11_plan_61 ?_
  refine g_iload_n (pc := 64) C dX11_plan_64 (q := 0) rfl ?_
  refine miX11_330 (pc := 65) C k16 h (Nat.le_of_ble_eq_true rfl) (Nat.le_of_ble_eq_true rfl) hb dX11_plan_65 (fun r17 w18 h => ?_)
  refine g_if_ne (pc := 68) C dX11_plan_68 (tgt := 73) rfl (fun z19 => ?_) (fun z19 => ?_)
  · replace h := h.2 z19
    refine g_iload_n (pc := 73) C dX11_plan_73 (q := 2) rfl ?_
    refine g_if_ne (pc := 74) C dX11_plan_74 (tgt := 81) rfl (fun z20 => ?_) (fun z20 => ?_)
    · replace h := h.2 z20
      refine g_aload_n (pc := 81) C dX11_plan_81 (q := 1) rfl ?_
      obtain ⟨k21, h⟩ := h
      obtain ⟨k22, h⟩ := h
      refine gfX11_83 (pc := 82) C k21 (isK_ne k22) dX11_plan_82 ?_
      refine g_iload_n (pc := 85) C dX11_plan_85 (q := 0) rfl ?_
      refine g_iload_n (pc := 86) C dX11_plan_86 (q := 3) rfl ?_
      refine miX11_333 (pc := 87) C k22 h (Nat.le_of_ble_eq_true rfl) (Nat.le_of_ble_eq_true rfl) hb dX11_plan_87 (fun r23 w24 h => ?_)
      refine gx_ret ?_; exact g_iret (pc := 90) C hlk hr hb.1 hb.2 dX11_plan_90 h
    · replace h := h.1 z20
      refine g_iload_n (pc := 77) C dX11_plan_77 (q := 3) rfl ?_
      refine g_goto (pc := 78) C dX11_plan_78 (tgt := 90) rfl ?_
      refine gx_ret ?_; exact g_iret (pc := 90) C hlk hr hb.1 hb.2 dX11_plan_90 h
  · replace h := h.1 z19
    refine g_iconst (pc := 71) C dX11_plan_71 (v := (-1)) rfl ?_
    refine gx_ret ?_; exact g_iret (pc := 72) C hlk hr hb.1 hb.2 dX11_plan_72 h
theorem t_X11_plan_12 (C : xC x p s m c cX11_plan 4 args RX11) (hlk : meth.locks = false) (hr : meth.sig.returnType = some .int) (hl : l.stackTraces = false) (htab : ∀ z ∈ c.exceptionTable.toList, False) {mc ms : Nat} {X : String → Wd → Prop} {K : Int32 → Wd → Prop}   (a0 : Nat) (a1 : Int32) (i0 j0 : Nat) (w : Wd) (hb : i0 ≤ mc ∧ j0 ≤ ms) (h : j_X11_plan_12 mc ms X K a0 a1 i0 j0 w) : GW x p l e (rmd 7 mc ms) s m args below meth c 4 (vx_MQ below (QcI x K) (XCx x X) args s mc ms (xA x)) 12 [(0, .ref (adr x a0)), (1, .int a1)] [] w i0 j0 := by
  refine g_aload_n (pc := 12) C dX11_plan_12 (q := 0) rfl ?_
  obtain ⟨k2, h⟩ := h
  obtain ⟨k3, h⟩ := h
  refine gfX11_83 (pc := 13) C k2 (isK_ne k3) dX11_plan_13 ?_
  refine g_aload_n (pc := 16) C dX11_plan_16 (q := 0) rfl ?_
  obtain ⟨k4, h⟩ := h
  refine gfX11_49 (pc := 17) C k2 (isK_ne k4) dX11_plan_17 ?_
  obtain ⟨k5, h⟩ := h
  refine gfX11_122 (pc := 20) C k4 (isK_ne k5) dX11_plan_20 ?_
  refine miX11_316 (pc := 23) C k3 h (Nat.le_of_ble_eq_true rfl) (Nat.le_of_ble_eq_true rfl) hb dX11_plan_23 (fun w6 h => ?_)
  refine g_aload_n (pc := 26) C dX11_plan_26 (q := 0) rfl ?_
  obtain ⟨k7, h⟩ := h
  obtain ⟨k8, h⟩ := h
  refine gfX11_83 (pc := 27) C k7 (isK_ne k8) dX11_plan_27 ?_
  refine miX11_327 (pc := 30) C k8 h (Nat.le_of_ble_eq_true rfl) (Nat.le_of_ble_eq_true rfl) hb dX11_plan_30 (fun r9 w10 h => ?_)
  refine g_istore_n (pc := 33) C dX11_plan_33 (Nat.le_of_ble_eq_true rfl) (lo' := [(2, .int r9), (0, .ref (adr x a0)), (1, .int a1)]) rfl ?_
  refine g_iload_n (pc := 34) C dX11_plan_34 (q := 0) rfl ?_
  refine g_if_ge (pc := 35) C dX11_plan_35 (tgt := 41) rfl (fun z11 => ?_) (fun z11 => ?_)
  · replace h := h.1 z11
    refine g_iload_n (pc := 41) C dX11_plan_41 (q := 2) rfl ?_
    refine g_if_ne (pc := 42) C dX11_plan_42 (tgt := 49) rfl (fun z12 => ?_) (fun z12 => ?_)
    · replace h := h.2 z12
      refine g_iload_n (pc := 49) C dX11_plan_49 (q := 2) rfl ?_
      refine g_bipush (pc := 50) C dX11_plan_50 (v := 10) rfl ?_
      refine g_isub (pc := 52) C dX11_plan_52 ?_
      refine g_sub [1, 2, 0] rfl ?_
      exact t_X11_plan_53 C hlk hr hl htab  _ _ _ _ _ _ _ hb h
    · replace h := h.1 z12
      refine g_iconst (pc := 45) C dX11_plan_45 (v := 0) rfl ?_
      refine g_goto (pc := 46) C dX11_plan_46 (tgt := 53) rfl ?_
      refine g_sub [1, 2, 0] rfl ?_
      exact t_X11_plan_53 C hlk hr hl htab  _ _ _ _ _ _ _ hb h
  · replace h := h.2 z11
    refine g_bipush (pc := 38) C dX11_plan_38 (v := (-2)) rfl ?_
    refine gx_ret ?_; exact g_iret (pc := 40) C hlk hr hb.1 hb.2 dX11_plan_40 h
theorem c_X11_plan {x : xG} {l : Launch} (hl : l.stackTraces = false) {a0 : Nat} {a1 : Int32} {mc ms : Nat} {X : String → Wd → Prop} {K : Int32 → Wd → Prop} {w : Wd} (h : w_X11_plan mc ms a0 a1 K X w) : vx_Met l yX11_plan (xws yX11_plan cX11_plan 4 (some .int)) (rmd 7 mc ms) (xPc x [.ref (adr x a0), .int a1] w) (QcI x K) (XCx x X) mc ms (xA x) := by
  refine xMetX (by decide) (Nat.le_of_ble_eq_true rfl) (fun p e s m below meth c C hlk hr htab => ?_)
  show GW x p l e (rmd 7 mc ms) s m [.ref (adr x a0), .int a1].toArray below meth c 4 (vx_MQ below (QcI x K) (XCx x X) [.ref (adr x a0), .int a1].toArray s mc ms (xA x)) 0 [(0, .ref (adr x a0)), (1, .int a1)] [] w 0 0
  refine g_iload_n (pc := 0) C dX11_plan_0 (q := 1) rfl ?_
  refine g_if_eq (pc := 1) C dX11_plan_1 (tgt := 12) rfl (fun z1 => ?_) (fun z1 => ?_)
  · replace h := h.1 z1
    exact t_X11_plan_12 C hlk hr hl htab  _ _ _ _ _ ⟨Nat.zero_le _, Nat.zero_le _⟩ h
  · replace h := h.2 z1
    refine g_iload_n (pc := 4) C dX11_plan_4 (q := 1) rfl ?_
    refine g_bipush (pc := 5) C dX11_plan_5 (v := 10) rfl ?_
    refine g_bipush (pc := 7) C dX11_plan_7 (v := 15) rfl ?_
    obtain ⟨hb26, h⟩ := h
    refine mxX11_95 (pc := 9) C hl htab hlk h (Nat.le_of_ble_eq_true rfl) (Nat.le_of_ble_eq_true rfl) hb26 dX11_plan_9 (fun w25 h => ?_)
    exact t_X11_plan_12 C hlk hr hl htab  _ _ _ _ _ hb26 h
def w_X11_quietHours (mc ms : Nat) (a0 : Nat) (a1 : Int32) (K : Int64 → Wd → Prop) (X : String → Wd → Prop) (w : Wd) : Prop :=
  isK w a0 11 ∧ (1 ≤ mc ∧ 6 ≤ ms) ∧ w_X11_needHouse 1 6 a0 a1 (fun w2 => isK w2 a0 11 ∧ isK w2 (wR w2 a0 8) 6 ∧ isK w2 (wR w2 a0 0) 5 ∧ isK w2 (wR w2 (wR w2 a0 0) 0) 2 ∧ w_X6_lookAhead (wR w2 a0 8) (wR w2 (wR w2 a0 0) 0) (fun w8 => isK w8 a0 11 ∧ isK w8 (wR w8 a0 8) 6 ∧ w_X6_hoursOf (wR w8 a0 8) a1 (fun r11 w12 => K r11 w12) w8) w2) X w
theorem c_X11_quietHours {x : xG} {l : Launch} (hl : l.stackTraces = false) {a0 : Nat} {a1 : Int32} {mc ms : Nat} {X : String → Wd → Prop} {K : Int64 → Wd → Prop} {w : Wd} (h : w_X11_quietHours mc ms a0 a1 K X w) : vx_Met l yX11_quietHours (xws yX11_quietHours cX11_quietHours 2 (some .long)) (rmd 7 mc ms) (xPc x [.ref (adr x a0), .int a1] w) (QcL x K) (XCx x X) mc ms (xA x) := by
  refine xMetX (by decide) (Nat.le_of_ble_eq_true rfl) (fun p e s m below meth c C hlk hr htab => ?_)
  show GW x p l e (rmd 7 mc ms) s m [.ref (adr x a0), .int a1].toArray below meth c 2 (vx_MQ below (QcL x K) (XCx x X) [.ref (adr x a0), .int a1].toArray s mc ms (xA x)) 0 [(0, .ref (adr x a0)), (1, .int a1)] [] w 0 0
  refine g_aload_n (pc := 0) C dX11_quietHours_0 (q := 0) rfl ?_
  refine g_iload_n (pc := 1) C dX11_quietHours_1 (q := 1) rfl ?_
  obtain ⟨k1, h⟩ := h
  obtain ⟨hb3, h⟩ := h
  refine mxX11_156 (pc := 2) C hl htab hlk k1 h (Nat.le_of_ble_eq_true rfl) (Nat.le_of_ble_eq_true rfl) hb3 dX11_quietHours_2 (fun w2 h => ?_)
  refine g_aload_n (pc := 5) C dX11_quietHours_5 (q := 0) rfl ?_
  obtain ⟨k4, h⟩ := h
  obtain ⟨k5, h⟩ := h
  refine gfX11_83 (pc := 6) C k4 (isK_ne k5) dX11_quietHours_6 ?_
  refine g_aload_n (pc := 9) C dX11_quietHours_9 (q := 0) rfl ?_
  obtain ⟨k6, h⟩ := h
  refine gfX11_49 (pc := 10) C k4 (isK_ne k6) dX11_quietHours_10 ?_
  obtain ⟨k7, h⟩ := h
  refine gfX11_122 (pc := 13) C k6 (isK_ne k7) dX11_quietHours_13 ?_
  refine miX11_316 (pc := 16) C k5 h (Nat.le_of_ble_eq_true rfl) (Nat.le_of_ble_eq_true rfl) hb3 dX11_quietHours_16 (fun w8 h => ?_)
  refine g_aload_n (pc := 19) C dX11_quietHours_19 (q := 0) rfl ?_
  obtain ⟨k9, h⟩ := h
  obtain ⟨k10, h⟩ := h
  refine gfX11_83 (pc := 20) C k9 (isK_ne k10) dX11_quietHours_20 ?_
  refine g_iload_n (pc := 23) C dX11_quietHours_23 (q := 1) rfl ?_
  refine miX11_319 (pc := 24) C k10 h (Nat.le_of_ble_eq_true rfl) (Nat.le_of_ble_eq_true rfl) hb3 dX11_quietHours_24 (fun r11 w12 h => ?_)
  refine gx_ret ?_; exact g_lret (pc := 27) C hlk hr hb3.1 hb3.2 dX11_quietHours_27 h
theorem miX11_287 (C : xC x p s m c cc nL args RX11) {a0 : Nat} {a1 : Nat} {K : Wd → Prop} {D MC MS : Nat} (hq : isK w a0 4) (h : w_X4_lookAt a0 a1 K w) (hD : 3 + 1 ≤ D) (hW : (st.map fun v => v.category).sum ≤ 8) (hij : i ≤ MC ∧ j ≤ MS) (hd : decode cc pc = .ok (.invokevirtual 287, 3)) (k : ∀ (u : Wd), K u → GW x p l e (rmd D MC MS) s m args below meth c nL Q (pc + 3) lo st u i j) : GW x p l e (rmd D MC MS) s m args below meth c nL Q pc lo (.ref (adr x a1) :: .ref (adr x a0) :: st) w i j := g_callVv0 C (As := [.ref (adr x a1)]) (ci := 4) (c_X4_lookAt h) (x_cwV C 1 LMX11_287 ⟨rfl, by decide, by decide, rfl⟩ hD (by decide)) rfl hq (by decide) rfl rfl hW hd hij k
theorem miX11_322 (C : xC x p s m c cc nL args RX11) {a0 : Nat} {a1 : Int32} {K : Wd → Prop} {D MC MS : Nat} (hq : isK w a0 11) (h : w_X11_lookAhead a0 a1 K w) (hD : 4 + 1 ≤ D) (hW : (st.map fun v => v.category).sum ≤ 8) (hij : i ≤ MC ∧ j ≤ MS) (hd : decode cc pc = .ok (.invokevirtual 322, 3)) (k : ∀ (u : Wd), K u → GW x p l e (rmd D MC MS) s m args below meth c nL Q (pc + 3) lo st u i j) : GW x p l e (rmd D MC MS) s m args below meth c nL Q pc lo (.int a1 :: .ref (adr x a0) :: st) w i j := g_callVv0 C (As := [.int a1]) (ci := 11) (c_X11_lookAhead h) (x_cwV C 1 LMX11_322 ⟨rfl, by decide, by decide, rfl⟩ hD (by decide)) rfl hq (by decide) rfl rfl hW hd hij k
theorem miX11_324 (C : xC x p s m c cc nL args RX11) {a0 : Nat} {a1 : Int32} {K : Int32 → Wd → Prop} {D MC MS : Nat} (hq : isK w a0 6) (h : w_X6_quietWellNow a0 a1 K w) (hD : 4 + 1 ≤ D) (hW : (st.map fun v => v.category).sum ≤ 8) (hij : i ≤ MC ∧ j ≤ MS) (hd : decode cc pc = .ok (.invokevirtual 324, 3)) (k : ∀ (r : Int32) (u : Wd), K r u → GW x p l e (rmd D MC MS) s m args below meth c nL Q (pc + 3) lo (.int r :: st) u i j) : GW x p l e (rmd D MC MS) s m args below meth c nL Q pc lo (.int a1 :: .ref (adr x a0) :: st) w i j := g_callVi0 C (As := [.int a1]) (ci := 6) (c_X6_quietWellNow h) (x_cwV C 1 LMX11_324 ⟨rfl, by decide, by decide, rfl⟩ hD (by decide)) rfl hq (by decide) rfl rfl hW hd hij k
def w_X11_quietWell (mc ms : Nat) (a0 : Nat) (a1 : Int32) (a2 : Int32) (K : Int32 → Wd → Prop) (X : String → Wd → Prop) (w : Wd) : Prop :=
  isK w a0 11 ∧ (1 ≤ mc ∧ 6 ≤ ms) ∧ w_X11_needHouse 1 6 a0 a1 (fun w2 => (2 ≤ mc ∧ 12 ≤ ms) ∧ w_X11_needWithin 1 6 a2 0 40 (fun w4 => isK w4 a0 11 ∧ w_X11_lookAhead a0 a2 (fun w7 => isK w7 a0 11 ∧ isK w7 (wR w7 a0 5) 4 ∧ isK w7 (wR w7 a0 3) 2 ∧ w_X4_lookAt (wR w7 a0 5) (wR w7 a0 3) (fun w11 => isK w11 a0 11 ∧ isK w11 (wR w11 a0 8) 6 ∧ w_X6_quietWellNow (wR w11 a0 8) a1 (fun r14 w15 => K r14 w15) w11) w7) w4) X w2) X w
theorem c_X11_quietWell {x : xG} {l : Launch} (hl : l.stackTraces = false) {a0 : Nat} {a1 : Int32} {a2 : Int32} {mc ms : Nat} {X : String → Wd → Prop} {K : Int32 → Wd → Prop} {w : Wd} (h : w_X11_quietWell mc ms a0 a1 a2 K X w) : vx_Met l yX11_quietWell (xws yX11_quietWell cX11_quietWell 3 (some .int)) (rmd 7 mc ms) (xPc x [.ref (adr x a0), .int a1, .int a2] w) (QcI x K) (XCx x X) mc ms (xA x) := by
  refine xMetX (by decide) (Nat.le_of_ble_eq_true rfl) (fun p e s m below meth c C hlk hr htab => ?_)
  show GW x p l e (rmd 7 mc ms) s m [.ref (adr x a0), .int a1, .int a2].toArray below meth c 3 (vx_MQ below (QcI x K) (XCx x X) [.ref (adr x a0), .int a1, .int a2].toArray s mc ms (xA x)) 0 [(0, .ref (adr x a0)), (1, .int a1), (2, .int a2)] [] w 0 0
  refine g_aload_n (pc := 0) C dX11_quietWell_0 (q := 0) rfl ?_
  refine g_iload_n (pc := 1) C dX11_quietWell_1 (q := 1) rfl ?_
  obtain ⟨k1, h⟩ := h
  obtain ⟨hb3, h⟩ := h
  refine mxX11_156 (pc := 2) C hl htab hlk k1 h (Nat.le_of_ble_eq_true rfl) (Nat.le_of_ble_eq_true rfl) hb3 dX11_quietWell_2 (fun w2 h => ?_)
  refine g_iload_n (pc := 5) C dX11_quietWell_5 (q := 2) rfl ?_
  refine g_iconst (pc := 6) C dX11_quietWell_6 (v := 0) rfl ?_
  refine g_bipush (pc := 7) C dX11_quietWell_7 (v := 40) rfl ?_
  obtain ⟨hb5, h⟩ := h
  refine mxX11_95 (pc := 9) C hl htab hlk h (Nat.le_of_ble_eq_true rfl) (Nat.le_of_ble_eq_true rfl) hb5 dX11_quietWell_9 (fun w4 h => ?_)
  refine g_aload_n (pc := 12) C dX11_quietWell_12 (q := 0) rfl ?_
  refine g_iload_n (pc := 13) C dX11_quietWell_13 (q := 2) rfl ?_
  obtain ⟨k6, h⟩ := h
  refine miX11_322 (pc := 14) C k6 h (Nat.le_of_ble_eq_true rfl) (Nat.le_of_ble_eq_true rfl) hb5 dX11_quietWell_14 (fun w7 h => ?_)
  refine g_aload_n (pc := 17) C dX11_quietWell_17 (q := 0) rfl ?_
  obtain ⟨k8, h⟩ := h
  obtain ⟨k9, h⟩ := h
  refine gfX11_65 (pc := 18) C k8 (isK_ne k9) dX11_quietWell_18 ?_
  refine g_aload_n (pc := 21) C dX11_quietWell_21 (q := 0) rfl ?_
  obtain ⟨k10, h⟩ := h
  refine gfX11_54 (pc := 22) C k8 (isK_ne k10) dX11_quietWell_22 ?_
  refine miX11_287 (pc := 25) C k9 h (Nat.le_of_ble_eq_true rfl) (Nat.le_of_ble_eq_true rfl) hb5 dX11_quietWell_25 (fun w11 h => ?_)
  refine g_aload_n (pc := 28) C dX11_quietWell_28 (q := 0) rfl ?_
  obtain ⟨k12, h⟩ := h
  obtain ⟨k13, h⟩ := h
  refine gfX11_83 (pc := 29) C k12 (isK_ne k13) dX11_quietWell_29 ?_
  refine g_iload_n (pc := 32) C dX11_quietWell_32 (q := 1) rfl ?_
  refine miX11_324 (pc := 33) C k13 h (Nat.le_of_ble_eq_true rfl) (Nat.le_of_ble_eq_true rfl) hb5 dX11_quietWell_33 (fun r14 w15 h => ?_)
  refine gx_ret ?_; exact g_iret (pc := 36) C hlk hr hb5.1 hb5.2 dX11_quietWell_36 h
theorem miX11_290 (C : xC x p s m c cc nL args RX11) {a0 : Nat} {a1 : Int32} {a2 : Int32} {K : Int32 → Wd → Prop} {D MC MS : Nat} (hq : isK w a0 4) (h : w_X4_wokenAtOnce a0 a1 a2 K w) (hD : 2 + 1 ≤ D) (hW : (st.map fun v => v.category).sum ≤ 8) (hij : i ≤ MC ∧ j ≤ MS) (hd : decode cc pc = .ok (.invokevirtual 290, 3)) (k : ∀ (r : Int32) (u : Wd), K r u → GW x p l e (rmd D MC MS) s m args below meth c nL Q (pc + 3) lo (.int r :: st) u i j) : GW x p l e (rmd D MC MS) s m args below meth c nL Q pc lo (.int a2 :: .int a1 :: .ref (adr x a0) :: st) w i j := g_callVi0 C (As := [.int a1, .int a2]) (ci := 4) (c_X4_wokenAtOnce h) (x_cwV C 2 LMX11_290 ⟨rfl, by decide, by decide, rfl⟩ hD (by decide)) rfl hq (by decide) rfl rfl hW hd hij k
def l_X11_quietest_22 (mc ms : Nat) (X : String → Wd → Prop)  (K : Int32 → Wd → Prop) : Nat → Nat → Int32 → Int32 → Nat → Nat → Wd → Prop
  | 0, _, _, _, _, _, _ => False
  | n + 1, a0, a1, a2, i0, j0, w => ((a2 < 1 → K 0 w) ∧ (¬ a2 < 1 → isK w a0 11 ∧ isK w (wR w a0 0) 5 ∧ isK w (wR w (wR w a0 0) 0) 2 ∧ w_X0_whyNotDraw (wR w (wR w a0 0) 0) a1 a2 (fun r13 w14 => ((r13 = 0 → isK w14 a0 11 ∧ isK w14 (wR w14 a0 5) 4 ∧ w_X4_wokenAtOnce (wR w14 a0 5) a1 a2 (fun r18 w19 => ((r18 = 0 → K a2 w19) ∧ (¬ r18 = 0 → l_X11_quietest_22 mc ms X K n a0 a1 (a2 + (-1)) i0 j0 w19))) w14) ∧ (¬ r13 = 0 → l_X11_quietest_22 mc ms X K n a0 a1 (a2 + (-1)) i0 j0 w14))) w))
def w_X11_quietest (mc ms : Nat) (a0 : Nat) (a1 : Int32) (K : Int32 → Wd → Prop) (X : String → Wd → Prop) (w : Wd) : Prop :=
  isK w a0 11 ∧ (1 ≤ mc ∧ 6 ≤ ms) ∧ w_X11_needWell 1 6 a0 a1 (fun w2 => isK w2 a0 11 ∧ isK w2 (wR w2 a0 5) 4 ∧ isK w2 (wR w2 a0 0) 5 ∧ isK w2 (wR w2 (wR w2 a0 0) 0) 2 ∧ w_X4_lookAt (wR w2 a0 5) (wR w2 (wR w2 a0 0) 0) (fun w8 => ∃ n21, l_X11_quietest_22 mc ms X  K n21 a0 a1 99 1 6 w8) w2) X w
theorem t_X11_quietest_22 (C : xC x p s m c cX11_quietest 3 args RX11) (hlk : meth.locks = false) (hr : meth.sig.returnType = some .int) (hl : l.stackTraces = false) (htab : ∀ z ∈ c.exceptionTable.toList, False) {mc ms : Nat} {X : String → Wd → Prop} {K : Int32 → Wd → Prop}   : ∀ (n : Nat) (a0 : Nat) (a1 : Int32) (a2 : Int32) (i0 j0 : Nat) (w : Wd), i0 ≤ mc ∧ j0 ≤ ms → l_X11_quietest_22 mc ms X K n a0 a1 a2 i0 j0 w → GW x p l e (rmd 7 mc ms) s m args below meth c 3 (vx_MQ below (QcI x K) (XCx x X) args s mc ms (xA x)) 22 [(0, .ref (adr x a0)), (1, .int a1), (2, .int a2)] [] w i0 j0 := by
  intro n
  induction n with
  | zero => intro _ _ _ _ _ _ _ h; exact False.elim h
  | succ n ih =>
    intro a0 a1 a2 i0 j0 w hb h
    refine g_iload_n (pc := 22) C dX11_quietest_22 (q := 2) rfl ?_
    refine g_iconst (pc := 23) C dX11_quietest_23 (v := 1) rfl ?_
    refine g_icmp_lt (pc := 24) C dX11_quietest_24 (tgt := 62) rfl (fun z9 => ?_) (fun z9 => ?_)
    · replace h := h.1 z9
      refine g_iconst (pc := 62) C dX11_quietest_62 (v := 0) rfl ?_
      refine gx_ret ?_; exact g_iret (pc := 63) C hlk hr hb.1 hb.2 dX11_quietest_63 h
    · replace h := h.2 z9
      refine g_aload_n (pc := 27) C dX11_quietest_27 (q := 0) rfl ?_
      obtain ⟨k10, h⟩ := h
      obtain ⟨k11, h⟩ := h
      refine gfX11_49 (pc := 28) C k10 (isK_ne k11) dX11_quietest_28 ?_
      obtain ⟨k12, h⟩ := h
      refine gfX11_122 (pc := 31) C k11 (isK_ne k12) dX11_quietest_31 ?_
      refine g_iload_n (pc := 34) C dX11_quietest_34 (q := 1) rfl ?_
      refine g_iload_n (pc := 35) C dX11_quietest_35 (q := 2) rfl ?_
      refine miX11_172 (pc := 36) C h (Nat.le_of_ble_eq_true rfl) (Nat.le_of_ble_eq_true rfl) hb dX11_quietest_36 (fun r13 w14 h => ?_)
      refine g_if_ne (pc := 39) C dX11_quietest_39 (tgt := 56) rfl (fun z15 => ?_) (fun z15 => ?_)
      · replace h := h.2 z15
        refine g_iinc (pc := 56) C dX11_quietest_56 (q := 2) rfl (v2 := a2 + (-1)) rfl (Nat.le_of_ble_eq_true rfl) (lo' := [(2, .int (a2 + (-1))), (0, .ref (adr x a0)), (1, .int a1)]) rfl ?_
        refine g_goto (pc := 59) C dX11_quietest_59 (tgt := 22) rfl ?_
        refine g_sub [1, 2, 0] rfl ?_
        exact ih _ _ _ _ _ _ hb h
      · replace h := h.1 z15
        refine g_aload_n (pc := 42) C dX11_quietest_42 (q := 0) rfl ?_
        obtain ⟨k16, h⟩ := h
        obtain ⟨k17, h⟩ := h
        refine gfX11_65 (pc := 43) C k16 (isK_ne k17) dX11_quietest_43 ?_
        refine g_iload_n (pc := 46) C dX11_quietest_46 (q := 1) rfl ?_
        refine g_iload_n (pc := 47) C dX11_quietest_47 (q := 2) rfl ?_
        refine miX11_290 (pc := 48) C k17 h (Nat.le_of_ble_eq_true rfl) (Nat.le_of_ble_eq_true rfl) hb dX11_quietest_48 (fun r18 w19 h => ?_)
        refine g_if_ne (pc := 51) C dX11_quietest_51 (tgt := 56) rfl (fun z20 => ?_) (fun z20 => ?_)
        · replace h := h.2 z20
          refine g_iinc (pc := 56) C dX11_quietest_56 (q := 2) rfl (v2 := a2 + (-1)) rfl (Nat.le_of_ble_eq_true rfl) (lo' := [(2, .int (a2 + (-1))), (0, .ref (adr x a0)), (1, .int a1)]) rfl ?_
          refine g_goto (pc := 59) C dX11_quietest_59 (tgt := 22) rfl ?_
          refine g_sub [1, 2, 0] rfl ?_
          exact ih _ _ _ _ _ _ hb h
        · replace h := h.1 z20
          refine g_iload_n (pc := 54) C dX11_quietest_54 (q := 2) rfl ?_
          refine gx_ret ?_; exact g_iret (pc := 55) C hlk hr hb.1 hb.2 dX11_quietest_55 h
theorem c_X11_quietest {x : xG} {l : Launch} (hl : l.stackTraces = false) {a0 : Nat} {a1 : Int32} {mc ms : Nat} {X : String → Wd → Prop} {K : Int32 → Wd → Prop} {w : Wd} (h : w_X11_quietest mc ms a0 a1 K X w) : vx_Met l yX11_quietest (xws yX11_quietest cX11_quietest 3 (some .int)) (rmd 7 mc ms) (xPc x [.ref (adr x a0), .int a1] w) (QcI x K) (XCx x X) mc ms (xA x) := by
  refine xMetX (by decide) (Nat.le_of_ble_eq_true rfl) (fun p e s m below meth c C hlk hr htab => ?_)
  show GW x p l e (rmd 7 mc ms) s m [.ref (adr x a0), .int a1].toArray below meth c 3 (vx_MQ below (QcI x K) (XCx x X) [.ref (adr x a0), .int a1].toArray s mc ms (xA x)) 0 [(0, .ref (adr x a0)), (1, .int a1)] [] w 0 0
  refine g_aload_n (pc := 0) C dX11_quietest_0 (q := 0) rfl ?_
  refine g_iload_n (pc := 1) C dX11_quietest_1 (q := 1) rfl ?_
  obtain ⟨k1, h⟩ := h
  obtain ⟨hb3, h⟩ := h
  refine mxX11_119 (pc := 2) C hl htab hlk k1 h (Nat.le_of_ble_eq_true rfl) (Nat.le_of_ble_eq_true rfl) hb3 dX11_quietest_2 (fun w2 h => ?_)
  refine g_aload_n (pc := 5) C dX11_quietest_5 (q := 0) rfl ?_
  obtain ⟨k4, h⟩ := h
  obtain ⟨k5, h⟩ := h
  refine gfX11_65 (pc := 6) C k4 (isK_ne k5) dX11_quietest_6 ?_
  refine g_aload_n (pc := 9) C dX11_quietest_9 (q := 0) rfl ?_
  obtain ⟨k6, h⟩ := h
  refine gfX11_49 (pc := 10) C k4 (isK_ne k6) dX11_quietest_10 ?_
  obtain ⟨k7, h⟩ := h
  refine gfX11_122 (pc := 13) C k6 (isK_ne k7) dX11_quietest_13 ?_
  refine miX11_287 (pc := 16) C k5 h (Nat.le_of_ble_eq_true rfl) (Nat.le_of_ble_eq_true rfl) hb3 dX11_quietest_16 (fun w8 h => ?_)
  refine g_bipush (pc := 19) C dX11_quietest_19 (v := 99) rfl ?_
  refine g_istore_n (pc := 21) C dX11_quietest_21 (Nat.le_of_ble_eq_true rfl) (lo' := [(2, .int 99), (0, .ref (adr x a0)), (1, .int a1)]) rfl ?_
  obtain ⟨n21, h⟩ := h
  refine g_sub [1, 2, 0] rfl ?_
  refine t_X11_quietest_22 C hlk hr hl htab n21 _ _ _ _ _ _ hb3 h
def w_X11_restore (mc ms : Nat) (a0 : Nat) (a1 : Int32) (K : Wd → Prop) (X : String → Wd → Prop) (w : Wd) : Prop :=
  isK w a0 11 ∧ (1 ≤ mc ∧ 6 ≤ ms) ∧ w_X11_anyImage 1 6 a0 a1 (fun r2 w3 => isK w3 r2 5 ∧ (((wI w3 r2 1) = 0 → (2 ≤ mc ∧ 12 ≤ ms) ∧ ∀ N11, wN w3 ≤ N11 → X "java/lang/IllegalStateException" (wJ w3 N11)) ∧ (¬ (wI w3 r2 1) = 0 → isK w3 a0 11 ∧ isK w3 (wR w3 a0 0) 5 ∧ w_X5_become (wR w3 a0 0) r2 (fun w9 => K w9) w3))) X w
theorem c_X11_restore {x : xG} {l : Launch} (hl : l.stackTraces = false) {a0 : Nat} {a1 : Int32} {mc ms : Nat} {X : String → Wd → Prop} {K : Wd → Prop} {w : Wd} (h : w_X11_restore mc ms a0 a1 K X w) : vx_Met l yX11_restore (xws yX11_restore cX11_restore 3 none) (rmd 7 mc ms) (xPc x [.ref (adr x a0), .int a1] w) (QcV x K) (XCx x X) mc ms (xA x) := by
  refine xMetX (by decide) (Nat.le_of_ble_eq_true rfl) (fun p e s m below meth c C hlk hr htab => ?_)
  show GW x p l e (rmd 7 mc ms) s m [.ref (adr x a0), .int a1].toArray below meth c 3 (vx_MQ below (QcV x K) (XCx x X) [.ref (adr x a0), .int a1].toArray s mc ms (xA x)) 0 [(0, .ref (adr x a0)), (1, .int a1)] [] w 0 0
  refine g_aload_n (pc := 0) C dX11_restore_0 (q := 0) rfl ?_
  refine g_iload_n (pc := 1) C dX11_restore_1 (q := 1) rfl ?_
  obtain ⟨k1, h⟩ := h
  obtain ⟨hb4, h⟩ := h
  refine mxX11_386 (pc := 2) C hl htab hlk k1 h (Nat.le_of_ble_eq_true rfl) (Nat.le_of_ble_eq_true rfl) hb4 dX11_restore_2 (fun r2 w3 h => ?_)
  refine g_astore_n (pc := 5) C dX11_restore_5 (Nat.le_of_ble_eq_true rfl) (lo' := [(2, .ref (adr x r2)), (0, .ref (adr x a0)), (1, .int a1)]) rfl ?_
  refine g_aload_n (pc := 6) C dX11_restore_6 (q := 0) rfl ?_
  obtain ⟨k5, h⟩ := h
  refine gfX11_393 (pc := 7) C k5 dX11_restore_7 ?_
  refine g_if_ne (pc := 10) C dX11_restore_10 (tgt := 24) rfl (fun z6 => ?_) (fun z6 => ?_)
  · replace h := h.2 z6
    refine g_aload_n (pc := 24) C dX11_restore_24 (q := 1) rfl ?_
    obtain ⟨k7, h⟩ := h
    obtain ⟨k8, h⟩ := h
    refine gfX11_49 (pc := 25) C k7 (isK_ne k8) dX11_restore_25 ?_
    refine g_aload_n (pc := 28) C dX11_restore_28 (q := 0) rfl ?_
    refine miX11_390 (pc := 29) C k8 h (Nat.le_of_ble_eq_true rfl) (Nat.le_of_ble_eq_true rfl) hb4 dX11_restore_29 (fun w9 h => ?_)
    refine gx_ret ?_; exact g_vret (pc := 32) C hlk hr hb4.1 hb4.2 dX11_restore_32 h
  · replace h := h.1 z6
    obtain ⟨hb10, h⟩ := h
    exact thr_IllegalStateException (pc := 13) C hl htab hlk (q := 32) (k0 := 32) rfl dX11_restore_13 dX11_restore_16 (Or.inr ⟨dX11_restore_17, dX11_restore_20, dX11_restore_23⟩) (Nat.le_of_ble_eq_true rfl) (Nat.le_of_ble_eq_true rfl) hb10 h
theorem miX11_356 (C : xC x p s m c cc nL args RX11) {a0 : Nat} {a1 : Int32} {K : Int32 → Wd → Prop} {D MC MS : Nat} (hq : isK w a0 9) (h : w_X9_fitAt a0 a1 K w) (hD : 3 + 1 ≤ D) (hW : (st.map fun v => v.category).sum ≤ 8) (hij : i ≤ MC ∧ j ≤ MS) (hd : decode cc pc = .ok (.invokevirtual 356, 3)) (k : ∀ (r : Int32) (u : Wd), K r u → GW x p l e (rmd D MC MS) s m args below meth c nL Q (pc + 3) lo (.int r :: st) u i j) : GW x p l e (rmd D MC MS) s m args below meth c nL Q pc lo (.int a1 :: .ref (adr x a0) :: st) w i j := g_callVi0 C (As := [.int a1]) (ci := 9) (c_X9_fitAt h) (x_cwV C 1 LMX11_356 ⟨rfl, by decide, by decide, rfl⟩ hD (by decide)) rfl hq (by decide) rfl rfl hW hd hij k
def w_X11_roundAt (mc ms : Nat) (a0 : Nat) (a1 : Int32) (a2 : Int32) (K : Int32 → Wd → Prop) (X : String → Wd → Prop) (w : Wd) : Prop :=
  isK w a0 11 ∧ (3 ≤ mc ∧ 18 ≤ ms) ∧ w_X11_heardTray 3 18 a0 a1 (fun r2 w3 => (4 ≤ mc ∧ 24 ≤ ms) ∧ w_X11_needWithin 1 6 a2 0 2147483647 (fun w5 => isK w5 a0 11 ∧ isK w5 (wR w5 a0 9) 9 ∧ w_X9_hear (wR w5 a0 9) r2 (fun w9 => isK w9 a0 11 ∧ isK w9 (wR w9 a0 9) 9 ∧ w_X9_fitAt (wR w9 a0 9) a2 (fun r12 w13 => K r12 w13) w9) w5) X w3) X w
theorem c_X11_roundAt {x : xG} {l : Launch} (hl : l.stackTraces = false) {a0 : Nat} {a1 : Int32} {a2 : Int32} {mc ms : Nat} {X : String → Wd → Prop} {K : Int32 → Wd → Prop} {w : Wd} (h : w_X11_roundAt mc ms a0 a1 a2 K X w) : vx_Met l yX11_roundAt (xws yX11_roundAt cX11_roundAt 4 (some .int)) (rmd 9 mc ms) (xPc x [.ref (adr x a0), .int a1, .int a2] w) (QcI x K) (XCx x X) mc ms (xA x) := by
  refine xMetX (by decide) (Nat.le_of_ble_eq_true rfl) (fun p e s m below meth c C hlk hr htab => ?_)
  show GW x p l e (rmd 9 mc ms) s m [.ref (adr x a0), .int a1, .int a2].toArray below meth c 4 (vx_MQ below (QcI x K) (XCx x X) [.ref (adr x a0), .int a1, .int a2].toArray s mc ms (xA x)) 0 [(0, .ref (adr x a0)), (1, .int a1), (2, .int a2)] [] w 0 0
  refine g_aload_n (pc := 0) C dX11_roundAt_0 (q := 0) rfl ?_
  refine g_iload_n (pc := 1) C dX11_roundAt_1 (q := 1) rfl ?_
  obtain ⟨k1, h⟩ := h
  obtain ⟨hb4, h⟩ := h
  refine mxX11_346 (pc := 2) C hl htab hlk k1 h (Nat.le_of_ble_eq_true rfl) (Nat.le_of_ble_eq_true rfl) hb4 dX11_roundAt_2 (fun r2 w3 h => ?_)
  refine g_astore_n (pc := 5) C dX11_roundAt_5 (Nat.le_of_ble_eq_true rfl) (lo' := [(3, .ref (adr x r2)), (0, .ref (adr x a0)), (1, .int a1), (2, .int a2)]) rfl ?_
  refine g_iload_n (pc := 6) C dX11_roundAt_6 (q := 3) rfl ?_
  refine g_iconst (pc := 7) C dX11_roundAt_7 (v := 0) rfl ?_
  refine g_ldcw (pc := 8) C LCX11_342 dX11_roundAt_8 ?_
  obtain ⟨hb6, h⟩ := h
  refine mxX11_95 (pc := 11) C hl htab hlk h (Nat.le_of_ble_eq_true rfl) (Nat.le_of_ble_eq_true rfl) hb6 dX11_roundAt_11 (fun w5 h => ?_)
  refine g_aload_n (pc := 14) C dX11_roundAt_14 (q := 1) rfl ?_
  obtain ⟨k7, h⟩ := h
  obtain ⟨k8, h⟩ := h
  refine gfX11_31 (pc := 15) C k7 (isK_ne k8) dX11_roundAt_15 ?_
  refine g_aload_n (pc := 18) C dX11_roundAt_18 (q := 0) rfl ?_
  refine miX11_349 (pc := 19) C k8 h (Nat.le_of_ble_eq_true rfl) (Nat.le_of_ble_eq_true rfl) hb6 dX11_roundAt_19 (fun w9 h => ?_)
  refine g_aload_n (pc := 22) C dX11_roundAt_22 (q := 1) rfl ?_
  obtain ⟨k10, h⟩ := h
  obtain ⟨k11, h⟩ := h
  refine gfX11_31 (pc := 23) C k10 (isK_ne k11) dX11_roundAt_23 ?_
  refine g_iload_n (pc := 26) C dX11_roundAt_26 (q := 3) rfl ?_
  refine miX11_356 (pc := 27) C k11 h (Nat.le_of_ble_eq_true rfl) (Nat.le_of_ble_eq_true rfl) hb6 dX11_roundAt_27 (fun r12 w13 h => ?_)
  refine gx_ret ?_; exact g_iret (pc := 30) C hlk hr hb6.1 hb6.2 dX11_roundAt_30 h
theorem miX11_353 (C : xC x p s m c cc nL args RX11) {a0 : Nat} {K : Int32 → Wd → Prop} {D MC MS : Nat} (hq : isK w a0 9) (h : w_X9_howManyFit a0 K w) (hD : 3 + 1 ≤ D) (hW : (st.map fun v => v.category).sum ≤ 8) (hij : i ≤ MC ∧ j ≤ MS) (hd : decode cc pc = .ok (.invokevirtual 353, 3)) (k : ∀ (r : Int32) (u : Wd), K r u → GW x p l e (rmd D MC MS) s m args below meth c nL Q (pc + 3) lo (.int r :: st) u i j) : GW x p l e (rmd D MC MS) s m args below meth c nL Q pc lo (.ref (adr x a0) :: st) w i j := g_callVi0 C (As := []) (ci := 9) (c_X9_howManyFit h) (x_cwV C 0 LMX11_353 ⟨rfl, by decide, by decide, rfl⟩ hD (by decide)) rfl hq (by decide) rfl rfl hW hd hij k
def w_X11_seen (mc ms : Nat) (a0 : Nat) (a1 : Int32) (K : Int32 → Wd → Prop) (X : String → Wd → Prop) (w : Wd) : Prop :=
  isK w a0 11 ∧ isK w (wR w a0 9) 9 ∧ (3 ≤ mc ∧ 18 ≤ ms) ∧ w_X11_heardTray 3 18 a0 a1 (fun r3 w4 => isK w4 (wR w a0 9) 9 ∧ w_X9_hear (wR w a0 9) r3 (fun w7 => isK w7 a0 11 ∧ isK w7 (wR w7 a0 9) 9 ∧ w_X9_howManyFit (wR w7 a0 9) (fun r10 w11 => K r10 w11) w7) w4) X w
theorem c_X11_seen {x : xG} {l : Launch} (hl : l.stackTraces = false) {a0 : Nat} {a1 : Int32} {mc ms : Nat} {X : String → Wd → Prop} {K : Int32 → Wd → Prop} {w : Wd} (h : w_X11_seen mc ms a0 a1 K X w) : vx_Met l yX11_seen (xws yX11_seen cX11_seen 2 (some .int)) (rmd 9 mc ms) (xPc x [.ref (adr x a0), .int a1] w) (QcI x K) (XCx x X) mc ms (xA x) := by
  refine xMetX (by decide) (Nat.le_of_ble_eq_true rfl) (fun p e s m below meth c C hlk hr htab => ?_)
  show GW x p l e (rmd 9 mc ms) s m [.ref (adr x a0), .int a1].toArray below meth c 2 (vx_MQ below (QcI x K) (XCx x X) [.ref (adr x a0), .int a1].toArray s mc ms (xA x)) 0 [(0, .ref (adr x a0)), (1, .int a1)] [] w 0 0
  refine g_aload_n (pc := 0) C dX11_seen_0 (q := 0) rfl ?_
  obtain ⟨k1, h⟩ := h
  obtain ⟨k2, h⟩ := h
  refine gfX11_31 (pc := 1) C k1 (isK_ne k2) dX11_seen_1 ?_
  refine g_aload_n (pc := 4) C dX11_seen_4 (q := 0) rfl ?_
  refine g_iload_n (pc := 5) C dX11_seen_5 (q := 1) rfl ?_
  obtain ⟨hb5, h⟩ := h
  refine mxX11_346 (pc := 6) C hl htab hlk k1 h (Nat.le_of_ble_eq_true rfl) (Nat.le_of_ble_eq_true rfl) hb5 dX11_seen_6 (fun r3 w4 h => ?_)
  obtain ⟨k6, h⟩ := h
  refine miX11_349 (pc := 9) C k6 h (Nat.le_of_ble_eq_true rfl) (Nat.le_of_ble_eq_true rfl) hb5 dX11_seen_9 (fun w7 h => ?_)
  refine g_aload_n (pc := 12) C dX11_seen_12 (q := 0) rfl ?_
  obtain ⟨k8, h⟩ := h
  obtain ⟨k9, h⟩ := h
  refine gfX11_31 (pc := 13) C k8 (isK_ne k9) dX11_seen_13 ?_
  refine miX11_353 (pc := 16) C k9 h (Nat.le_of_ble_eq_true rfl) (Nat.le_of_ble_eq_true rfl) hb5 dX11_seen_16 (fun r10 w11 h => ?_)
  refine gx_ret ?_; exact g_iret (pc := 19) C hlk hr hb5.1 hb5.2 dX11_seen_19 h
theorem miX11_336 (C : xC x p s m c cc nL args RX11) {a0 : Nat} {a1 : Int32} {K : Int32 → Wd → Prop} {D MC MS : Nat} (hq : isK w a0 6) (h : w_X6_mostServed a0 a1 K w) (hD : 2 + 1 ≤ D) (hW : (st.map fun v => v.category).sum ≤ 8) (hij : i ≤ MC ∧ j ≤ MS) (hd : decode cc pc = .ok (.invokevirtual 336, 3)) (k : ∀ (r : Int32) (u : Wd), K r u → GW x p l e (rmd D MC MS) s m args below meth c nL Q (pc + 3) lo (.int r :: st) u i j) : GW x p l e (rmd D MC MS) s m args below meth c nL Q pc lo (.int a1 :: .ref (adr x a0) :: st) w i j := g_callVi0 C (As := [.int a1]) (ci := 6) (c_X6_mostServed h) (x_cwV C 1 LMX11_336 ⟨rfl, by decide, by decide, rfl⟩ hD (by decide)) rfl hq (by decide) rfl rfl hW hd hij k
def w_X11_served (mc ms : Nat) (a0 : Nat) (a1 : Int32) (K : Int32 → Wd → Prop) (X : String → Wd → Prop) (w : Wd) : Prop :=
  (1 ≤ mc ∧ 6 ≤ ms) ∧ w_X11_needWithin 1 6 a1 0 40 (fun w1 => isK w1 a0 11 ∧ isK w1 (wR w1 a0 8) 6 ∧ isK w1 (wR w1 a0 0) 5 ∧ isK w1 (wR w1 (wR w1 a0 0) 0) 2 ∧ w_X6_lookAhead (wR w1 a0 8) (wR w1 (wR w1 a0 0) 0) (fun w7 => isK w7 a0 11 ∧ isK w7 (wR w7 a0 8) 6 ∧ w_X6_mostServed (wR w7 a0 8) a1 (fun r10 w11 => K r10 w11) w7) w1) X w
theorem c_X11_served {x : xG} {l : Launch} (hl : l.stackTraces = false) {a0 : Nat} {a1 : Int32} {mc ms : Nat} {X : String → Wd → Prop} {K : Int32 → Wd → Prop} {w : Wd} (h : w_X11_served mc ms a0 a1 K X w) : vx_Met l yX11_served (xws yX11_served cX11_served 2 (some .int)) (rmd 7 mc ms) (xPc x [.ref (adr x a0), .int a1] w) (QcI x K) (XCx x X) mc ms (xA x) := by
  refine xMetX (by decide) (Nat.le_of_ble_eq_true rfl) (fun p e s m below meth c C hlk hr htab => ?_)
  show GW x p l e (rmd 7 mc ms) s m [.ref (adr x a0), .int a1].toArray below meth c 2 (vx_MQ below (QcI x K) (XCx x X) [.ref (adr x a0), .int a1].toArray s mc ms (xA x)) 0 [(0, .ref (adr x a0)), (1, .int a1)] [] w 0 0
  refine g_iload_n (pc := 0) C dX11_served_0 (q := 1) rfl ?_
  refine g_iconst (pc := 1) C dX11_served_1 (v := 0) rfl ?_
  refine g_bipush (pc := 2) C dX11_served_2 (v := 40) rfl ?_
  obtain ⟨hb2, h⟩ := h
  refine mxX11_95 (pc := 4) C hl htab hlk h (Nat.le_of_ble_eq_true rfl) (Nat.le_of_ble_eq_true rfl) hb2 dX11_served_4 (fun w1 h => ?_)
  refine g_aload_n (pc := 7) C dX11_served_7 (q := 0) rfl ?_
  obtain ⟨k3, h⟩ := h
  obtain ⟨k4, h⟩ := h
  refine gfX11_83 (pc := 8) C k3 (isK_ne k4) dX11_served_8 ?_
  refine g_aload_n (pc := 11) C dX11_served_11 (q := 0) rfl ?_
  obtain ⟨k5, h⟩ := h
  refine gfX11_49 (pc := 12) C k3 (isK_ne k5) dX11_served_12 ?_
  obtain ⟨k6, h⟩ := h
  refine gfX11_122 (pc := 15) C k5 (isK_ne k6) dX11_served_15 ?_
  refine miX11_316 (pc := 18) C k4 h (Nat.le_of_ble_eq_true rfl) (Nat.le_of_ble_eq_true rfl) hb2 dX11_served_18 (fun w7 h => ?_)
  refine g_aload_n (pc := 21) C dX11_served_21 (q := 0) rfl ?_
  obtain ⟨k8, h⟩ := h
  obtain ⟨k9, h⟩ := h
  refine gfX11_83 (pc := 22) C k8 (isK_ne k9) dX11_served_22 ?_
  refine g_iload_n (pc := 25) C dX11_served_25 (q := 1) rfl ?_
  refine miX11_336 (pc := 26) C k9 h (Nat.le_of_ble_eq_true rfl) (Nat.le_of_ble_eq_true rfl) hb2 dX11_served_26 (fun r10 w11 h => ?_)
  refine gx_ret ?_; exact g_iret (pc := 29) C hlk hr hb2.1 hb2.2 dX11_served_29 h
theorem miX11_303 (C : xC x p s m c cc nL args RX11) {a0 : Nat} {a1 : Int32} {a2 : Int32} {a3 : Int32} {K : Int32 → Wd → Prop} {D MC MS : Nat} (hq : isK w a0 4) (h : w_X4_leastShield a0 a1 a2 a3 K w) (hD : 3 + 1 ≤ D) (hW : (st.map fun v => v.category).sum ≤ 8) (hij : i ≤ MC ∧ j ≤ MS) (hd : decode cc pc = .ok (.invokevirtual 303, 3)) (k : ∀ (r : Int32) (u : Wd), K r u → GW x p l e (rmd D MC MS) s m args below meth c nL Q (pc + 3) lo (.int r :: st) u i j) : GW x p l e (rmd D MC MS) s m args below meth c nL Q pc lo (.int a3 :: .int a2 :: .int a1 :: .ref (adr x a0) :: st) w i j := g_callVi0 C (As := [.int a1, .int a2, .int a3]) (ci := 4) (c_X4_leastShield h) (x_cwV C 3 LMX11_303 ⟨rfl, by decide, by decide, rfl⟩ hD (by decide)) rfl hq (by decide) rfl rfl hW hd hij k
def w_X11_shield (mc ms : Nat) (a0 : Nat) (a1 : Int32) (a2 : Int32) (a3 : Int32) (a4 : Int32) (K : Int32 → Wd → Prop) (X : String → Wd → Prop) (w : Wd) : Prop :=
  isK w a0 11 ∧ (1 ≤ mc ∧ 6 ≤ ms) ∧ w_X11_needWell 1 6 a0 a1 (fun w2 => isK w2 a0 11 ∧ (2 ≤ mc ∧ 12 ≤ ms) ∧ w_X11_needWell 1 6 a0 a3 (fun w5 => (3 ≤ mc ∧ 18 ≤ ms) ∧ w_X11_needNoise 1 6 a2 (fun w7 => (4 ≤ mc ∧ 24 ≤ ms) ∧ w_X11_needWithin 1 6 a4 0 1 (fun w9 => isK w9 a0 11 ∧ isK w9 (wR w9 a0 5) 4 ∧ isK w9 (wR w9 a0 0) 5 ∧ isK w9 (wR w9 (wR w9 a0 0) 0) 2 ∧ w_X4_over (wR w9 a0 5) (wR w9 (wR w9 a0 0) 0) (fun w15 => isK w15 a0 11 ∧ isK w15 (wR w15 a0 5) 4 ∧ w_X4_leastShield (wR w15 a0 5) a1 a2 a3 (fun r18 w19 => w_X11_sizeOrSet r18 a4 (fun r20 w21 => K r20 w21) w19) w15) w9) X w7) X w5) X w2) X w
theorem c_X11_shield {x : xG} {l : Launch} (hl : l.stackTraces = false) {a0 : Nat} {a1 : Int32} {a2 : Int32} {a3 : Int32} {a4 : Int32} {mc ms : Nat} {X : String → Wd → Prop} {K : Int32 → Wd → Prop} {w : Wd} (h : w_X11_shield mc ms a0 a1 a2 a3 a4 K X w) : vx_Met l yX11_shield (xws yX11_shield cX11_shield 5 (some .int)) (rmd 8 mc ms) (xPc x [.ref (adr x a0), .int a1, .int a2, .int a3, .int a4] w) (QcI x K) (XCx x X) mc ms (xA x) := by
  refine xMetX (by decide) (Nat.le_of_ble_eq_true rfl) (fun p e s m below meth c C hlk hr htab => ?_)
  show GW x p l e (rmd 8 mc ms) s m [.ref (adr x a0), .int a1, .int a2, .int a3, .int a4].toArray below meth c 5 (vx_MQ below (QcI x K) (XCx x X) [.ref (adr x a0), .int a1, .int a2, .int a3, .int a4].toArray s mc ms (xA x)) 0 [(0, .ref (adr x a0)), (1, .int a1), (2, .int a2), (3, .int a3), (4, .int a4)] [] w 0 0
  refine g_aload_n (pc := 0) C dX11_shield_0 (q := 0) rfl ?_
  refine g_iload_n (pc := 1) C dX11_shield_1 (q := 1) rfl ?_
  obtain ⟨k1, h⟩ := h
  obtain ⟨hb3, h⟩ := h
  refine mxX11_119 (pc := 2) C hl htab hlk k1 h (Nat.le_of_ble_eq_true rfl) (Nat.le_of_ble_eq_true rfl) hb3 dX11_shield_2 (fun w2 h => ?_)
  refine g_aload_n (pc := 5) C dX11_shield_5 (q := 0) rfl ?_
  refine g_iload_n (pc := 6) C dX11_shield_6 (q := 3) rfl ?_
  obtain ⟨k4, h⟩ := h
  obtain ⟨hb6, h⟩ := h
  refine mxX11_119 (pc := 7) C hl htab hlk k4 h (Nat.le_of_ble_eq_true rfl) (Nat.le_of_ble_eq_true rfl) hb6 dX11_shield_7 (fun w5 h => ?_)
  refine g_iload_n (pc := 10) C dX11_shield_10 (q := 2) rfl ?_
  obtain ⟨hb8, h⟩ := h
  refine mxX11_274 (pc := 11) C hl htab hlk h (Nat.le_of_ble_eq_true rfl) (Nat.le_of_ble_eq_true rfl) hb8 dX11_shield_11 (fun w7 h => ?_)
  refine g_iload (pc := 14) C dX11_shield_14 (q := 4) rfl ?_
  refine g_iconst (pc := 16) C dX11_shield_16 (v := 0) rfl ?_
  refine g_iconst (pc := 17) C dX11_shield_17 (v := 1) rfl ?_
  obtain ⟨hb10, h⟩ := h
  refine mxX11_95 (pc := 18) C hl htab hlk h (Nat.le_of_ble_eq_true rfl) (Nat.le_of_ble_eq_true rfl) hb10 dX11_shield_18 (fun w9 h => ?_)
  refine g_aload_n (pc := 21) C dX11_shield_21 (q := 0) rfl ?_
  obtain ⟨k11, h⟩ := h
  obtain ⟨k12, h⟩ := h
  refine gfX11_65 (pc := 22) C k11 (isK_ne k12) dX11_shield_22 ?_
  refine g_aload_n (pc := 25) C dX11_shield_25 (q := 0) rfl ?_
  obtain ⟨k13, h⟩ := h
  refine gfX11_49 (pc := 26) C k11 (isK_ne k13) dX11_shield_26 ?_
  obtain ⟨k14, h⟩ := h
  refine gfX11_122 (pc := 29) C k13 (isK_ne k14) dX11_shield_29 ?_
  refine miX11_277 (pc := 32) C k12 h (Nat.le_of_ble_eq_true rfl) (Nat.le_of_ble_eq_true rfl) hb10 dX11_shield_32 (fun w15 h => ?_)
  refine g_aload_n (pc := 35) C dX11_shield_35 (q := 0) rfl ?_
  obtain ⟨k16, h⟩ := h
  obtain ⟨k17, h⟩ := h
  refine gfX11_65 (pc := 36) C k16 (isK_ne k17) dX11_shield_36 ?_
  refine g_iload_n (pc := 39) C dX11_shield_39 (q := 1) rfl ?_
  refine g_iload_n (pc := 40) C dX11_shield_40 (q := 2) rfl ?_
  refine g_iload_n (pc := 41) C dX11_shield_41 (q := 3) rfl ?_
  refine miX11_303 (pc := 42) C k17 h (Nat.le_of_ble_eq_true rfl) (Nat.le_of_ble_eq_true rfl) hb10 dX11_shield_42 (fun r18 w19 h => ?_)
  refine g_iload (pc := 45) C dX11_shield_45 (q := 4) rfl ?_
  refine miX11_307 (pc := 47) C h (Nat.le_of_ble_eq_true rfl) (Nat.le_of_ble_eq_true rfl) hb10 dX11_shield_47 (fun r20 w21 h => ?_)
  refine gx_ret ?_; exact g_iret (pc := 50) C hlk hr hb10.1 hb10.2 dX11_shield_50 h
theorem miX11_128 (C : xC x p s m c cc nL args RX11) {a0 : Nat} {a1 : Int32} {K : Int32 → Wd → Prop} {D MC MS : Nat} (hq : isK w a0 1) (h : w_X1_roundOf a0 a1 K w) (hD : 0 + 1 ≤ D) (hW : (st.map fun v => v.category).sum ≤ 8) (hij : i ≤ MC ∧ j ≤ MS) (hd : decode cc pc = .ok (.invokevirtual 128, 3)) (k : ∀ (r : Int32) (u : Wd), K r u → GW x p l e (rmd D MC MS) s m args below meth c nL Q (pc + 3) lo (.int r :: st) u i j) : GW x p l e (rmd D MC MS) s m args below meth c nL Q pc lo (.int a1 :: .ref (adr x a0) :: st) w i j := g_callVi0 C (As := [.int a1]) (ci := 1) (c_X1_roundOf h) (x_cwV C 1 LMX11_128 ⟨rfl, by decide, by decide, rfl⟩ hD (by decide)) rfl hq (by decide) rfl rfl hW hd hij k
theorem miX11_132 (C : xC x p s m c cc nL args RX11) {a0 : Nat} {a1 : Int32} {K : Int32 → Wd → Prop} {D MC MS : Nat} (hq : isK w a0 1) (h : w_X1_upOf a0 a1 K w) (hD : 0 + 1 ≤ D) (hW : (st.map fun v => v.category).sum ≤ 8) (hij : i ≤ MC ∧ j ≤ MS) (hd : decode cc pc = .ok (.invokevirtual 132, 3)) (k : ∀ (r : Int32) (u : Wd), K r u → GW x p l e (rmd D MC MS) s m args below meth c nL Q (pc + 3) lo (.int r :: st) u i j) : GW x p l e (rmd D MC MS) s m args below meth c nL Q pc lo (.int a1 :: .ref (adr x a0) :: st) w i j := g_callVi0 C (As := [.int a1]) (ci := 1) (c_X1_upOf h) (x_cwV C 1 LMX11_132 ⟨rfl, by decide, by decide, rfl⟩ hD (by decide)) rfl hq (by decide) rfl rfl hW hd hij k
theorem miX11_144 (C : xC x p s m c cc nL args RX11) {a0 : Nat} {a1 : Int32} {K : Int32 → Wd → Prop} {D MC MS : Nat} (hq : isK w a0 2) (h : w_X2_phaseOf a0 a1 K w) (hD : 0 + 1 ≤ D) (hW : (st.map fun v => v.category).sum ≤ 8) (hij : i ≤ MC ∧ j ≤ MS) (hd : decode cc pc = .ok (.invokevirtual 144, 3)) (k : ∀ (r : Int32) (u : Wd), K r u → GW x p l e (rmd D MC MS) s m args below meth c nL Q (pc + 3) lo (.int r :: st) u i j) : GW x p l e (rmd D MC MS) s m args below meth c nL Q pc lo (.int a1 :: .ref (adr x a0) :: st) w i j := g_callVi0 C (As := [.int a1]) (ci := 2) (c_X2_phaseOf h) (x_cwV C 1 LMX11_144 ⟨rfl, by decide, by decide, rfl⟩ hD (by decide)) rfl hq (by decide) rfl rfl hW hd hij k
theorem miX11_147 (C : xC x p s m c cc nL args RX11) {a0 : Nat} {a1 : Int32} {K : Int32 → Wd → Prop} {D MC MS : Nat} (hq : isK w a0 2) (h : w_X2_isAwake a0 a1 K w) (hD : 2 + 1 ≤ D) (hW : (st.map fun v => v.category).sum ≤ 8) (hij : i ≤ MC ∧ j ≤ MS) (hd : decode cc pc = .ok (.invokevirtual 147, 3)) (k : ∀ (r : Int32) (u : Wd), K r u → GW x p l e (rmd D MC MS) s m args below meth c nL Q (pc + 3) lo (.int r :: st) u i j) : GW x p l e (rmd D MC MS) s m args below meth c nL Q pc lo (.int a1 :: .ref (adr x a0) :: st) w i j := g_callVi0 C (As := [.int a1]) (ci := 2) (c_X2_isAwake h) (x_cwV C 1 LMX11_147 ⟨rfl, by decide, by decide, rfl⟩ hD (by decide)) rfl hq (by decide) rfl rfl hW hd hij k
theorem miX11_265 (C : xC x p s m c cc nL args RX11) {a0 : Nat} {a1 : Int32} {K : Int32 → Wd → Prop} {D MC MS : Nat} (hq : isK w a0 1) (h : w_X1_everSleeps a0 a1 K w) (hD : 1 + 1 ≤ D) (hW : (st.map fun v => v.category).sum ≤ 8) (hij : i ≤ MC ∧ j ≤ MS) (hd : decode cc pc = .ok (.invokevirtual 265, 3)) (k : ∀ (r : Int32) (u : Wd), K r u → GW x p l e (rmd D MC MS) s m args below meth c nL Q (pc + 3) lo (.int r :: st) u i j) : GW x p l e (rmd D MC MS) s m args below meth c nL Q pc lo (.int a1 :: .ref (adr x a0) :: st) w i j := g_callVi0 C (As := [.int a1]) (ci := 1) (c_X1_everSleeps h) (x_cwV C 1 LMX11_265 ⟨rfl, by decide, by decide, rfl⟩ hD (by decide)) rfl hq (by decide) rfl rfl hW hd hij k
def w_X11_stays (mc ms : Nat) (a0 : Nat) (a1 : Int32) (K : Int32 → Wd → Prop) (X : String → Wd → Prop) (w : Wd) : Prop :=
  isK w a0 11 ∧ (1 ≤ mc ∧ 6 ≤ ms) ∧ w_X11_needWell 1 6 a0 a1 (fun w2 => isK w2 a0 11 ∧ isK w2 (wR w2 a0 0) 5 ∧ isK w2 (wR w2 (wR w2 a0 0) 0) 2 ∧ isK w2 (wR w2 (wR w2 (wR w2 a0 0) 0) 0) 1 ∧ w_X1_everSleeps (wR w2 (wR w2 (wR w2 a0 0) 0) 0) a1 (fun r8 w9 => ((r8 = 0 → K (-1) w9) ∧ (¬ r8 = 0 → isK w9 (wR w2 (wR w2 a0 0) 0) 2 ∧ w_X2_isAwake (wR w2 (wR w2 a0 0) 0) a1 (fun r12 w13 => ((r12 = 0 → isK w13 (wR w2 (wR w2 a0 0) 0) 2 ∧ isK w13 (wR w13 (wR w2 (wR w2 a0 0) 0) 0) 1 ∧ w_X1_roundOf (wR w13 (wR w2 (wR w2 a0 0) 0) 0) a1 (fun r17 w18 => isK w18 (wR w2 (wR w2 a0 0) 0) 2 ∧ w_X2_phaseOf (wR w2 (wR w2 a0 0) 0) a1 (fun r20 w21 => K (r17 - r20) w21) w18) w13) ∧ (¬ r12 = 0 → isK w13 (wR w2 (wR w2 a0 0) 0) 2 ∧ isK w13 (wR w13 (wR w2 (wR w2 a0 0) 0) 0) 1 ∧ w_X1_upOf (wR w13 (wR w2 (wR w2 a0 0) 0) 0) a1 (fun r24 w25 => isK w25 (wR w2 (wR w2 a0 0) 0) 2 ∧ w_X2_phaseOf (wR w2 (wR w2 a0 0) 0) a1 (fun r27 w28 => K (r24 - r27) w28) w25) w13))) w9))) w2) X w
theorem c_X11_stays {x : xG} {l : Launch} (hl : l.stackTraces = false) {a0 : Nat} {a1 : Int32} {mc ms : Nat} {X : String → Wd → Prop} {K : Int32 → Wd → Prop} {w : Wd} (h : w_X11_stays mc ms a0 a1 K X w) : vx_Met l yX11_stays (xws yX11_stays cX11_stays 4 (some .int)) (rmd 7 mc ms) (xPc x [.ref (adr x a0), .int a1] w) (QcI x K) (XCx x X) mc ms (xA x) := by
  refine xMetX (by decide) (Nat.le_of_ble_eq_true rfl) (fun p e s m below meth c C hlk hr htab => ?_)
  show GW x p l e (rmd 7 mc ms) s m [.ref (adr x a0), .int a1].toArray below meth c 4 (vx_MQ below (QcI x K) (XCx x X) [.ref (adr x a0), .int a1].toArray s mc ms (xA x)) 0 [(0, .ref (adr x a0)), (1, .int a1)] [] w 0 0
  refine g_aload_n (pc := 0) C dX11_stays_0 (q := 0) rfl ?_
  refine g_iload_n (pc := 1) C dX11_stays_1 (q := 1) rfl ?_
  obtain ⟨k1, h⟩ := h
  obtain ⟨hb3, h⟩ := h
  refine mxX11_119 (pc := 2) C hl htab hlk k1 h (Nat.le_of_ble_eq_true rfl) (Nat.le_of_ble_eq_true rfl) hb3 dX11_stays_2 (fun w2 h => ?_)
  refine g_aload_n (pc := 5) C dX11_stays_5 (q := 0) rfl ?_
  obtain ⟨k4, h⟩ := h
  obtain ⟨k5, h⟩ := h
  refine gfX11_49 (pc := 6) C k4 (isK_ne k5) dX11_stays_6 ?_
  obtain ⟨k6, h⟩ := h
  refine gfX11_122 (pc := 9) C k5 (isK_ne k6) dX11_stays_9 ?_
  refine g_astore_n (pc := 12) C dX11_stays_12 (Nat.le_of_ble_eq_true rfl) (lo' := [(2, .ref (adr x (wR w2 (wR w2 a0 0) 0))), (0, .ref (adr x a0)), (1, .int a1)]) rfl ?_
  refine g_aload_n (pc := 13) C dX11_stays_13 (q := 0) rfl ?_
  obtain ⟨k7, h⟩ := h
  refine gfX11_125 (pc := 14) C k6 (isK_ne k7) dX11_stays_14 ?_
  refine g_iload_n (pc := 17) C dX11_stays_17 (q := 2) rfl ?_
  refine miX11_265 (pc := 18) C k7 h (Nat.le_of_ble_eq_true rfl) (Nat.le_of_ble_eq_true rfl) hb3 dX11_stays_18 (fun r8 w9 h => ?_)
  refine g_if_ne (pc := 21) C dX11_stays_21 (tgt := 26) rfl (fun z10 => ?_) (fun z10 => ?_)
  · replace h := h.2 z10
    refine g_aload_n (pc := 26) C dX11_stays_26 (q := 0) rfl ?_
    refine g_iload_n (pc := 27) C dX11_stays_27 (q := 2) rfl ?_
    obtain ⟨k11, h⟩ := h
    refine miX11_147 (pc := 28) C k11 h (Nat.le_of_ble_eq_true rfl) (Nat.le_of_ble_eq_true rfl) hb3 dX11_stays_28 (fun r12 w13 h => ?_)
    refine g_if_eq (pc := 31) C dX11_stays_31 (tgt := 45) rfl (fun z14 => ?_) (fun z14 => ?_)
    · replace h := h.1 z14
      refine g_aload_n (pc := 45) C dX11_stays_45 (q := 0) rfl ?_
      obtain ⟨k15, h⟩ := h
      obtain ⟨k16, h⟩ := h
      refine gfX11_125 (pc := 46) C k15 (isK_ne k16) dX11_stays_46 ?_
      refine g_iload_n (pc := 49) C dX11_stays_49 (q := 2) rfl ?_
      refine miX11_128 (pc := 50) C k16 h (Nat.le_of_ble_eq_true rfl) (Nat.le_of_ble_eq_true rfl) hb3 dX11_stays_50 (fun r17 w18 h => ?_)
      refine g_istore_n (pc := 53) C dX11_stays_53 (Nat.le_of_ble_eq_true rfl) (lo' := [(3, .int r17), (2, .ref (adr x (wR w2 (wR w2 a0 0) 0))), (0, .ref (adr x a0)), (1, .int a1)]) rfl ?_
      refine g_iload_n (pc := 54) C dX11_stays_54 (q := 0) rfl ?_
      refine g_aload_n (pc := 55) C dX11_stays_55 (q := 1) rfl ?_
      refine g_iload_n (pc := 56) C dX11_stays_56 (q := 3) rfl ?_
      obtain ⟨k19, h⟩ := h
      refine miX11_144 (pc := 57) C k19 h (Nat.le_of_ble_eq_true rfl) (Nat.le_of_ble_eq_true rfl) hb3 dX11_stays_57 (fun r20 w21 h => ?_)
      refine g_isub (pc := 60) C dX11_stays_60 ?_
      refine gx_ret ?_; exact g_iret (pc := 61) C hlk hr hb3.1 hb3.2 dX11_stays_61 h
    · replace h := h.2 z14
      refine g_aload_n (pc := 34) C dX11_stays_34 (q := 0) rfl ?_
      obtain ⟨k22, h⟩ := h
      obtain ⟨k23, h⟩ := h
      refine gfX11_125 (pc := 35) C k22 (isK_ne k23) dX11_stays_35 ?_
      refine g_iload_n (pc := 38) C dX11_stays_38 (q := 2) rfl ?_
      refine miX11_132 (pc := 39) C k23 h (Nat.le_of_ble_eq_true rfl) (Nat.le_of_ble_eq_true rfl) hb3 dX11_stays_39 (fun r24 w25 h => ?_)
      refine g_goto (pc := 42) C dX11_stays_42 (tgt := 53) rfl ?_
      refine g_istore_n (pc := 53) C dX11_stays_53 (Nat.le_of_ble_eq_true rfl) (lo' := [(3, .int r24), (2, .ref (adr x (wR w2 (wR w2 a0 0) 0))), (0, .ref (adr x a0)), (1, .int a1)]) rfl ?_
      refine g_iload_n (pc := 54) C dX11_stays_54 (q := 0) rfl ?_
      refine g_aload_n (pc := 55) C dX11_stays_55 (q := 1) rfl ?_
      refine g_iload_n (pc := 56) C dX11_stays_56 (q := 3) rfl ?_
      obtain ⟨k26, h⟩ := h
      refine miX11_144 (pc := 57) C k26 h (Nat.le_of_ble_eq_true rfl) (Nat.le_of_ble_eq_true rfl) hb3 dX11_stays_57 (fun r27 w28 h => ?_)
      refine g_isub (pc := 60) C dX11_stays_60 ?_
      refine gx_ret ?_; exact g_iret (pc := 61) C hlk hr hb3.1 hb3.2 dX11_stays_61 h
  · replace h := h.1 z10
    refine g_iconst (pc := 24) C dX11_stays_24 (v := (-1)) rfl ?_
    refine gx_ret ?_; exact g_iret (pc := 25) C hlk hr hb3.1 hb3.2 dX11_stays_25 h
end ME
