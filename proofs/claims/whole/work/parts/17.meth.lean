/-! methods: X8_awakeIn, X8_clear, X8_joined, X8_fewest, X8_firstWith, X8_hoursWith, X8_leastCommon, X8_widen, X8_over, X6_hoursOf, X6_lacking, X6_firstHourFor, X6_hoursTill, X6_hourInPlan, X6_quietWellNow, X6_lookAhead, X6_mostServed, X6_soonestEnd, X9_isAwakeAt, X9_awakeAmongFitting, X9_canBeHeard, X9_fits, X9_findFitting, X9_fitAt, X9_hear, X9_howManyFit, X9_tellsMost, X7_byteAt, X7_isBlank, X7_kindOf, X7_refuse, X7_advance -/
section ME
variable {x : xG} {p : Program} {l : Launch} {e : Env} {R : Room} {s : State} {m : MethodId} {args : Array Value} {below : List Frame} {meth : Method} {c : Code} {Q : State → Prop} {cc : ByteArray} {nL : Nat} {pc : Nat} {lo : List (Nat × Value)} {st : List Value} {w : Wd} {i j : Nat}
theorem miX8_85 (C : xC x p s m c cc nL args RX8) {a0 : Nat} {a1 : Int32} {a2 : Int32} {K : Int32 → Wd → Prop} {D MC MS : Nat} (h : w_X8_turn a0 a1 a2 K w) (hD : 0 + 1 ≤ D) (hW : (st.map fun v => v.category).sum ≤ 8) (hij : i ≤ MC ∧ j ≤ MS) (hd : decode cc pc = .ok (.invokestatic 85, 3)) (k : ∀ (r : Int32) (u : Wd), K r u → GW x p l e (rmd D MC MS) s m args below meth c nL Q (pc + 3) lo (.int r :: st) u i j) : GW x p l e (rmd D MC MS) s m args below meth c nL Q pc lo (.int a2 :: .int a1 :: .ref (adr x a0) :: st) w i j := g_callSi0 C (As := [.ref (adr x a0), .int a1, .int a2]) (c_X8_turn h) (x_cwS C 3 LMX8_85 ⟨by decide, by decide, rfl⟩ hD (by decide)) rfl rfl hW hd hij k
def w_X8_awakeIn (a0 : Nat) (a1 : Int32) (K : Int32 → Wd → Prop) (w : Wd) : Prop :=
  isK w a0 8 ∧ isK w (wR w a0 0) 20 ∧ w_X8_turn (wR w a0 0) (wI w a0 3) a1 (fun r3 w4 => isK w4 a0 8 ∧ isK w4 (wR w4 a0 1) 20 ∧ w_X8_turn (wR w4 a0 1) (wI w4 a0 4) a1 (fun r7 w8 => isK w8 a0 8 ∧ isK w8 (wR w8 a0 2) 20 ∧ w_X8_turn (wR w8 a0 2) (wI w8 a0 5) a1 (fun r11 w12 => K ((r3 + r7) + r11) w12) w8) w4) w
theorem c_X8_awakeIn {x : xG} {l : Launch} {a0 : Nat} {a1 : Int32} {K : Int32 → Wd → Prop} {w : Wd} (h : w_X8_awakeIn a0 a1 K w) : Met l yX8_awakeIn (xws yX8_awakeIn cX8_awakeIn 2 (some .int)) (rmd 1 0 0) (xPc x [.ref (adr x a0), .int a1] w) (QcI x K) 0 0 (xA x) := by
  refine xMet (by decide) (Nat.le_of_ble_eq_true rfl) (fun p e s m below meth c C hlk hr _ => ?_)
  show GW x p l e (rmd 1 0 0) s m [.ref (adr x a0), .int a1].toArray below meth c 2 (QI x K below [.ref (adr x a0), .int a1].toArray s 0 0) 0 [(0, .ref (adr x a0)), (1, .int a1)] [] w 0 0
  refine g_aload_n (pc := 0) C dX8_awakeIn_0 (q := 0) rfl ?_
  obtain ⟨k1, h⟩ := h
  obtain ⟨k2, h⟩ := h
  refine gfX8_9 (pc := 1) C k1 (isK_ne k2) dX8_awakeIn_1 ?_
  refine g_aload_n (pc := 4) C dX8_awakeIn_4 (q := 0) rfl ?_
  refine gfX8_21 (pc := 5) C k1 dX8_awakeIn_5 ?_
  refine g_iload_n (pc := 8) C dX8_awakeIn_8 (q := 1) rfl ?_
  refine miX8_85 (pc := 9) C h (Nat.le_of_ble_eq_true rfl) (Nat.le_of_ble_eq_true rfl) ⟨Nat.le_refl _, Nat.le_refl _⟩ dX8_awakeIn_9 (fun r3 w4 h => ?_)
  refine g_aload_n (pc := 12) C dX8_awakeIn_12 (q := 0) rfl ?_
  obtain ⟨k5, h⟩ := h
  obtain ⟨k6, h⟩ := h
  refine gfX8_15 (pc := 13) C k5 (isK_ne k6) dX8_awakeIn_13 ?_
  refine g_aload_n (pc := 16) C dX8_awakeIn_16 (q := 0) rfl ?_
  refine gfX8_25 (pc := 17) C k5 dX8_awakeIn_17 ?_
  refine g_iload_n (pc := 20) C dX8_awakeIn_20 (q := 1) rfl ?_
  refine miX8_85 (pc := 21) C h (Nat.le_of_ble_eq_true rfl) (Nat.le_of_ble_eq_true rfl) ⟨Nat.le_refl _, Nat.le_refl _⟩ dX8_awakeIn_21 (fun r7 w8 h => ?_)
  refine g_iadd (pc := 24) C dX8_awakeIn_24 ?_
  refine g_aload_n (pc := 25) C dX8_awakeIn_25 (q := 0) rfl ?_
  obtain ⟨k9, h⟩ := h
  obtain ⟨k10, h⟩ := h
  refine gfX8_18 (pc := 26) C k9 (isK_ne k10) dX8_awakeIn_26 ?_
  refine g_aload_n (pc := 29) C dX8_awakeIn_29 (q := 0) rfl ?_
  refine gfX8_28 (pc := 30) C k9 dX8_awakeIn_30 ?_
  refine g_iload_n (pc := 33) C dX8_awakeIn_33 (q := 1) rfl ?_
  refine miX8_85 (pc := 34) C h (Nat.le_of_ble_eq_true rfl) (Nat.le_of_ble_eq_true rfl) ⟨Nat.le_refl _, Nat.le_refl _⟩ dX8_awakeIn_34 (fun r11 w12 h => ?_)
  refine g_iadd (pc := 37) C dX8_awakeIn_37 ?_
  exact g_iret (pc := 38) C hlk hr (Nat.le_refl _) (Nat.le_refl _) dX8_awakeIn_38 h
def l_X8_clear_2  (K : Wd → Prop) : Nat → Nat → Int32 → Wd → Prop
  | 0, _, _, _ => False
  | n + 1, a0, a1, w => (a0 = 1 ∨ isK w a0 20) ∧ (((Int32.ofNat (wn w a0)) ≤ a1 → K w) ∧ (¬ (Int32.ofNat (wn w a0)) ≤ a1 → isK w a0 20 ∧ vp_in a1 (wn w a0) ∧ l_X8_clear_2 K n a0 (a1 + 1) (uI w a0 a1.toNatClampNeg 0)))
def w_X8_clear (a0 : Nat) (K : Wd → Prop) (w : Wd) : Prop :=
  ∃ n5, l_X8_clear_2  K n5 a0 0 w
theorem t_X8_clear_2 (C : xC x p s m c cX8_clear 2 args RX8) (hlk : meth.locks = false) (hr : meth.sig.returnType = none) {K : Wd → Prop}   : ∀ (n : Nat) (a0 : Nat) (a1 : Int32) (w : Wd), l_X8_clear_2 K n a0 a1 w → GW x p l e (rmd 0 0 0) s m args below meth c 2 (QV x K below args s 0 0) 2 [(0, .ref (adr x a0)), (1, .int a1)] [] w 0 0 := by
  intro n
  induction n with
  | zero => intro _ _ _ h; exact False.elim h
  | succ n ih =>
    intro a0 a1 w h
    refine g_iload_n (pc := 2) C dX8_clear_2 (q := 1) rfl ?_
    refine g_aload_n (pc := 3) C dX8_clear_3 (q := 0) rfl ?_
    obtain ⟨k1, h⟩ := h
    refine g_alenI (pc := 4) C k1 dX8_clear_4 ?_
    refine g_icmp_ge (pc := 5) C dX8_clear_5 (tgt := 18) rfl (fun z2 => ?_) (fun z2 => ?_)
    · replace h := h.1 z2
      exact g_vret (pc := 18) C hlk hr (Nat.le_refl _) (Nat.le_refl _) dX8_clear_18 h
    · replace h := h.2 z2
      refine g_aload_n (pc := 8) C dX8_clear_8 (q := 0) rfl ?_
      refine g_iload_n (pc := 9) C dX8_clear_9 (q := 1) rfl ?_
      refine g_iconst (pc := 10) C dX8_clear_10 (v := 0) rfl ?_
      obtain ⟨k3, h⟩ := h
      obtain ⟨k4, h⟩ := h
      refine g_iast (pc := 11) C k3 k4 dX8_clear_11 ?_
      refine g_iinc (pc := 12) C dX8_clear_12 (q := 1) rfl (v2 := a1 + 1) rfl (Nat.le_of_ble_eq_true rfl) (lo' := [(1, .int (a1 + 1)), (0, .ref (adr x a0))]) rfl ?_
      refine g_goto (pc := 15) C dX8_clear_15 (tgt := 2) rfl ?_
      refine g_sub [1, 0] rfl ?_
      exact ih _ _ _ h
theorem c_X8_clear {x : xG} {l : Launch} {a0 : Nat} {K : Wd → Prop} {w : Wd} (h : w_X8_clear a0 K w) : Met l yX8_clear (xws yX8_clear cX8_clear 2 none) (rmd 0 0 0) (xPc x [.ref (adr x a0)] w) (QcV x K) 0 0 (xA x) := by
  refine xMet (by decide) (Nat.le_of_ble_eq_true rfl) (fun p e s m below meth c C hlk hr _ => ?_)
  show GW x p l e (rmd 0 0 0) s m [.ref (adr x a0)].toArray below meth c 2 (QV x K below [.ref (adr x a0)].toArray s 0 0) 0 [(0, .ref (adr x a0))] [] w 0 0
  refine g_iconst (pc := 0) C dX8_clear_0 (v := 0) rfl ?_
  refine g_istore_n (pc := 1) C dX8_clear_1 (Nat.le_of_ble_eq_true rfl) (lo' := [(1, .int 0), (0, .ref (adr x a0))]) rfl ?_
  obtain ⟨n5, h⟩ := h
  refine g_sub [1, 0] rfl ?_
  refine t_X8_clear_2 C hlk hr n5 _ _ _ h
def w_X8_joined (a0 : Nat) (K : Int32 → Wd → Prop) (w : Wd) : Prop :=
  isK w a0 8 ∧ K (((wI w a0 3) * (wI w a0 4)) * (wI w a0 5)) w
theorem c_X8_joined {x : xG} {l : Launch} {a0 : Nat} {K : Int32 → Wd → Prop} {w : Wd} (h : w_X8_joined a0 K w) : Met l yX8_joined (xws yX8_joined cX8_joined 1 (some .int)) (rmd 0 0 0) (xPc x [.ref (adr x a0)] w) (QcI x K) 0 0 (xA x) := by
  refine xMet (by decide) (Nat.le_of_ble_eq_true rfl) (fun p e s m below meth c C hlk hr _ => ?_)
  show GW x p l e (rmd 0 0 0) s m [.ref (adr x a0)].toArray below meth c 1 (QI x K below [.ref (adr x a0)].toArray s 0 0) 0 [(0, .ref (adr x a0))] [] w 0 0
  refine g_aload_n (pc := 0) C dX8_joined_0 (q := 0) rfl ?_
  obtain ⟨k1, h⟩ := h
  refine gfX8_21 (pc := 1) C k1 dX8_joined_1 ?_
  refine g_aload_n (pc := 4) C dX8_joined_4 (q := 0) rfl ?_
  refine gfX8_25 (pc := 5) C k1 dX8_joined_5 ?_
  refine g_imul (pc := 8) C dX8_joined_8 ?_
  refine g_aload_n (pc := 9) C dX8_joined_9 (q := 0) rfl ?_
  refine gfX8_28 (pc := 10) C k1 dX8_joined_10 ?_
  refine g_imul (pc := 13) C dX8_joined_13 ?_
  exact g_iret (pc := 14) C hlk hr (Nat.le_refl _) (Nat.le_refl _) dX8_joined_14 h
theorem miX8_62 (C : xC x p s m c cc nL args RX8) {a0 : Nat} {K : Int32 → Wd → Prop} {D MC MS : Nat} (hq : isK w a0 8) (h : w_X8_joined a0 K w) (hD : 0 + 1 ≤ D) (hW : (st.map fun v => v.category).sum ≤ 8) (hij : i ≤ MC ∧ j ≤ MS) (hd : decode cc pc = .ok (.invokevirtual 62, 3)) (k : ∀ (r : Int32) (u : Wd), K r u → GW x p l e (rmd D MC MS) s m args below meth c nL Q (pc + 3) lo (.int r :: st) u i j) : GW x p l e (rmd D MC MS) s m args below meth c nL Q pc lo (.ref (adr x a0) :: st) w i j := g_callVi0 C (As := []) (ci := 8) (c_X8_joined h) (x_cwV C 0 LMX8_62 ⟨rfl, by decide, by decide, rfl⟩ hD (by decide)) rfl hq (by decide) rfl rfl hW hd hij k
theorem miX8_66 (C : xC x p s m c cc nL args RX8) {a0 : Nat} {a1 : Int32} {K : Int32 → Wd → Prop} {D MC MS : Nat} (hq : isK w a0 8) (h : w_X8_awakeIn a0 a1 K w) (hD : 1 + 1 ≤ D) (hW : (st.map fun v => v.category).sum ≤ 8) (hij : i ≤ MC ∧ j ≤ MS) (hd : decode cc pc = .ok (.invokevirtual 66, 3)) (k : ∀ (r : Int32) (u : Wd), K r u → GW x p l e (rmd D MC MS) s m args below meth c nL Q (pc + 3) lo (.int r :: st) u i j) : GW x p l e (rmd D MC MS) s m args below meth c nL Q pc lo (.int a1 :: .ref (adr x a0) :: st) w i j := g_callVi0 C (As := [.int a1]) (ci := 8) (c_X8_awakeIn h) (x_cwV C 1 LMX8_66 ⟨rfl, by decide, by decide, rfl⟩ hD (by decide)) rfl hq (by decide) rfl rfl hW hd hij k
theorem miX8_69 (C : xC x p s m c cc nL args RX8) {a0 : Int32} {a1 : Int32} {K : Int32 → Wd → Prop} {D MC MS : Nat} (h : w_J9_min_7cf53 a0 a1 K w) (hD : 0 + 1 ≤ D) (hW : (st.map fun v => v.category).sum ≤ 8) (hij : i ≤ MC ∧ j ≤ MS) (hd : decode cc pc = .ok (.invokestatic 69, 3)) (k : ∀ (r : Int32) (u : Wd), K r u → GW x p l e (rmd D MC MS) s m args below meth c nL Q (pc + 3) lo (.int r :: st) u i j) : GW x p l e (rmd D MC MS) s m args below meth c nL Q pc lo (.int a1 :: .int a0 :: st) w i j := g_callSi0 C (As := [.int a0, .int a1]) (c_J9_min_7cf53 h) (x_cwS C 2 LMX8_69 ⟨by decide, by decide, rfl⟩ hD (by decide)) rfl rfl hW hd hij k
def l_X8_fewest_10  (K : Int32 → Wd → Prop) : Nat → Nat → Int32 → Int32 → Int32 → Wd → Prop
  | 0, _, _, _, _, _ => False
  | n + 1, a0, a1, a2, a3, w => ((a1 ≤ a3 → K a2 w) ∧ (¬ a1 ≤ a3 → isK w a0 8 ∧ w_X8_awakeIn a0 a3 (fun r6 w7 => w_J9_min_7cf53 a2 r6 (fun r8 w9 => l_X8_fewest_10 K n a0 a1 r8 (a3 + 1) w9) w7) w))
def w_X8_fewest (a0 : Nat) (K : Int32 → Wd → Prop) (w : Wd) : Prop :=
  isK w a0 8 ∧ w_X8_joined a0 (fun r2 w3 => ∃ n10, l_X8_fewest_10  K n10 a0 r2 10 0 w3) w
theorem t_X8_fewest_10 (C : xC x p s m c cX8_fewest 4 args RX8) (hlk : meth.locks = false) (hr : meth.sig.returnType = some .int) {K : Int32 → Wd → Prop}   : ∀ (n : Nat) (a0 : Nat) (a1 : Int32) (a2 : Int32) (a3 : Int32) (w : Wd), l_X8_fewest_10 K n a0 a1 a2 a3 w → GW x p l e (rmd 2 0 0) s m args below meth c 4 (QI x K below args s 0 0) 10 [(0, .ref (adr x a0)), (1, .int a1), (2, .int a2), (3, .int a3)] [] w 0 0 := by
  intro n
  induction n with
  | zero => intro _ _ _ _ _ h; exact False.elim h
  | succ n ih =>
    intro a0 a1 a2 a3 w h
    refine g_iload_n (pc := 10) C dX8_fewest_10 (q := 3) rfl ?_
    refine g_iload_n (pc := 11) C dX8_fewest_11 (q := 1) rfl ?_
    refine g_icmp_ge (pc := 12) C dX8_fewest_12 (tgt := 31) rfl (fun z4 => ?_) (fun z4 => ?_)
    · replace h := h.1 z4
      refine g_iload_n (pc := 31) C dX8_fewest_31 (q := 2) rfl ?_
      exact g_iret (pc := 32) C hlk hr (Nat.le_refl _) (Nat.le_refl _) dX8_fewest_32 h
    · replace h := h.2 z4
      refine g_iload_n (pc := 15) C dX8_fewest_15 (q := 2) rfl ?_
      refine g_aload_n (pc := 16) C dX8_fewest_16 (q := 0) rfl ?_
      refine g_iload_n (pc := 17) C dX8_fewest_17 (q := 3) rfl ?_
      obtain ⟨k5, h⟩ := h
      refine miX8_66 (pc := 18) C k5 h (Nat.le_of_ble_eq_true rfl) (Nat.le_of_ble_eq_true rfl) ⟨Nat.le_refl _, Nat.le_refl _⟩ dX8_fewest_18 (fun r6 w7 h => ?_)
      refine miX8_69 (pc := 21) C h (Nat.le_of_ble_eq_true rfl) (Nat.le_of_ble_eq_true rfl) ⟨Nat.le_refl _, Nat.le_refl _⟩ dX8_fewest_21 (fun r8 w9 h => ?_)
      refine g_istore_n (pc := 24) C dX8_fewest_24 (Nat.le_of_ble_eq_true rfl) (lo' := [(2, .int r8), (0, .ref (adr x a0)), (1, .int a1), (3, .int a3)]) rfl ?_
      refine g_iinc (pc := 25) C dX8_fewest_25 (q := 3) rfl (v2 := a3 + 1) rfl (Nat.le_of_ble_eq_true rfl) (lo' := [(3, .int (a3 + 1)), (2, .int r8), (0, .ref (adr x a0)), (1, .int a1)]) rfl ?_
      refine g_goto (pc := 28) C dX8_fewest_28 (tgt := 10) rfl ?_
      refine g_sub [2, 3, 1, 0] rfl ?_
      exact ih _ _ _ _ _ h
theorem c_X8_fewest {x : xG} {l : Launch} {a0 : Nat} {K : Int32 → Wd → Prop} {w : Wd} (h : w_X8_fewest a0 K w) : Met l yX8_fewest (xws yX8_fewest cX8_fewest 4 (some .int)) (rmd 2 0 0) (xPc x [.ref (adr x a0)] w) (QcI x K) 0 0 (xA x) := by
  refine xMet (by decide) (Nat.le_of_ble_eq_true rfl) (fun p e s m below meth c C hlk hr _ => ?_)
  show GW x p l e (rmd 2 0 0) s m [.ref (adr x a0)].toArray below meth c 4 (QI x K below [.ref (adr x a0)].toArray s 0 0) 0 [(0, .ref (adr x a0))] [] w 0 0
  refine g_aload_n (pc := 0) C dX8_fewest_0 (q := 0) rfl ?_
  obtain ⟨k1, h⟩ := h
  refine miX8_62 (pc := 1) C k1 h (Nat.le_of_ble_eq_true rfl) (Nat.le_of_ble_eq_true rfl) ⟨Nat.le_refl _, Nat.le_refl _⟩ dX8_fewest_1 (fun r2 w3 h => ?_)
  refine g_istore_n (pc := 4) C dX8_fewest_4 (Nat.le_of_ble_eq_true rfl) (lo' := [(1, .int r2), (0, .ref (adr x a0))]) rfl ?_
  refine g_bipush (pc := 5) C dX8_fewest_5 (v := 10) rfl ?_
  refine g_istore_n (pc := 7) C dX8_fewest_7 (Nat.le_of_ble_eq_true rfl) (lo' := [(2, .int 10), (1, .int r2), (0, .ref (adr x a0))]) rfl ?_
  refine g_iconst (pc := 8) C dX8_fewest_8 (v := 0) rfl ?_
  refine g_istore_n (pc := 9) C dX8_fewest_9 (Nat.le_of_ble_eq_true rfl) (lo' := [(3, .int 0), (2, .int 10), (1, .int r2), (0, .ref (adr x a0))]) rfl ?_
  obtain ⟨n10, h⟩ := h
  refine g_sub [3, 2, 1, 0] rfl ?_
  refine t_X8_fewest_10 C hlk hr n10 _ _ _ _ _ h
def l_X8_firstWith_7  (K : Int32 → Wd → Prop) : Nat → Nat → Int32 → Int32 → Int32 → Wd → Prop
  | 0, _, _, _, _, _ => False
  | n + 1, a0, a1, a2, a3, w => ((a2 ≤ a3 → K (-1) w) ∧ (¬ a2 ≤ a3 → isK w a0 8 ∧ w_X8_awakeIn a0 a3 (fun r6 w7 => ((r6 = a1 → K a3 w7) ∧ (¬ r6 = a1 → l_X8_firstWith_7 K n a0 a1 a2 (a3 + 1) w7))) w))
def w_X8_firstWith (a0 : Nat) (a1 : Int32) (K : Int32 → Wd → Prop) (w : Wd) : Prop :=
  isK w a0 8 ∧ w_X8_joined a0 (fun r2 w3 => ∃ n9, l_X8_firstWith_7  K n9 a0 a1 r2 0 w3) w
theorem t_X8_firstWith_7 (C : xC x p s m c cX8_firstWith 4 args RX8) (hlk : meth.locks = false) (hr : meth.sig.returnType = some .int) {K : Int32 → Wd → Prop}   : ∀ (n : Nat) (a0 : Nat) (a1 : Int32) (a2 : Int32) (a3 : Int32) (w : Wd), l_X8_firstWith_7 K n a0 a1 a2 a3 w → GW x p l e (rmd 2 0 0) s m args below meth c 4 (QI x K below args s 0 0) 7 [(0, .ref (adr x a0)), (1, .int a1), (2, .int a2), (3, .int a3)] [] w 0 0 := by
  intro n
  induction n with
  | zero => intro _ _ _ _ _ h; exact False.elim h
  | succ n ih =>
    intro a0 a1 a2 a3 w h
    refine g_iload_n (pc := 7) C dX8_firstWith_7 (q := 3) rfl ?_
    refine g_iload_n (pc := 8) C dX8_firstWith_8 (q := 2) rfl ?_
    refine g_icmp_ge (pc := 9) C dX8_firstWith_9 (tgt := 29) rfl (fun z4 => ?_) (fun z4 => ?_)
    · replace h := h.1 z4
      refine g_iconst (pc := 29) C dX8_firstWith_29 (v := (-1)) rfl ?_
      exact g_iret (pc := 30) C hlk hr (Nat.le_refl _) (Nat.le_refl _) dX8_firstWith_30 h
    · replace h := h.2 z4
      refine g_aload_n (pc := 12) C dX8_firstWith_12 (q := 0) rfl ?_
      refine g_iload_n (pc := 13) C dX8_firstWith_13 (q := 3) rfl ?_
      obtain ⟨k5, h⟩ := h
      refine miX8_66 (pc := 14) C k5 h (Nat.le_of_ble_eq_true rfl) (Nat.le_of_ble_eq_true rfl) ⟨Nat.le_refl _, Nat.le_refl _⟩ dX8_firstWith_14 (fun r6 w7 h => ?_)
      refine g_iload_n (pc := 17) C dX8_firstWith_17 (q := 1) rfl ?_
      refine g_icmp_ne (pc := 18) C dX8_firstWith_18 (tgt := 23) rfl (fun z8 => ?_) (fun z8 => ?_)
      · replace h := h.2 z8
        refine g_iinc (pc := 23) C dX8_firstWith_23 (q := 3) rfl (v2 := a3 + 1) rfl (Nat.le_of_ble_eq_true rfl) (lo' := [(3, .int (a3 + 1)), (0, .ref (adr x a0)), (1, .int a1), (2, .int a2)]) rfl ?_
        refine g_goto (pc := 26) C dX8_firstWith_26 (tgt := 7) rfl ?_
        refine g_sub [1, 2, 3, 0] rfl ?_
        exact ih _ _ _ _ _ h
      · replace h := h.1 z8
        refine g_iload_n (pc := 21) C dX8_firstWith_21 (q := 3) rfl ?_
        exact g_iret (pc := 22) C hlk hr (Nat.le_refl _) (Nat.le_refl _) dX8_firstWith_22 h
theorem c_X8_firstWith {x : xG} {l : Launch} {a0 : Nat} {a1 : Int32} {K : Int32 → Wd → Prop} {w : Wd} (h : w_X8_firstWith a0 a1 K w) : Met l yX8_firstWith (xws yX8_firstWith cX8_firstWith 4 (some .int)) (rmd 2 0 0) (xPc x [.ref (adr x a0), .int a1] w) (QcI x K) 0 0 (xA x) := by
  refine xMet (by decide) (Nat.le_of_ble_eq_true rfl) (fun p e s m below meth c C hlk hr _ => ?_)
  show GW x p l e (rmd 2 0 0) s m [.ref (adr x a0), .int a1].toArray below meth c 4 (QI x K below [.ref (adr x a0), .int a1].toArray s 0 0) 0 [(0, .ref (adr x a0)), (1, .int a1)] [] w 0 0
  refine g_aload_n (pc := 0) C dX8_firstWith_0 (q := 0) rfl ?_
  obtain ⟨k1, h⟩ := h
  refine miX8_62 (pc := 1) C k1 h (Nat.le_of_ble_eq_true rfl) (Nat.le_of_ble_eq_true rfl) ⟨Nat.le_refl _, Nat.le_refl _⟩ dX8_firstWith_1 (fun r2 w3 h => ?_)
  refine g_istore_n (pc := 4) C dX8_firstWith_4 (Nat.le_of_ble_eq_true rfl) (lo' := [(2, .int r2), (0, .ref (adr x a0)), (1, .int a1)]) rfl ?_
  refine g_iconst (pc := 5) C dX8_firstWith_5 (v := 0) rfl ?_
  refine g_istore_n (pc := 6) C dX8_firstWith_6 (Nat.le_of_ble_eq_true rfl) (lo' := [(3, .int 0), (2, .int r2), (0, .ref (adr x a0)), (1, .int a1)]) rfl ?_
  obtain ⟨n9, h⟩ := h
  refine g_sub [2, 3, 1, 0] rfl ?_
  refine t_X8_firstWith_7 C hlk hr n9 _ _ _ _ _ h
def l_X8_hoursWith_10  (K : Int32 → Wd → Prop) : Nat → Nat → Int32 → Int32 → Int32 → Int32 → Wd → Prop
  | 0, _, _, _, _, _, _ => False
  | n + 1, a0, a1, a2, a3, a4, w => ((a2 ≤ a4 → K a3 w) ∧ (¬ a2 ≤ a4 → isK w a0 8 ∧ w_X8_awakeIn a0 a4 (fun r6 w7 => ((r6 = a1 → l_X8_hoursWith_10 K n a0 a1 a2 (a3 + 1) (a4 + 1) w7) ∧ (¬ r6 = a1 → l_X8_hoursWith_10 K n a0 a1 a2 a3 (a4 + 1) w7))) w))
def w_X8_hoursWith (a0 : Nat) (a1 : Int32) (K : Int32 → Wd → Prop) (w : Wd) : Prop :=
  isK w a0 8 ∧ w_X8_joined a0 (fun r2 w3 => ∃ n9, l_X8_hoursWith_10  K n9 a0 a1 r2 0 0 w3) w
theorem t_X8_hoursWith_10 (C : xC x p s m c cX8_hoursWith 5 args RX8) (hlk : meth.locks = false) (hr : meth.sig.returnType = some .int) {K : Int32 → Wd → Prop}   : ∀ (n : Nat) (a0 : Nat) (a1 : Int32) (a2 : Int32) (a3 : Int32) (a4 : Int32) (w : Wd), l_X8_hoursWith_10 K n a0 a1 a2 a3 a4 w → GW x p l e (rmd 2 0 0) s m args below meth c 5 (QI x K below args s 0 0) 10 [(0, .ref (adr x a0)), (1, .int a1), (2, .int a2), (3, .int a3), (4, .int a4)] [] w 0 0 := by
  intro n
  induction n with
  | zero => intro _ _ _ _ _ _ h; exact False.elim h
  | succ n ih =>
    intro a0 a1 a2 a3 a4 w h
    refine g_iload (pc := 10) C dX8_hoursWith_10 (q := 4) rfl ?_
    refine g_iload_n (pc := 12) C dX8_hoursWith_12 (q := 2) rfl ?_
    refine g_icmp_ge (pc := 13) C dX8_hoursWith_13 (tgt := 35) rfl (fun z4 => ?_) (fun z4 => ?_)
    · replace h := h.1 z4
      refine g_iload_n (pc := 35) C dX8_hoursWith_35 (q := 3) rfl ?_
      exact g_iret (pc := 36) C hlk hr (Nat.le_refl _) (Nat.le_refl _) dX8_hoursWith_36 h
    · replace h := h.2 z4
      refine g_aload_n (pc := 16) C dX8_hoursWith_16 (q := 0) rfl ?_
      refine g_iload (pc := 17) C dX8_hoursWith_17 (q := 4) rfl ?_
      obtain ⟨k5, h⟩ := h
      refine miX8_66 (pc := 19) C k5 h (Nat.le_of_ble_eq_true rfl) (Nat.le_of_ble_eq_true rfl) ⟨Nat.le_refl _, Nat.le_refl _⟩ dX8_hoursWith_19 (fun r6 w7 h => ?_)
      refine g_iload_n (pc := 22) C dX8_hoursWith_22 (q := 1) rfl ?_
      refine g_icmp_ne (pc := 23) C dX8_hoursWith_23 (tgt := 29) rfl (fun z8 => ?_) (fun z8 => ?_)
      · replace h := h.2 z8
        refine g_iinc (pc := 29) C dX8_hoursWith_29 (q := 4) rfl (v2 := a4 + 1) rfl (Nat.le_of_ble_eq_true rfl) (lo' := [(4, .int (a4 + 1)), (0, .ref (adr x a0)), (1, .int a1), (2, .int a2), (3, .int a3)]) rfl ?_
        refine g_goto (pc := 32) C dX8_hoursWith_32 (tgt := 10) rfl ?_
        refine g_sub [1, 2, 3, 4, 0] rfl ?_
        exact ih _ _ _ _ _ _ h
      · replace h := h.1 z8
        refine g_iinc (pc := 26) C dX8_hoursWith_26 (q := 3) rfl (v2 := a3 + 1) rfl (Nat.le_of_ble_eq_true rfl) (lo' := [(3, .int (a3 + 1)), (0, .ref (adr x a0)), (1, .int a1), (2, .int a2), (4, .int a4)]) rfl ?_
        refine g_iinc (pc := 29) C dX8_hoursWith_29 (q := 4) rfl (v2 := a4 + 1) rfl (Nat.le_of_ble_eq_true rfl) (lo' := [(4, .int (a4 + 1)), (3, .int (a3 + 1)), (0, .ref (adr x a0)), (1, .int a1), (2, .int a2)]) rfl ?_
        refine g_goto (pc := 32) C dX8_hoursWith_32 (tgt := 10) rfl ?_
        refine g_sub [2, 3, 4, 1, 0] rfl ?_
        exact ih _ _ _ _ _ _ h
theorem c_X8_hoursWith {x : xG} {l : Launch} {a0 : Nat} {a1 : Int32} {K : Int32 → Wd → Prop} {w : Wd} (h : w_X8_hoursWith a0 a1 K w) : Met l yX8_hoursWith (xws yX8_hoursWith cX8_hoursWith 5 (some .int)) (rmd 2 0 0) (xPc x [.ref (adr x a0), .int a1] w) (QcI x K) 0 0 (xA x) := by
  refine xMet (by decide) (Nat.le_of_ble_eq_true rfl) (fun p e s m below meth c C hlk hr _ => ?_)
  show GW x p l e (rmd 2 0 0) s m [.ref (adr x a0), .int a1].toArray below meth c 5 (QI x K below [.ref (adr x a0), .int a1].toArray s 0 0) 0 [(0, .ref (adr x a0)), (1, .int a1)] [] w 0 0
  refine g_aload_n (pc := 0) C dX8_hoursWith_0 (q := 0) rfl ?_
  obtain ⟨k1, h⟩ := h
  refine miX8_62 (pc := 1) C k1 h (Nat.le_of_ble_eq_true rfl) (Nat.le_of_ble_eq_true rfl) ⟨Nat.le_refl _, Nat.le_refl _⟩ dX8_hoursWith_1 (fun r2 w3 h => ?_)
  refine g_istore_n (pc := 4) C dX8_hoursWith_4 (Nat.le_of_ble_eq_true rfl) (lo' := [(2, .int r2), (0, .ref (adr x a0)), (1, .int a1)]) rfl ?_
  refine g_iconst (pc := 5) C dX8_hoursWith_5 (v := 0) rfl ?_
  refine g_istore_n (pc := 6) C dX8_hoursWith_6 (Nat.le_of_ble_eq_true rfl) (lo' := [(3, .int 0), (2, .int r2), (0, .ref (adr x a0)), (1, .int a1)]) rfl ?_
  refine g_iconst (pc := 7) C dX8_hoursWith_7 (v := 0) rfl ?_
  refine g_istore (pc := 8) C dX8_hoursWith_8 (Nat.le_of_ble_eq_true rfl) (lo' := [(4, .int 0), (3, .int 0), (2, .int r2), (0, .ref (adr x a0)), (1, .int a1)]) rfl ?_
  obtain ⟨n9, h⟩ := h
  refine g_sub [3, 4, 2, 1, 0] rfl ?_
  refine t_X8_hoursWith_10 C hlk hr n9 _ _ _ _ _ _ h
def l_X8_leastCommon_4  (K : Int32 → Wd → Prop) : Nat → Int32 → Int32 → Int32 → Int32 → Wd → Prop
  | 0, _, _, _, _, _ => False
  | n + 1, a0, a1, a2, a3, w => ((a1 ≤ a3 → K a2 w) ∧ (¬ a1 ≤ a3 → ((a1 ≤ 0 → K a2 w) ∧ (¬ a1 ≤ 0 → ¬ a1 = 0 ∧ (((x_irem a2 a1) = 0 → K a2 w) ∧ (¬ (x_irem a2 a1) = 0 → l_X8_leastCommon_4 K n a0 a1 (a2 + a0) (a3 + 1) w))))))
def w_X8_leastCommon (a0 : Int32) (a1 : Int32) (K : Int32 → Wd → Prop) (w : Wd) : Prop :=
  ∃ n5, l_X8_leastCommon_4  K n5 a0 a1 a0 1 w
theorem t_X8_leastCommon_4 (C : xC x p s m c cX8_leastCommon 4 args RX8) (hlk : meth.locks = false) (hr : meth.sig.returnType = some .int) {K : Int32 → Wd → Prop}   : ∀ (n : Nat) (a0 : Int32) (a1 : Int32) (a2 : Int32) (a3 : Int32) (w : Wd), l_X8_leastCommon_4 K n a0 a1 a2 a3 w → GW x p l e (rmd 0 0 0) s m args below meth c 4 (QI x K below args s 0 0) 4 [(0, .int a0), (1, .int a1), (2, .int a2), (3, .int a3)] [] w 0 0 := by
  intro n
  induction n with
  | zero => intro _ _ _ _ _ h; exact False.elim h
  | succ n ih =>
    intro a0 a1 a2 a3 w h
    refine g_iload_n (pc := 4) C dX8_leastCommon_4 (q := 3) rfl ?_
    refine g_iload_n (pc := 5) C dX8_leastCommon_5 (q := 1) rfl ?_
    refine g_icmp_ge (pc := 6) C dX8_leastCommon_6 (tgt := 29) rfl (fun z1 => ?_) (fun z1 => ?_)
    · replace h := h.1 z1
      refine g_iload_n (pc := 29) C dX8_leastCommon_29 (q := 2) rfl ?_
      exact g_iret (pc := 30) C hlk hr (Nat.le_refl _) (Nat.le_refl _) dX8_leastCommon_30 h
    · replace h := h.2 z1
      refine g_iload_n (pc := 9) C dX8_leastCommon_9 (q := 1) rfl ?_
      refine g_if_le (pc := 10) C dX8_leastCommon_10 (tgt := 29) rfl (fun z2 => ?_) (fun z2 => ?_)
      · replace h := h.1 z2
        refine g_iload_n (pc := 29) C dX8_leastCommon_29 (q := 2) rfl ?_
        exact g_iret (pc := 30) C hlk hr (Nat.le_refl _) (Nat.le_refl _) dX8_leastCommon_30 h
      · replace h := h.2 z2
        refine g_iload_n (pc := 13) C dX8_leastCommon_13 (q := 2) rfl ?_
        refine g_iload_n (pc := 14) C dX8_leastCommon_14 (q := 1) rfl ?_
        obtain ⟨k3, h⟩ := h
        refine h_irem (pc := 15) C dX8_leastCommon_15 k3 ?_
        refine g_if_eq (pc := 16) C dX8_leastCommon_16 (tgt := 29) rfl (fun z4 => ?_) (fun z4 => ?_)
        · replace h := h.1 z4
          refine g_iload_n (pc := 29) C dX8_leastCommon_29 (q := 2) rfl ?_
          exact g_iret (pc := 30) C hlk hr (Nat.le_refl _) (Nat.le_refl _) dX8_leastCommon_30 h
        · replace h := h.2 z4
          refine g_iload_n (pc := 19) C dX8_leastCommon_19 (q := 2) rfl ?_
          refine g_iload_n (pc := 20) C dX8_leastCommon_20 (q := 0) rfl ?_
          refine g_iadd (pc := 21) C dX8_leastCommon_21 ?_
          refine g_istore_n (pc := 22) C dX8_leastCommon_22 (Nat.le_of_ble_eq_true rfl) (lo' := [(2, .int (a2 + a0)), (0, .int a0), (1, .int a1), (3, .int a3)]) rfl ?_
          refine g_iinc (pc := 23) C dX8_leastCommon_23 (q := 3) rfl (v2 := a3 + 1) rfl (Nat.le_of_ble_eq_true rfl) (lo' := [(3, .int (a3 + 1)), (2, .int (a2 + a0)), (0, .int a0), (1, .int a1)]) rfl ?_
          refine g_goto (pc := 26) C dX8_leastCommon_26 (tgt := 4) rfl ?_
          refine g_sub [2, 3, 1, 0] rfl ?_
          exact ih _ _ _ _ _ h
theorem c_X8_leastCommon {x : xG} {l : Launch} {a0 : Int32} {a1 : Int32} {K : Int32 → Wd → Prop} {w : Wd} (h : w_X8_leastCommon a0 a1 K w) : Met l yX8_leastCommon (xws yX8_leastCommon cX8_leastCommon 4 (some .int)) (rmd 0 0 0) (xPc x [.int a0, .int a1] w) (QcI x K) 0 0 (xA x) := by
  refine xMet (by decide) (Nat.le_of_ble_eq_true rfl) (fun p e s m below meth c C hlk hr _ => ?_)
  show GW x p l e (rmd 0 0 0) s m [.int a0, .int a1].toArray below meth c 4 (QI x K below [.int a0, .int a1].toArray s 0 0) 0 [(0, .int a0), (1, .int a1)] [] w 0 0
  refine g_iload_n (pc := 0) C dX8_leastCommon_0 (q := 0) rfl ?_
  refine g_istore_n (pc := 1) C dX8_leastCommon_1 (Nat.le_of_ble_eq_true rfl) (lo' := [(2, .int a0), (0, .int a0), (1, .int a1)]) rfl ?_
  refine g_iconst (pc := 2) C dX8_leastCommon_2 (v := 1) rfl ?_
  refine g_istore_n (pc := 3) C dX8_leastCommon_3 (Nat.le_of_ble_eq_true rfl) (lo' := [(3, .int 1), (2, .int a0), (0, .int a0), (1, .int a1)]) rfl ?_
  obtain ⟨n5, h⟩ := h
  refine g_sub [2, 3, 1, 0] rfl ?_
  refine t_X8_leastCommon_4 C hlk hr n5 _ _ _ _ _ h
theorem miX8_75 (C : xC x p s m c cc nL args RX8) {a0 : Int32} {a1 : Int32} {K : Int32 → Wd → Prop} {D MC MS : Nat} (h : w_X8_leastCommon a0 a1 K w) (hD : 0 + 1 ≤ D) (hW : (st.map fun v => v.category).sum ≤ 8) (hij : i ≤ MC ∧ j ≤ MS) (hd : decode cc pc = .ok (.invokestatic 75, 3)) (k : ∀ (r : Int32) (u : Wd), K r u → GW x p l e (rmd D MC MS) s m args below meth c nL Q (pc + 3) lo (.int r :: st) u i j) : GW x p l e (rmd D MC MS) s m args below meth c nL Q pc lo (.int a1 :: .int a0 :: st) w i j := g_callSi0 C (As := [.int a0, .int a1]) (c_X8_leastCommon h) (x_cwS C 2 LMX8_75 ⟨by decide, by decide, rfl⟩ hD (by decide)) rfl rfl hW hd hij k
def w_X8_widen (a0 : Nat) (a1 : Int32) (K : Wd → Prop) (w : Wd) : Prop :=
  isK w a0 8 ∧ isK w (wR w a0 1) 20 ∧ ((a1 = (Int32.ofNat (wn w (wR w a0 1))) → K (uI w a0 4 a1)) ∧ (¬ a1 = (Int32.ofNat (wn w (wR w a0 1))) → isK w (wR w a0 2) 20 ∧ ((a1 = (Int32.ofNat (wn w (wR w a0 2))) → K (uI w a0 5 a1)) ∧ (¬ a1 = (Int32.ofNat (wn w (wR w a0 2))) → w_X8_leastCommon (wI w a0 3) a1 (fun r6 w7 => isK w7 a0 8 ∧ K (uI w7 a0 3 r6)) w))))
theorem c_X8_widen {x : xG} {l : Launch} {a0 : Nat} {a1 : Int32} {K : Wd → Prop} {w : Wd} (h : w_X8_widen a0 a1 K w) : Met l yX8_widen (xws yX8_widen cX8_widen 2 none) (rmd 1 0 0) (xPc x [.ref (adr x a0), .int a1] w) (QcV x K) 0 0 (xA x) := by
  refine xMet (by decide) (Nat.le_of_ble_eq_true rfl) (fun p e s m below meth c C hlk hr _ => ?_)
  show GW x p l e (rmd 1 0 0) s m [.ref (adr x a0), .int a1].toArray below meth c 2 (QV x K below [.ref (adr x a0), .int a1].toArray s 0 0) 0 [(0, .ref (adr x a0)), (1, .int a1)] [] w 0 0
  refine g_iload_n (pc := 0) C dX8_widen_0 (q := 1) rfl ?_
  refine g_aload_n (pc := 1) C dX8_widen_1 (q := 0) rfl ?_
  obtain ⟨k1, h⟩ := h
  obtain ⟨k2, h⟩ := h
  refine gfX8_15 (pc := 2) C k1 (isK_ne k2) dX8_widen_2 ?_
  refine g_alen (pc := 5) C k2 (by decide) dX8_widen_5 ?_
  refine g_icmp_ne (pc := 6) C dX8_widen_6 (tgt := 17) rfl (fun z3 => ?_) (fun z3 => ?_)
  · replace h := h.2 z3
    refine g_iload_n (pc := 17) C dX8_widen_17 (q := 1) rfl ?_
    refine g_aload_n (pc := 18) C dX8_widen_18 (q := 0) rfl ?_
    obtain ⟨k4, h⟩ := h
    refine gfX8_18 (pc := 19) C k1 (isK_ne k4) dX8_widen_19 ?_
    refine g_alen (pc := 22) C k4 (by decide) dX8_widen_22 ?_
    refine g_icmp_ne (pc := 23) C dX8_widen_23 (tgt := 34) rfl (fun z5 => ?_) (fun z5 => ?_)
    · replace h := h.2 z5
      refine g_aload_n (pc := 34) C dX8_widen_34 (q := 0) rfl ?_
      refine g_aload_n (pc := 35) C dX8_widen_35 (q := 0) rfl ?_
      refine gfX8_21 (pc := 36) C k1 dX8_widen_36 ?_
      refine g_iload_n (pc := 39) C dX8_widen_39 (q := 1) rfl ?_
      refine miX8_75 (pc := 40) C h (Nat.le_of_ble_eq_true rfl) (Nat.le_of_ble_eq_true rfl) ⟨Nat.le_refl _, Nat.le_refl _⟩ dX8_widen_40 (fun r6 w7 h => ?_)
      obtain ⟨k8, h⟩ := h
      refine pfX8_21 (pc := 43) C k8 dX8_widen_43 ?_
      exact g_vret (pc := 46) C hlk hr (Nat.le_refl _) (Nat.le_refl _) dX8_widen_46 h
    · replace h := h.1 z5
      refine g_aload_n (pc := 26) C dX8_widen_26 (q := 0) rfl ?_
      refine g_iload_n (pc := 27) C dX8_widen_27 (q := 1) rfl ?_
      refine pfX8_28 (pc := 28) C k1 dX8_widen_28 ?_
      refine g_goto (pc := 31) C dX8_widen_31 (tgt := 46) rfl ?_
      exact g_vret (pc := 46) C hlk hr (Nat.le_refl _) (Nat.le_refl _) dX8_widen_46 h
  · replace h := h.1 z3
    refine g_aload_n (pc := 9) C dX8_widen_9 (q := 0) rfl ?_
    refine g_iload_n (pc := 10) C dX8_widen_10 (q := 1) rfl ?_
    refine pfX8_25 (pc := 11) C k1 dX8_widen_11 ?_
    refine g_goto (pc := 14) C dX8_widen_14 (tgt := 46) rfl ?_
    exact g_vret (pc := 46) C hlk hr (Nat.le_refl _) (Nat.le_refl _) dX8_widen_46 h
theorem miX8_42 (C : xC x p s m c cc nL args RX8) {a0 : Int32} {a1 : Int32} {K : Int32 → Wd → Prop} {D MC MS : Nat} (h : w_X11_has a0 a1 K w) (hD : 0 + 1 ≤ D) (hW : (st.map fun v => v.category).sum ≤ 8) (hij : i ≤ MC ∧ j ≤ MS) (hd : decode cc pc = .ok (.invokestatic 42, 3)) (k : ∀ (r : Int32) (u : Wd), K r u → GW x p l e (rmd D MC MS) s m args below meth c nL Q (pc + 3) lo (.int r :: st) u i j) : GW x p l e (rmd D MC MS) s m args below meth c nL Q pc lo (.int a1 :: .int a0 :: st) w i j := g_callNi0 C (As := [.int a0, .int a1]) (c_X11_has h) (x_cwN C 2 LKX11_has LNX8_42 LSX11_has LIX11 ⟨by decide, by decide, rfl⟩ hD (by decide)) rfl rfl hW hd hij k
theorem miX8_50 (C : xC x p s m c cc nL args RX8) {a0 : Nat} {a1 : Int32} {K : Wd → Prop} {D MC MS : Nat} (hq : isK w a0 8) (h : w_X8_widen a0 a1 K w) (hD : 1 + 1 ≤ D) (hW : (st.map fun v => v.category).sum ≤ 8) (hij : i ≤ MC ∧ j ≤ MS) (hd : decode cc pc = .ok (.invokevirtual 50, 3)) (k : ∀ (u : Wd), K u → GW x p l e (rmd D MC MS) s m args below meth c nL Q (pc + 3) lo st u i j) : GW x p l e (rmd D MC MS) s m args below meth c nL Q pc lo (.int a1 :: .ref (adr x a0) :: st) w i j := g_callVv0 C (As := [.int a1]) (ci := 8) (c_X8_widen h) (x_cwV C 1 LMX8_50 ⟨rfl, by decide, by decide, rfl⟩ hD (by decide)) rfl hq (by decide) rfl rfl hW hd hij k
theorem miX8_54 (C : xC x p s m c cc nL args RX8) {a0 : Nat} {K : Wd → Prop} {D MC MS : Nat} (h : w_X8_clear a0 K w) (hD : 0 + 1 ≤ D) (hW : (st.map fun v => v.category).sum ≤ 8) (hij : i ≤ MC ∧ j ≤ MS) (hd : decode cc pc = .ok (.invokestatic 54, 3)) (k : ∀ (u : Wd), K u → GW x p l e (rmd D MC MS) s m args below meth c nL Q (pc + 3) lo st u i j) : GW x p l e (rmd D MC MS) s m args below meth c nL Q pc lo (.ref (adr x a0) :: st) w i j := g_callSv0 C (As := [.ref (adr x a0)]) (c_X8_clear h) (x_cwS C 1 LMX8_54 ⟨by decide, by decide, rfl⟩ hD (by decide)) rfl rfl hW hd hij k
theorem miX8_58 (C : xC x p s m c cc nL args RX8) {a0 : Nat} {a1 : Nat} {a2 : Int32} {K : Wd → Prop} {D MC MS : Nat} (hq : isK w a0 8) (h : w_X8_addWell a0 a1 a2 K w) (hD : 3 + 1 ≤ D) (hW : (st.map fun v => v.category).sum ≤ 8) (hij : i ≤ MC ∧ j ≤ MS) (hd : decode cc pc = .ok (.invokevirtual 58, 3)) (k : ∀ (u : Wd), K u → GW x p l e (rmd D MC MS) s m args below meth c nL Q (pc + 3) lo st u i j) : GW x p l e (rmd D MC MS) s m args below meth c nL Q pc lo (.int a2 :: .ref (adr x a1) :: .ref (adr x a0) :: st) w i j := g_callVv0 C (As := [.ref (adr x a1), .int a2]) (ci := 8) (c_X8_addWell h) (x_cwV C 2 LMX8_58 ⟨rfl, by decide, by decide, rfl⟩ hD (by decide)) rfl hq (by decide) rfl rfl hW hd hij k
def l_X8_over_17 (E54 : Nat → Nat → Int32 → Wd → Prop) (K : Wd → Prop) : Nat → Nat → Nat → Int32 → Int32 → Wd → Prop
  | 0, _, _, _, _, _ => False
  | n + 1, a0, a1, a2, a3, w => isK w a1 2 ∧ isK w (wR w a1 0) 1 ∧ (((wI w (wR w a1 0) 1) ≤ a3 → E54 a0 a1 a2 w) ∧ (¬ (wI w (wR w a1 0) 1) ≤ a3 → w_X11_has a2 a3 (fun r5 w6 => ((r5 = 0 → l_X8_over_17 E54 K n a0 a1 a2 (a3 + 1) w6) ∧ (¬ r5 = 0 → isK w6 a1 2 ∧ isK w6 (wR w6 a1 0) 1 ∧ w_X1_roundOf (wR w6 a1 0) a3 (fun r10 w11 => isK w11 a0 8 ∧ w_X8_widen a0 r10 (fun w13 => l_X8_over_17 E54 K n a0 a1 a2 (a3 + 1) w13) w11) w6))) w))
def l_X8_over_77  (K : Wd → Prop) : Nat → Nat → Nat → Int32 → Int32 → Wd → Prop
  | 0, _, _, _, _, _ => False
  | n + 1, a0, a1, a2, a3, w => isK w a1 2 ∧ isK w (wR w a1 0) 1 ∧ (((wI w (wR w a1 0) 1) ≤ a3 → K w) ∧ (¬ (wI w (wR w a1 0) 1) ≤ a3 → w_X11_has a2 a3 (fun r30 w31 => ((r30 = 0 → l_X8_over_77 K n a0 a1 a2 (a3 + 1) w31) ∧ (¬ r30 = 0 → isK w31 a0 8 ∧ w_X8_addWell a0 a1 a3 (fun w34 => l_X8_over_77 K n a0 a1 a2 (a3 + 1) w34) w31))) w))
def w_X8_over (a0 : Nat) (a1 : Nat) (a2 : Int32) (K : Wd → Prop) (w : Wd) : Prop :=
  isK w a0 8 ∧ ∃ n36, l_X8_over_17 (fun b14 b15 b16 w17 => isK w17 b14 8 ∧ isK w17 (wR w17 b14 0) 20 ∧ w_X8_clear (wR w17 b14 0) (fun w20 => isK w20 b14 8 ∧ isK w20 (wR w20 b14 1) 20 ∧ w_X8_clear (wR w20 b14 1) (fun w23 => isK w23 b14 8 ∧ isK w23 (wR w23 b14 2) 20 ∧ w_X8_clear (wR w23 b14 2) (fun w26 => ∃ n35, l_X8_over_77  K n35 b14 b15 b16 0 w26) w23) w20) w17) K n36 a0 a1 a2 0 (uI (uI (uI w a0 3 1) a0 4 1) a0 5 1)
theorem t_X8_over_17 (C : xC x p s m c cX8_over 4 args RX8) (hlk : meth.locks = false) (hr : meth.sig.returnType = none) {K : Wd → Prop} {E54 : Nat → Nat → Int32 → Wd → Prop} (hE54 : ∀ (b0 : Nat) (b1 : Nat) (b2 : Int32) (w : Wd), E54 b0 b1 b2 w → GW x p l e (rmd 4 0 0) s m args below meth c 4 (QV x K below args s 0 0) 54 [(0, .ref (adr x b0)), (1, .ref (adr x b1)), (2, .int b2)] [] w 0 0) : ∀ (n : Nat) (a0 : Nat) (a1 : Nat) (a2 : Int32) (a3 : Int32) (w : Wd), l_X8_over_17 E54 K n a0 a1 a2 a3 w → GW x p l e (rmd 4 0 0) s m args below meth c 4 (QV x K below args s 0 0) 17 [(0, .ref (adr x a0)), (1, .ref (adr x a1)), (2, .int a2), (3, .int a3)] [] w 0 0 := by
  intro n
  induction n with
  | zero => intro _ _ _ _ _ h; exact False.elim h
  | succ n ih =>
    intro a0 a1 a2 a3 w h
    refine g_iload_n (pc := 17) C dX8_over_17 (q := 3) rfl ?_
    refine g_aload_n (pc := 18) C dX8_over_18 (q := 1) rfl ?_
    obtain ⟨k2, h⟩ := h
    obtain ⟨k3, h⟩ := h
    refine gfX8_31 (pc := 19) C k2 (isK_ne k3) dX8_over_19 ?_
    refine gfX8_37 (pc := 22) C k3 dX8_over_22 ?_
    refine g_icmp_ge (pc := 25) C dX8_over_25 (tgt := 54) rfl (fun z4 => ?_) (fun z4 => ?_)
    · replace h := h.1 z4
      refine g_sub [0, 1, 2] rfl ?_
      exact hE54 _ _ _ _ h
    · replace h := h.2 z4
      refine g_iload_n (pc := 28) C dX8_over_28 (q := 2) rfl ?_
      refine g_iload_n (pc := 29) C dX8_over_29 (q := 3) rfl ?_
      refine miX8_42 (pc := 30) C h (Nat.le_of_ble_eq_true rfl) (Nat.le_of_ble_eq_true rfl) ⟨Nat.le_refl _, Nat.le_refl _⟩ dX8_over_30 (fun r5 w6 h => ?_)
      refine g_if_eq (pc := 33) C dX8_over_33 (tgt := 48) rfl (fun z7 => ?_) (fun z7 => ?_)
      · replace h := h.1 z7
        refine g_iinc (pc := 48) C dX8_over_48 (q := 3) rfl (v2 := a3 + 1) rfl (Nat.le_of_ble_eq_true rfl) (lo' := [(3, .int (a3 + 1)), (0, .ref (adr x a0)), (1, .ref (adr x a1)), (2, .int a2)]) rfl ?_
        refine g_goto (pc := 51) C dX8_over_51 (tgt := 17) rfl ?_
        refine g_sub [1, 2, 3, 0] rfl ?_
        exact ih _ _ _ _ _ h
      · replace h := h.2 z7
        refine g_aload_n (pc := 36) C dX8_over_36 (q := 0) rfl ?_
        refine g_aload_n (pc := 37) C dX8_over_37 (q := 1) rfl ?_
        obtain ⟨k8, h⟩ := h
        obtain ⟨k9, h⟩ := h
        refine gfX8_31 (pc := 38) C k8 (isK_ne k9) dX8_over_38 ?_
        refine g_iload_n (pc := 41) C dX8_over_41 (q := 3) rfl ?_
        refine miX8_46 (pc := 42) C k9 h (Nat.le_of_ble_eq_true rfl) (Nat.le_of_ble_eq_true rfl) ⟨Nat.le_refl _, Nat.le_refl _⟩ dX8_over_42 (fun r10 w11 h => ?_)
        obtain ⟨k12, h⟩ := h
        refine miX8_50 (pc := 45) C k12 h (Nat.le_of_ble_eq_true rfl) (Nat.le_of_ble_eq_true rfl) ⟨Nat.le_refl _, Nat.le_refl _⟩ dX8_over_45 (fun w13 h => ?_)
        refine g_iinc (pc := 48) C dX8_over_48 (q := 3) rfl (v2 := a3 + 1) rfl (Nat.le_of_ble_eq_true rfl) (lo' := [(3, .int (a3 + 1)), (0, .ref (adr x a0)), (1, .ref (adr x a1)), (2, .int a2)]) rfl ?_
        refine g_goto (pc := 51) C dX8_over_51 (tgt := 17) rfl ?_
        refine g_sub [1, 2, 3, 0] rfl ?_
        exact ih _ _ _ _ _ h
theorem t_X8_over_77 (C : xC x p s m c cX8_over 4 args RX8) (hlk : meth.locks = false) (hr : meth.sig.returnType = none) {K : Wd → Prop}   : ∀ (n : Nat) (a0 : Nat) (a1 : Nat) (a2 : Int32) (a3 : Int32) (w : Wd), l_X8_over_77 K n a0 a1 a2 a3 w → GW x p l e (rmd 4 0 0) s m args below meth c 4 (QV x K below args s 0 0) 77 [(0, .ref (adr x a0)), (1, .ref (adr x a1)), (2, .int a2), (3, .int a3)] [] w 0 0 := by
  intro n
  induction n with
  | zero => intro _ _ _ _ _ h; exact False.elim h
  | succ n ih =>
    intro a0 a1 a2 a3 w h
    refine g_iload_n (pc := 77) C dX8_over_77 (q := 3) rfl ?_
    refine g_aload_n (pc := 78) C dX8_over_78 (q := 1) rfl ?_
    obtain ⟨k27, h⟩ := h
    obtain ⟨k28, h⟩ := h
    refine gfX8_31 (pc := 79) C k27 (isK_ne k28) dX8_over_79 ?_
    refine gfX8_37 (pc := 82) C k28 dX8_over_82 ?_
    refine g_icmp_ge (pc := 85) C dX8_over_85 (tgt := 108) rfl (fun z29 => ?_) (fun z29 => ?_)
    · replace h := h.1 z29
      exact g_vret (pc := 108) C hlk hr (Nat.le_refl _) (Nat.le_refl _) dX8_over_108 h
    · replace h := h.2 z29
      refine g_iload_n (pc := 88) C dX8_over_88 (q := 2) rfl ?_
      refine g_iload_n (pc := 89) C dX8_over_89 (q := 3) rfl ?_
      refine miX8_42 (pc := 90) C h (Nat.le_of_ble_eq_true rfl) (Nat.le_of_ble_eq_true rfl) ⟨Nat.le_refl _, Nat.le_refl _⟩ dX8_over_90 (fun r30 w31 h => ?_)
      refine g_if_eq (pc := 93) C dX8_over_93 (tgt := 102) rfl (fun z32 => ?_) (fun z32 => ?_)
      · replace h := h.1 z32
        refine g_iinc (pc := 102) C dX8_over_102 (q := 3) rfl (v2 := a3 + 1) rfl (Nat.le_of_ble_eq_true rfl) (lo' := [(3, .int (a3 + 1)), (0, .ref (adr x a0)), (1, .ref (adr x a1)), (2, .int a2)]) rfl ?_
        refine g_goto (pc := 105) C dX8_over_105 (tgt := 77) rfl ?_
        refine g_sub [1, 2, 3, 0] rfl ?_
        exact ih _ _ _ _ _ h
      · replace h := h.2 z32
        refine g_aload_n (pc := 96) C dX8_over_96 (q := 0) rfl ?_
        refine g_aload_n (pc := 97) C dX8_over_97 (q := 1) rfl ?_
        refine g_iload_n (pc := 98) C dX8_over_98 (q := 3) rfl ?_
        obtain ⟨k33, h⟩ := h
        refine miX8_58 (pc := 99) C k33 h (Nat.le_of_ble_eq_true rfl) (Nat.le_of_ble_eq_true rfl) ⟨Nat.le_refl _, Nat.le_refl _⟩ dX8_over_99 (fun w34 h => ?_)
        refine g_iinc (pc := 102) C dX8_over_102 (q := 3) rfl (v2 := a3 + 1) rfl (Nat.le_of_ble_eq_true rfl) (lo' := [(3, .int (a3 + 1)), (0, .ref (adr x a0)), (1, .ref (adr x a1)), (2, .int a2)]) rfl ?_
        refine g_goto (pc := 105) C dX8_over_105 (tgt := 77) rfl ?_
        refine g_sub [1, 2, 3, 0] rfl ?_
        exact ih _ _ _ _ _ h
theorem c_X8_over {x : xG} {l : Launch} {a0 : Nat} {a1 : Nat} {a2 : Int32} {K : Wd → Prop} {w : Wd} (h : w_X8_over a0 a1 a2 K w) : Met l yX8_over (xws yX8_over cX8_over 4 none) (rmd 4 0 0) (xPc x [.ref (adr x a0), .ref (adr x a1), .int a2] w) (QcV x K) 0 0 (xA x) := by
  refine xMet (by decide) (Nat.le_of_ble_eq_true rfl) (fun p e s m below meth c C hlk hr _ => ?_)
  show GW x p l e (rmd 4 0 0) s m [.ref (adr x a0), .ref (adr x a1), .int a2].toArray below meth c 4 (QV x K below [.ref (adr x a0), .ref (adr x a1), .int a2].toArray s 0 0) 0 [(0, .ref (adr x a0)), (1, .ref (adr x a1)), (2, .int a2)] [] w 0 0
  refine g_aload_n (pc := 0) C dX8_over_0 (q := 0) rfl ?_
  refine g_iconst (pc := 1) C dX8_over_1 (v := 1) rfl ?_
  obtain ⟨k1, h⟩ := h
  refine pfX8_21 (pc := 2) C k1 dX8_over_2 ?_
  refine g_aload_n (pc := 5) C dX8_over_5 (q := 0) rfl ?_
  refine g_iconst (pc := 6) C dX8_over_6 (v := 1) rfl ?_
  refine pfX8_25 (pc := 7) (w := uI w a0 3 1) C k1 dX8_over_7 ?_
  refine g_aload_n (pc := 10) C dX8_over_10 (q := 0) rfl ?_
  refine g_iconst (pc := 11) C dX8_over_11 (v := 1) rfl ?_
  refine pfX8_28 (pc := 12) (w := uI (uI w a0 3 1) a0 4 1) C k1 dX8_over_12 ?_
  refine g_iconst (pc := 15) C dX8_over_15 (v := 0) rfl ?_
  refine g_istore_n (pc := 16) C dX8_over_16 (Nat.le_of_ble_eq_true rfl) (lo' := [(3, .int 0), (0, .ref (adr x a0)), (1, .ref (adr x a1)), (2, .int a2)]) rfl ?_
  obtain ⟨n36, h⟩ := h
  refine g_sub [1, 2, 3, 0] rfl ?_
  refine t_X8_over_17 C hlk hr ?_ n36 _ _ _ _ _ h
  · intro b14 b15 b16 w17 h
    refine g_aload_n (pc := 54) C dX8_over_54 (q := 0) rfl ?_
    obtain ⟨k18, h⟩ := h
    obtain ⟨k19, h⟩ := h
    refine gfX8_9 (pc := 55) C k18 (isK_ne k19) dX8_over_55 ?_
    refine miX8_54 (pc := 58) C h (Nat.le_of_ble_eq_true rfl) (Nat.le_of_ble_eq_true rfl) ⟨Nat.le_refl _, Nat.le_refl _⟩ dX8_over_58 (fun w20 h => ?_)
    refine g_aload_n (pc := 61) C dX8_over_61 (q := 0) rfl ?_
    obtain ⟨k21, h⟩ := h
    obtain ⟨k22, h⟩ := h
    refine gfX8_15 (pc := 62) C k21 (isK_ne k22) dX8_over_62 ?_
    refine miX8_54 (pc := 65) C h (Nat.le_of_ble_eq_true rfl) (Nat.le_of_ble_eq_true rfl) ⟨Nat.le_refl _, Nat.le_refl _⟩ dX8_over_65 (fun w23 h => ?_)
    refine g_aload_n (pc := 68) C dX8_over_68 (q := 0) rfl ?_
    obtain ⟨k24, h⟩ := h
    obtain ⟨k25, h⟩ := h
    refine gfX8_18 (pc := 69) C k24 (isK_ne k25) dX8_over_69 ?_
    refine miX8_54 (pc := 72) C h (Nat.le_of_ble_eq_true rfl) (Nat.le_of_ble_eq_true rfl) ⟨Nat.le_refl _, Nat.le_refl _⟩ dX8_over_72 (fun w26 h => ?_)
    refine g_iconst (pc := 75) C dX8_over_75 (v := 0) rfl ?_
    refine g_istore_n (pc := 76) C dX8_over_76 (Nat.le_of_ble_eq_true rfl) (lo' := [(3, .int 0), (0, .ref (adr x b14)), (1, .ref (adr x b15)), (2, .int b16)]) rfl ?_
    obtain ⟨n35, h⟩ := h
    refine g_sub [1, 2, 3, 0] rfl ?_
    refine t_X8_over_77 C hlk hr n35 _ _ _ _ _ h
def w_X6_hoursOf (a0 : Nat) (a1 : Int32) (K : Int64 → Wd → Prop) (w : Wd) : Prop :=
  ((a1 < 0 → K 0 w) ∧ (¬ a1 < 0 → isK w a0 6 ∧ isK w (wR w a0 2) 21 ∧ (((Int32.ofNat (wn w (wR w a0 2))) ≤ a1 → K 0 w) ∧ (¬ (Int32.ofNat (wn w (wR w a0 2))) ≤ a1 → vp_in a1 (wn w (wR w a0 2)) ∧ K (wL w (wR w a0 2) a1.toNatClampNeg) w))))
theorem c_X6_hoursOf {x : xG} {l : Launch} {a0 : Nat} {a1 : Int32} {K : Int64 → Wd → Prop} {w : Wd} (h : w_X6_hoursOf a0 a1 K w) : Met l yX6_hoursOf (xws yX6_hoursOf cX6_hoursOf 2 (some .long)) (rmd 0 0 0) (xPc x [.ref (adr x a0), .int a1] w) (QcL x K) 0 0 (xA x) := by
  refine xMet (by decide) (Nat.le_of_ble_eq_true rfl) (fun p e s m below meth c C hlk hr _ => ?_)
  show GW x p l e (rmd 0 0 0) s m [.ref (adr x a0), .int a1].toArray below meth c 2 (QL x K below [.ref (adr x a0), .int a1].toArray s 0 0) 0 [(0, .ref (adr x a0)), (1, .int a1)] [] w 0 0
  refine g_iload_n (pc := 0) C dX6_hoursOf_0 (q := 1) rfl ?_
  refine g_if_lt (pc := 1) C dX6_hoursOf_1 (tgt := 22) rfl (fun z1 => ?_) (fun z1 => ?_)
  · replace h := h.1 z1
    refine g_lconst (pc := 22) C dX6_hoursOf_22 (v := 0) rfl ?_
    exact g_lret (pc := 23) C hlk hr (Nat.le_refl _) (Nat.le_refl _) dX6_hoursOf_23 h
  · replace h := h.2 z1
    refine g_iload_n (pc := 4) C dX6_hoursOf_4 (q := 1) rfl ?_
    refine g_aload_n (pc := 5) C dX6_hoursOf_5 (q := 0) rfl ?_
    obtain ⟨k2, h⟩ := h
    obtain ⟨k3, h⟩ := h
    refine gfX6_9 (pc := 6) C k2 (isK_ne k3) dX6_hoursOf_6 ?_
    refine g_alen (pc := 9) C k3 (by decide) dX6_hoursOf_9 ?_
    refine g_icmp_ge (pc := 10) C dX6_hoursOf_10 (tgt := 22) rfl (fun z4 => ?_) (fun z4 => ?_)
    · replace h := h.1 z4
      refine g_lconst (pc := 22) C dX6_hoursOf_22 (v := 0) rfl ?_
      exact g_lret (pc := 23) C hlk hr (Nat.le_refl _) (Nat.le_refl _) dX6_hoursOf_23 h
    · replace h := h.2 z4
      refine g_aload_n (pc := 13) C dX6_hoursOf_13 (q := 0) rfl ?_
      refine gfX6_9 (pc := 14) C k2 (isK_ne k3) dX6_hoursOf_14 ?_
      refine g_iload_n (pc := 17) C dX6_hoursOf_17 (q := 1) rfl ?_
      obtain ⟨k5, h⟩ := h
      refine g_lald (pc := 18) C k3 k5 dX6_hoursOf_18 ?_
      refine g_goto (pc := 19) C dX6_hoursOf_19 (tgt := 23) rfl ?_
      exact g_lret (pc := 23) C hlk hr (Nat.le_refl _) (Nat.le_refl _) dX6_hoursOf_23 h
theorem miX6_88 (C : xC x p s m c cc nL args RX6) {a0 : Nat} {a1 : Int32} {K : Int64 → Wd → Prop} {D MC MS : Nat} (hq : isK w a0 6) (h : w_X6_hoursOf a0 a1 K w) (hD : 0 + 1 ≤ D) (hW : (st.map fun v => v.category).sum ≤ 8) (hij : i ≤ MC ∧ j ≤ MS) (hd : decode cc pc = .ok (.invokevirtual 88, 3)) (k : ∀ (r : Int64) (u : Wd), K r u → GW x p l e (rmd D MC MS) s m args below meth c nL Q (pc + 3) lo (.long r :: st) u i j) : GW x p l e (rmd D MC MS) s m args below meth c nL Q pc lo (.int a1 :: .ref (adr x a0) :: st) w i j := g_callVl0 C (As := [.int a1]) (ci := 6) (c_X6_hoursOf h) (x_cwV C 1 LMX6_88 ⟨rfl, by decide, by decide, rfl⟩ hD (by decide)) rfl hq (by decide) rfl rfl hW hd hij k
theorem miX6_91 (C : xC x p s m c cc nL args RX6) {a0 : Int32} {K : Int32 → Wd → Prop} {D MC MS : Nat} (h : w_J6_numberOfTrailingZeros_0f7a4 a0 K w) (hD : 0 + 1 ≤ D) (hW : (st.map fun v => v.category).sum ≤ 8) (hij : i ≤ MC ∧ j ≤ MS) (hd : decode cc pc = .ok (.invokestatic 91, 3)) (k : ∀ (r : Int32) (u : Wd), K r u → GW x p l e (rmd D MC MS) s m args below meth c nL Q (pc + 3) lo (.int r :: st) u i j) : GW x p l e (rmd D MC MS) s m args below meth c nL Q pc lo (.int a0 :: st) w i j := g_callSi0 C (As := [.int a0]) (c_J6_numberOfTrailingZeros_0f7a4 h) (x_cwS C 1 LMX6_91 ⟨by decide, by decide, rfl⟩ hD (by decide)) rfl rfl hW hd hij k
theorem miX6_96 (C : xC x p s m c cc nL args RX6) {a0 : Int32} {K : Int32 → Wd → Prop} {D MC MS : Nat} (h : w_J6_bitCount_0f7a4 a0 K w) (hD : 0 + 1 ≤ D) (hW : (st.map fun v => v.category).sum ≤ 8) (hij : i ≤ MC ∧ j ≤ MS) (hd : decode cc pc = .ok (.invokestatic 96, 3)) (k : ∀ (r : Int32) (u : Wd), K r u → GW x p l e (rmd D MC MS) s m args below meth c nL Q (pc + 3) lo (.int r :: st) u i j) : GW x p l e (rmd D MC MS) s m args below meth c nL Q pc lo (.int a0 :: st) w i j := g_callSi0 C (As := [.int a0]) (c_J6_bitCount_0f7a4 h) (x_cwS C 1 LMX6_96 ⟨by decide, by decide, rfl⟩ hD (by decide)) rfl rfl hW hd hij k
theorem miX6_99 (C : xC x p s m c cc nL args RX6) {a0 : Int64} {K : Int32 → Wd → Prop} {D MC MS : Nat} (h : w_J13_bitCount_95d88 a0 K w) (hD : 0 + 1 ≤ D) (hW : (st.map fun v => v.category).sum ≤ 8) (hij : i ≤ MC ∧ j ≤ MS) (hd : decode cc pc = .ok (.invokestatic 99, 3)) (k : ∀ (r : Int32) (u : Wd), K r u → GW x p l e (rmd D MC MS) s m args below meth c nL Q (pc + 3) lo (.int r :: st) u i j) : GW x p l e (rmd D MC MS) s m args below meth c nL Q pc lo (.long a0 :: st) w i j := g_callSi0 C (As := [.long a0]) (c_J13_bitCount_95d88 h) (x_cwS C 1 LMX6_99 ⟨by decide, by decide, rfl⟩ hD (by decide)) rfl rfl hW hd hij k
theorem miX6_104 (C : xC x p s m c cc nL args RX6) {a0 : Int32} {a1 : Int32} {K : Int32 → Wd → Prop} {D MC MS : Nat} (h : w_J9_max_7cf53 a0 a1 K w) (hD : 0 + 1 ≤ D) (hW : (st.map fun v => v.category).sum ≤ 8) (hij : i ≤ MC ∧ j ≤ MS) (hd : decode cc pc = .ok (.invokestatic 104, 3)) (k : ∀ (r : Int32) (u : Wd), K r u → GW x p l e (rmd D MC MS) s m args below meth c nL Q (pc + 3) lo (.int r :: st) u i j) : GW x p l e (rmd D MC MS) s m args below meth c nL Q pc lo (.int a1 :: .int a0 :: st) w i j := g_callSi0 C (As := [.int a0, .int a1]) (c_J9_max_7cf53 h) (x_cwS C 2 LMX6_104 ⟨by decide, by decide, rfl⟩ hD (by decide)) rfl rfl hW hd hij k
def l_X6_lacking_20  (K : Int32 → Wd → Prop) : Nat → Nat → Int64 → Int32 → Int32 → Int32 → Wd → Prop
  | 0, _, _, _, _, _, _ => False
  | n + 1, a0, a1, a4, a5, a6, w => isK w a0 6 ∧ isK w (wR w a0 3) 21 ∧ (((Int32.ofNat (wn w (wR w a0 3))) ≤ a6 → K a5 w) ∧ (¬ (Int32.ofNat (wn w (wR w a0 3))) ≤ a6 → isK w (wR w a0 1) 2 ∧ isK w (wR w (wR w a0 1) 0) 1 ∧ (((x_ishl 1 (wI w (wR w (wR w a0 1) 0) 2)) ≤ a6 → K a5 w) ∧ (¬ (x_ishl 1 (wI w (wR w (wR w a0 1) 0) 2)) ≤ a6 → (((a6 &&& a4) = 0 → vp_in (a6 &&& (a6 - 1)) (wn w (wR w a0 3)) ∧ w_J6_numberOfTrailingZeros_0f7a4 a6 (fun r12 w13 => isK w13 a0 6 ∧ w_X6_hoursOf a0 r12 (fun r15 w16 => isK w16 (wR w a0 3) 21 ∧ vp_in a6 (wn w16 (wR w a0 3)) ∧ w_J6_bitCount_0f7a4 a6 (fun r19 w20 => isK w20 a0 6 ∧ isK w20 (wR w20 a0 3) 21 ∧ vp_in a6 (wn w20 (wR w20 a0 3)) ∧ w_J13_bitCount_95d88 ((wL w20 (wR w20 a0 3) a6.toNatClampNeg) &&& a1) (fun r24 w25 => w_J9_max_7cf53 a5 (r19 - r24) (fun r26 w27 => l_X6_lacking_20 K n a0 a1 a4 r26 (a6 + 1) w27) w25) w20) (uL w16 (wR w a0 3) a6.toNatClampNeg ((wL w (wR w a0 3) (a6 &&& (a6 - 1)).toNatClampNeg) ||| r15))) w13) w) ∧ (¬ (a6 &&& a4) = 0 → l_X6_lacking_20 K n a0 a1 a4 a5 (a6 + 1) w))))))
def w_X6_lacking (a0 : Nat) (a1 : Int64) (a3 : Int32) (K : Int32 → Wd → Prop) (w : Wd) : Prop :=
  isK w a0 6 ∧ isK w (wR w a0 3) 21 ∧ vp_in 0 (wn w (wR w a0 3)) ∧ ∃ n28, l_X6_lacking_20  K n28 a0 a1 ((x_ishl 1 a3) - 1) 0 1 (uL w (wR w a0 3) (0 : Int32).toNatClampNeg 0)
theorem t_X6_lacking_20 (C : xC x p s m c cX6_lacking 7 args RX6) (hlk : meth.locks = false) (hr : meth.sig.returnType = some .int) {K : Int32 → Wd → Prop}   : ∀ (n : Nat) (a0 : Nat) (a1 : Int64) (a4 : Int32) (a5 : Int32) (a6 : Int32) (w : Wd), l_X6_lacking_20 K n a0 a1 a4 a5 a6 w → GW x p l e (rmd 1 0 0) s m args below meth c 7 (QI x K below args s 0 0) 20 [(0, .ref (adr x a0)), (1, .long a1), (4, .int a4), (5, .int a5), (6, .int a6)] [] w 0 0 := by
  intro n
  induction n with
  | zero => intro _ _ _ _ _ _ h; exact False.elim h
  | succ n ih =>
    intro a0 a1 a4 a5 a6 w h
    refine g_iload (pc := 20) C dX6_lacking_20 (q := 4) rfl ?_
    refine g_aload_n (pc := 22) C dX6_lacking_22 (q := 0) rfl ?_
    obtain ⟨k4, h⟩ := h
    obtain ⟨k5, h⟩ := h
    refine gfX6_15 (pc := 23) C k4 (isK_ne k5) dX6_lacking_23 ?_
    refine g_alen (pc := 26) C k5 (by decide) dX6_lacking_26 ?_
    refine g_icmp_ge (pc := 27) C dX6_lacking_27 (tgt := 115) rfl (fun z6 => ?_) (fun z6 => ?_)
    · replace h := h.1 z6
      refine g_iload (pc := 115) C dX6_lacking_115 (q := 3) rfl ?_
      exact g_iret (pc := 117) C hlk hr (Nat.le_refl _) (Nat.le_refl _) dX6_lacking_117 h
    · replace h := h.2 z6
      refine g_iload (pc := 30) C dX6_lacking_30 (q := 4) rfl ?_
      refine g_iconst (pc := 32) C dX6_lacking_32 (v := 1) rfl ?_
      refine g_aload_n (pc := 33) C dX6_lacking_33 (q := 0) rfl ?_
      obtain ⟨k7, h⟩ := h
      refine gfX6_22 (pc := 34) C k4 (isK_ne k7) dX6_lacking_34 ?_
      obtain ⟨k8, h⟩ := h
      refine gfX6_37 (pc := 37) C k7 (isK_ne k8) dX6_lacking_37 ?_
      refine gfX6_41 (pc := 40) C k8 dX6_lacking_40 ?_
      refine h_ishl (pc := 43) C dX6_lacking_43 ?_
      refine g_icmp_ge (pc := 44) C dX6_lacking_44 (tgt := 115) rfl (fun z9 => ?_) (fun z9 => ?_)
      · replace h := h.1 z9
        refine g_iload (pc := 115) C dX6_lacking_115 (q := 3) rfl ?_
        exact g_iret (pc := 117) C hlk hr (Nat.le_refl _) (Nat.le_refl _) dX6_lacking_117 h
      · replace h := h.2 z9
        refine g_iload (pc := 47) C dX6_lacking_47 (q := 4) rfl ?_
        refine g_iload (pc := 49) C dX6_lacking_49 (q := 2) rfl ?_
        refine g_iand (pc := 51) C dX6_lacking_51 ?_
        refine g_if_ne (pc := 52) C dX6_lacking_52 (tgt := 109) rfl (fun z10 => ?_) (fun z10 => ?_)
        · replace h := h.2 z10
          refine g_iinc (pc := 109) C dX6_lacking_109 (q := 4) rfl (v2 := a6 + 1) rfl (Nat.le_of_ble_eq_true rfl) (lo' := [(6, .int (a6 + 1)), (0, .ref (adr x a0)), (1, .long a1), (4, .int a4), (5, .int a5)]) rfl ?_
          refine g_goto (pc := 112) C dX6_lacking_112 (tgt := 20) rfl ?_
          refine g_sub [1, 2, 3, 4, 0] rfl ?_
          exact ih _ _ _ _ _ _ h
        · replace h := h.1 z10
          refine g_aload_n (pc := 55) C dX6_lacking_55 (q := 0) rfl ?_
          refine gfX6_15 (pc := 56) C k4 (isK_ne k5) dX6_lacking_56 ?_
          refine g_iload (pc := 59) C dX6_lacking_59 (q := 4) rfl ?_
          refine g_aload_n (pc := 61) C dX6_lacking_61 (q := 0) rfl ?_
          refine gfX6_15 (pc := 62) C k4 (isK_ne k5) dX6_lacking_62 ?_
          refine g_iload (pc := 65) C dX6_lacking_65 (q := 4) rfl ?_
          refine g_iload (pc := 67) C dX6_lacking_67 (q := 4) rfl ?_
          refine g_iconst (pc := 69) C dX6_lacking_69 (v := 1) rfl ?_
          refine g_isub (pc := 70) C dX6_lacking_70 ?_
          refine g_iand (pc := 71) C dX6_lacking_71 ?_
          obtain ⟨k11, h⟩ := h
          refine g_lald (pc := 72) C k5 k11 dX6_lacking_72 ?_
          refine g_aload_n (pc := 73) C dX6_lacking_73 (q := 0) rfl ?_
          refine g_iload (pc := 74) C dX6_lacking_74 (q := 4) rfl ?_
          refine miX6_91 (pc := 76) C h (Nat.le_of_ble_eq_true rfl) (Nat.le_of_ble_eq_true rfl) ⟨Nat.le_refl _, Nat.le_refl _⟩ dX6_lacking_76 (fun r12 w13 h => ?_)
          obtain ⟨k14, h⟩ := h
          refine miX6_88 (pc := 79) C k14 h (Nat.le_of_ble_eq_true rfl) (Nat.le_of_ble_eq_true rfl) ⟨Nat.le_refl _, Nat.le_refl _⟩ dX6_lacking_79 (fun r15 w16 h => ?_)
          refine g_lor (pc := 82) C dX6_lacking_82 ?_
          obtain ⟨k17, h⟩ := h
          obtain ⟨k18, h⟩ := h
          refine g_last (pc := 83) C k17 k18 dX6_lacking_83 ?_
          refine g_iload (pc := 84) C dX6_lacking_84 (q := 3) rfl ?_
          refine g_iload (pc := 86) C dX6_lacking_86 (q := 4) rfl ?_
          refine miX6_96 (pc := 88) (w := uL w16 (wR w a0 3) a6.toNatClampNeg ((wL w (wR w a0 3) (a6 &&& (a6 - 1)).toNatClampNeg) ||| r15)) C h (Nat.le_of_ble_eq_true rfl) (Nat.le_of_ble_eq_true rfl) ⟨Nat.le_refl _, Nat.le_refl _⟩ dX6_lacking_88 (fun r19 w20 h => ?_)
          refine g_aload_n (pc := 91) C dX6_lacking_91 (q := 0) rfl ?_
          obtain ⟨k21, h⟩ := h
          obtain ⟨k22, h⟩ := h
          refine gfX6_15 (pc := 92) C k21 (isK_ne k22) dX6_lacking_92 ?_
          refine g_iload (pc := 95) C dX6_lacking_95 (q := 4) rfl ?_
          obtain ⟨k23, h⟩ := h
          refine g_lald (pc := 97) C k22 k23 dX6_lacking_97 ?_
          refine g_lload_n (pc := 98) C dX6_lacking_98 (q := 1) rfl ?_
          refine g_land (pc := 99) C dX6_lacking_99 ?_
          refine miX6_99 (pc := 100) C h (Nat.le_of_ble_eq_true rfl) (Nat.le_of_ble_eq_true rfl) ⟨Nat.le_refl _, Nat.le_refl _⟩ dX6_lacking_100 (fun r24 w25 h => ?_)
          refine g_isub (pc := 103) C dX6_lacking_103 ?_
          refine miX6_104 (pc := 104) C h (Nat.le_of_ble_eq_true rfl) (Nat.le_of_ble_eq_true rfl) ⟨Nat.le_refl _, Nat.le_refl _⟩ dX6_lacking_104 (fun r26 w27 h => ?_)
          refine g_istore (pc := 107) C dX6_lacking_107 (Nat.le_of_ble_eq_true rfl) (lo' := [(5, .int r26), (0, .ref (adr x a0)), (1, .long a1), (4, .int a4), (6, .int a6)]) rfl ?_
          refine g_iinc (pc := 109) C dX6_lacking_109 (q := 4) rfl (v2 := a6 + 1) rfl (Nat.le_of_ble_eq_true rfl) (lo' := [(6, .int (a6 + 1)), (5, .int r26), (0, .ref (adr x a0)), (1, .long a1), (4, .int a4)]) rfl ?_
          refine g_goto (pc := 112) C dX6_lacking_112 (tgt := 20) rfl ?_
          refine g_sub [2, 3, 4, 1, 0] rfl ?_
          exact ih _ _ _ _ _ _ h
theorem c_X6_lacking {x : xG} {l : Launch} {a0 : Nat} {a1 : Int64} {a3 : Int32} {K : Int32 → Wd → Prop} {w : Wd} (h : w_X6_lacking a0 a1 a3 K w) : Met l yX6_lacking (xws yX6_lacking cX6_lacking 7 (some .int)) (rmd 1 0 0) (xPc x [.ref (adr x a0), .long a1, .int a3] w) (QcI x K) 0 0 (xA x) := by
  refine xMet (by decide) (Nat.le_of_ble_eq_true rfl) (fun p e s m below meth c C hlk hr _ => ?_)
  show GW x p l e (rmd 1 0 0) s m [.ref (adr x a0), .long a1, .int a3].toArray below meth c 7 (QI x K below [.ref (adr x a0), .long a1, .int a3].toArray s 0 0) 0 [(0, .ref (adr x a0)), (1, .long a1), (3, .int a3)] [] w 0 0
  refine g_iconst (pc := 0) C dX6_lacking_0 (v := 1) rfl ?_
  refine g_iload_n (pc := 1) C dX6_lacking_1 (q := 2) rfl ?_
  refine h_ishl (pc := 2) C dX6_lacking_2 ?_
  refine g_iconst (pc := 3) C dX6_lacking_3 (v := 1) rfl ?_
  refine g_isub (pc := 4) C dX6_lacking_4 ?_
  refine g_istore (pc := 5) C dX6_lacking_5 (Nat.le_of_ble_eq_true rfl) (lo' := [(4, .int ((x_ishl 1 a3) - 1)), (0, .ref (adr x a0)), (1, .long a1), (3, .int a3)]) rfl ?_
  refine g_iconst (pc := 7) C dX6_lacking_7 (v := 0) rfl ?_
  refine g_istore (pc := 8) C dX6_lacking_8 (Nat.le_of_ble_eq_true rfl) (lo' := [(5, .int 0), (4, .int ((x_ishl 1 a3) - 1)), (0, .ref (adr x a0)), (1, .long a1), (3, .int a3)]) rfl ?_
  refine g_aload_n (pc := 10) C dX6_lacking_10 (q := 2) rfl ?_
  obtain ⟨k1, h⟩ := h
  obtain ⟨k2, h⟩ := h
  refine gfX6_15 (pc := 11) C k1 (isK_ne k2) dX6_lacking_11 ?_
  refine g_iconst (pc := 14) C dX6_lacking_14 (v := 0) rfl ?_
  refine g_lconst (pc := 15) C dX6_lacking_15 (v := 0) rfl ?_
  obtain ⟨k3, h⟩ := h
  refine g_last (pc := 16) C k2 k3 dX6_lacking_16 ?_
  refine g_iconst (pc := 17) C dX6_lacking_17 (v := 1) rfl ?_
  refine g_istore (pc := 18) C dX6_lacking_18 (Nat.le_of_ble_eq_true rfl) (lo' := [(6, .int 1), (5, .int 0), (4, .int ((x_ishl 1 a3) - 1)), (0, .ref (adr x a0)), (1, .long a1), (3, .int a3)]) rfl ?_
  obtain ⟨n28, h⟩ := h
  refine g_sub [3, 4, 2, 1, 0] rfl ?_
  refine t_X6_lacking_20 C hlk hr n28 _ _ _ _ _ _ h
theorem miX6_78 (C : xC x p s m c cc nL args RX6) {a0 : Nat} {a1 : Int64} {a3 : Int32} {K : Int32 → Wd → Prop} {D MC MS : Nat} (hq : isK w a0 6) (h : w_X6_lacking a0 a1 a3 K w) (hD : 1 + 1 ≤ D) (hW : (st.map fun v => v.category).sum ≤ 8) (hij : i ≤ MC ∧ j ≤ MS) (hd : decode cc pc = .ok (.invokevirtual 78, 3)) (k : ∀ (r : Int32) (u : Wd), K r u → GW x p l e (rmd D MC MS) s m args below meth c nL Q (pc + 3) lo (.int r :: st) u i j) : GW x p l e (rmd D MC MS) s m args below meth c nL Q pc lo (.int a3 :: .long a1 :: .ref (adr x a0) :: st) w i j := g_callVi0 C (As := [.long a1, .int a3]) (ci := 6) (c_X6_lacking h) (x_cwV C 2 LMX6_78 ⟨rfl, by decide, by decide, rfl⟩ hD (by decide)) rfl hq (by decide) rfl rfl hW hd hij k
def j_X6_firstHourFor_32 (B : Nat → Int32 → Int64 → Int32 → Wd → Prop)  (K : Int32 → Wd → Prop) (a0 : Nat) (a1 : Int32) (a2 : Int64) (a4 : Int32) (s0 : Int32) (w : Wd) : Prop :=
  ((s0 = 0 → B a0 a1 a2 (a4 + 1) w) ∧ (¬ s0 = 0 → isK w a0 6 ∧ w_X6_lacking a0 (a2 &&& ((x_lshl 1 a4) ^^^ (-1))) (a1 + 1) (fun r8 w9 => ((r8 = 0 → K a4 w9) ∧ (¬ r8 = 0 → B a0 a1 a2 (a4 + 1) w9))) w))
def l_X6_firstHourFor_3  (K : Int32 → Wd → Prop) : Nat → Nat → Int32 → Int64 → Int32 → Wd → Prop
  | 0, _, _, _, _, _ => False
  | n + 1, a0, a1, a2, a4, w => ((40 < a4 → K (-1) w) ∧ (¬ 40 < a4 → isK w a0 6 ∧ w_X6_hoursOf a0 a1 (fun r3 w4 => (((lg_cmp ((r3 &&& a2) &&& (x_lshl 1 a4)) 0) = 0 → j_X6_firstHourFor_32 (l_X6_firstHourFor_3 K n) K a0 a1 a2 a4 0 w4) ∧ (¬ (lg_cmp ((r3 &&& a2) &&& (x_lshl 1 a4)) 0) = 0 → j_X6_firstHourFor_32 (l_X6_firstHourFor_3 K n) K a0 a1 a2 a4 1 w4))) w))
def w_X6_firstHourFor (a0 : Nat) (a1 : Int32) (a2 : Int64) (K : Int32 → Wd → Prop) (w : Wd) : Prop :=
  ∃ n11, l_X6_firstHourFor_3  K n11 a0 a1 a2 0 w
theorem t_X6_firstHourFor_32 (C : xC x p s m c cX6_firstHourFor 6 args RX6) (hlk : meth.locks = false) (hr : meth.sig.returnType = some .int) {K : Int32 → Wd → Prop} {B : Nat → Int32 → Int64 → Int32 → Wd → Prop}  (hB : ∀ (b0 : Nat) (b1 : Int32) (b2 : Int64) (b4 : Int32) (w : Wd), B b0 b1 b2 b4 w → GW x p l e (rmd 2 0 0) s m args below meth c 6 (QI x K below args s 0 0) 3 [(0, .ref (adr x b0)), (1, .int b1), (2, .long b2), (4, .int b4)] [] w 0 0)  (a0 : Nat) (a1 : Int32) (a2 : Int64) (a4 : Int32) (s0 : Int32) (w : Wd) (h : j_X6_firstHourFor_32 B K a0 a1 a2 a4 s0 w) : GW x p l e (rmd 2 0 0) s m args below meth c 6 (QI x K below args s 0 0) 32 [(0, .ref (adr x a0)), (1, .int a1), (2, .long a2), (4, .int a4)] [.int s0] w 0 0 := by
  refine g_istore (pc := 32) C dX6_firstHourFor_32 (Nat.le_of_ble_eq_true rfl) (lo' := [(5, .int s0), (0, .ref (adr x a0)), (1, .int a1), (2, .long a2), (4, .int a4)]) rfl ?_
  refine g_iload (pc := 34) C dX6_firstHourFor_34 (q := 0) rfl ?_
  refine g_if_eq (pc := 36) C dX6_firstHourFor_36 (tgt := 62) rfl (fun z6 => ?_) (fun z6 => ?_)
  · replace h := h.1 z6
    refine g_iinc (pc := 62) C dX6_firstHourFor_62 (q := 4) rfl (v2 := a4 + 1) rfl (Nat.le_of_ble_eq_true rfl) (lo' := [(4, .int (a4 + 1)), (5, .int s0), (0, .ref (adr x a0)), (1, .int a1), (2, .long a2)]) rfl ?_
    refine g_goto (pc := 65) C dX6_firstHourFor_65 (tgt := 3) rfl ?_
    refine g_sub [2, 3, 4, 0] rfl ?_
    exact hB _ _ _ _ _ h
  · replace h := h.2 z6
    refine g_aload_n (pc := 39) C dX6_firstHourFor_39 (q := 1) rfl ?_
    refine g_lload_n (pc := 40) C dX6_firstHourFor_40 (q := 3) rfl ?_
    refine g_lconst (pc := 41) C dX6_firstHourFor_41 (v := 1) rfl ?_
    refine g_iload (pc := 42) C dX6_firstHourFor_42 (q := 4) rfl ?_
    refine h_lshl (pc := 44) C dX6_firstHourFor_44 ?_
    refine g_ldc2 (pc := 45) C LCX6_86 dX6_firstHourFor_45 ?_
    refine g_lxor (pc := 48) C dX6_firstHourFor_48 ?_
    refine g_land (pc := 49) C dX6_firstHourFor_49 ?_
    refine g_iload_n (pc := 50) C dX6_firstHourFor_50 (q := 2) rfl ?_
    refine g_iconst (pc := 51) C dX6_firstHourFor_51 (v := 1) rfl ?_
    refine g_iadd (pc := 52) C dX6_firstHourFor_52 ?_
    obtain ⟨k7, h⟩ := h
    refine miX6_78 (pc := 53) C k7 h (Nat.le_of_ble_eq_true rfl) (Nat.le_of_ble_eq_true rfl) ⟨Nat.le_refl _, Nat.le_refl _⟩ dX6_firstHourFor_53 (fun r8 w9 h => ?_)
    refine g_if_ne (pc := 56) C dX6_firstHourFor_56 (tgt := 62) rfl (fun z10 => ?_) (fun z10 => ?_)
    · replace h := h.2 z10
      refine g_iinc (pc := 62) C dX6_firstHourFor_62 (q := 4) rfl (v2 := a4 + 1) rfl (Nat.le_of_ble_eq_true rfl) (lo' := [(4, .int (a4 + 1)), (5, .int s0), (0, .ref (adr x a0)), (1, .int a1), (2, .long a2)]) rfl ?_
      refine g_goto (pc := 65) C dX6_firstHourFor_65 (tgt := 3) rfl ?_
      refine g_sub [2, 3, 4, 0] rfl ?_
      exact hB _ _ _ _ _ h
    · replace h := h.1 z10
      refine g_iload (pc := 59) C dX6_firstHourFor_59 (q := 4) rfl ?_
      exact g_iret (pc := 61) C hlk hr (Nat.le_refl _) (Nat.le_refl _) dX6_firstHourFor_61 h
theorem t_X6_firstHourFor_3 (C : xC x p s m c cX6_firstHourFor 6 args RX6) (hlk : meth.locks = false) (hr : meth.sig.returnType = some .int) {K : Int32 → Wd → Prop}   : ∀ (n : Nat) (a0 : Nat) (a1 : Int32) (a2 : Int64) (a4 : Int32) (w : Wd), l_X6_firstHourFor_3 K n a0 a1 a2 a4 w → GW x p l e (rmd 2 0 0) s m args below meth c 6 (QI x K below args s 0 0) 3 [(0, .ref (adr x a0)), (1, .int a1), (2, .long a2), (4, .int a4)] [] w 0 0 := by
  intro n
  induction n with
  | zero => intro _ _ _ _ _ h; exact False.elim h
  | succ n ih =>
    intro a0 a1 a2 a4 w h
    refine g_iload (pc := 3) C dX6_firstHourFor_3 (q := 3) rfl ?_
    refine g_bipush (pc := 5) C dX6_firstHourFor_5 (v := 40) rfl ?_
    refine g_icmp_gt (pc := 7) C dX6_firstHourFor_7 (tgt := 68) rfl (fun z1 => ?_) (fun z1 => ?_)
    · replace h := h.1 z1
      refine g_iconst (pc := 68) C dX6_firstHourFor_68 (v := (-1)) rfl ?_
      exact g_iret (pc := 69) C hlk hr (Nat.le_refl _) (Nat.le_refl _) dX6_firstHourFor_69 h
    · replace h := h.2 z1
      refine g_aload_n (pc := 10) C dX6_firstHourFor_10 (q := 0) rfl ?_
      refine g_iload_n (pc := 11) C dX6_firstHourFor_11 (q := 1) rfl ?_
      obtain ⟨k2, h⟩ := h
      refine miX6_88 (pc := 12) C k2 h (Nat.le_of_ble_eq_true rfl) (Nat.le_of_ble_eq_true rfl) ⟨Nat.le_refl _, Nat.le_refl _⟩ dX6_firstHourFor_12 (fun r3 w4 h => ?_)
      refine g_lload_n (pc := 15) C dX6_firstHourFor_15 (q := 2) rfl ?_
      refine g_land (pc := 16) C dX6_firstHourFor_16 ?_
      refine g_lconst (pc := 17) C dX6_firstHourFor_17 (v := 1) rfl ?_
      refine g_iload (pc := 18) C dX6_firstHourFor_18 (q := 3) rfl ?_
      refine h_lshl (pc := 20) C dX6_firstHourFor_20 ?_
      refine g_land (pc := 21) C dX6_firstHourFor_21 ?_
      refine g_lconst (pc := 22) C dX6_firstHourFor_22 (v := 0) rfl ?_
      refine g_lcmp (pc := 23) C dX6_firstHourFor_23 ?_
      refine g_if_eq (pc := 24) C dX6_firstHourFor_24 (tgt := 31) rfl (fun z5 => ?_) (fun z5 => ?_)
      · replace h := h.1 z5
        refine g_iconst (pc := 31) C dX6_firstHourFor_31 (v := 0) rfl ?_
        exact t_X6_firstHourFor_32 C hlk hr ih _ _ _ _ _ _ h
      · replace h := h.2 z5
        refine g_iconst (pc := 27) C dX6_firstHourFor_27 (v := 1) rfl ?_
        refine g_goto (pc := 28) C dX6_firstHourFor_28 (tgt := 32) rfl ?_
        exact t_X6_firstHourFor_32 C hlk hr ih _ _ _ _ _ _ h
theorem c_X6_firstHourFor {x : xG} {l : Launch} {a0 : Nat} {a1 : Int32} {a2 : Int64} {K : Int32 → Wd → Prop} {w : Wd} (h : w_X6_firstHourFor a0 a1 a2 K w) : Met l yX6_firstHourFor (xws yX6_firstHourFor cX6_firstHourFor 6 (some .int)) (rmd 2 0 0) (xPc x [.ref (adr x a0), .int a1, .long a2] w) (QcI x K) 0 0 (xA x) := by
  refine xMet (by decide) (Nat.le_of_ble_eq_true rfl) (fun p e s m below meth c C hlk hr _ => ?_)
  show GW x p l e (rmd 2 0 0) s m [.ref (adr x a0), .int a1, .long a2].toArray below meth c 6 (QI x K below [.ref (adr x a0), .int a1, .long a2].toArray s 0 0) 0 [(0, .ref (adr x a0)), (1, .int a1), (2, .long a2)] [] w 0 0
  refine g_iconst (pc := 0) C dX6_firstHourFor_0 (v := 0) rfl ?_
  refine g_istore (pc := 1) C dX6_firstHourFor_1 (Nat.le_of_ble_eq_true rfl) (lo' := [(4, .int 0), (0, .ref (adr x a0)), (1, .int a1), (2, .long a2)]) rfl ?_
  obtain ⟨n11, h⟩ := h
  refine g_sub [1, 2, 3, 0] rfl ?_
  refine t_X6_firstHourFor_3 C hlk hr n11 _ _ _ _ _ h
def w_X6_hoursTill (a0 : Int32) (K : Int64 → Wd → Prop) (w : Wd) : Prop :=
  K ((x_lshl 1 (a0 + 1)) - 1) w
theorem c_X6_hoursTill {x : xG} {l : Launch} {a0 : Int32} {K : Int64 → Wd → Prop} {w : Wd} (h : w_X6_hoursTill a0 K w) : Met l yX6_hoursTill (xws yX6_hoursTill cX6_hoursTill 1 (some .long)) (rmd 0 0 0) (xPc x [.int a0] w) (QcL x K) 0 0 (xA x) := by
  refine xMet (by decide) (Nat.le_of_ble_eq_true rfl) (fun p e s m below meth c C hlk hr _ => ?_)
  show GW x p l e (rmd 0 0 0) s m [.int a0].toArray below meth c 1 (QL x K below [.int a0].toArray s 0 0) 0 [(0, .int a0)] [] w 0 0
  refine g_lconst (pc := 0) C dX6_hoursTill_0 (v := 1) rfl ?_
  refine g_iload_n (pc := 1) C dX6_hoursTill_1 (q := 0) rfl ?_
  refine g_iconst (pc := 2) C dX6_hoursTill_2 (v := 1) rfl ?_
  refine g_iadd (pc := 3) C dX6_hoursTill_3 ?_
  refine h_lshl (pc := 4) C dX6_hoursTill_4 ?_
  refine g_lconst (pc := 5) C dX6_hoursTill_5 (v := 1) rfl ?_
  refine g_lsub (pc := 6) C dX6_hoursTill_6 ?_
  exact g_lret (pc := 7) C hlk hr (Nat.le_refl _) (Nat.le_refl _) dX6_hoursTill_7 h
theorem miX6_74 (C : xC x p s m c cc nL args RX6) {a0 : Int32} {K : Int64 → Wd → Prop} {D MC MS : Nat} (h : w_X6_hoursTill a0 K w) (hD : 0 + 1 ≤ D) (hW : (st.map fun v => v.category).sum ≤ 8) (hij : i ≤ MC ∧ j ≤ MS) (hd : decode cc pc = .ok (.invokestatic 74, 3)) (k : ∀ (r : Int64) (u : Wd), K r u → GW x p l e (rmd D MC MS) s m args below meth c nL Q (pc + 3) lo (.long r :: st) u i j) : GW x p l e (rmd D MC MS) s m args below meth c nL Q pc lo (.int a0 :: st) w i j := g_callSl0 C (As := [.int a0]) (c_X6_hoursTill h) (x_cwS C 1 LMX6_74 ⟨by decide, by decide, rfl⟩ hD (by decide)) rfl rfl hW hd hij k
theorem miX6_82 (C : xC x p s m c cc nL args RX6) {a0 : Nat} {a1 : Int32} {a2 : Int64} {K : Int32 → Wd → Prop} {D MC MS : Nat} (hq : isK w a0 6) (h : w_X6_firstHourFor a0 a1 a2 K w) (hD : 2 + 1 ≤ D) (hW : (st.map fun v => v.category).sum ≤ 8) (hij : i ≤ MC ∧ j ≤ MS) (hd : decode cc pc = .ok (.invokevirtual 82, 3)) (k : ∀ (r : Int32) (u : Wd), K r u → GW x p l e (rmd D MC MS) s m args below meth c nL Q (pc + 3) lo (.int r :: st) u i j) : GW x p l e (rmd D MC MS) s m args below meth c nL Q pc lo (.long a2 :: .int a1 :: .ref (adr x a0) :: st) w i j := g_callVi0 C (As := [.int a1, .long a2]) (ci := 6) (c_X6_firstHourFor h) (x_cwV C 2 LMX6_82 ⟨rfl, by decide, by decide, rfl⟩ hD (by decide)) rfl hq (by decide) rfl rfl hW hd hij k
def l_X6_hourInPlan_11  (K : Int32 → Wd → Prop) : Nat → Nat → Int32 → Int64 → Int32 → Int32 → Wd → Prop
  | 0, _, _, _, _, _, _ => False
  | n + 1, a0, a1, a3, a5, a6, w => ((a1 < a6 → K a5 w) ∧ (¬ a1 < a6 → ((6 ≤ a6 → K a5 w) ∧ (¬ 6 ≤ a6 → isK w a0 6 ∧ w_X6_firstHourFor a0 a6 a3 (fun r6 w7 => ((0 ≤ r6 → l_X6_hourInPlan_11 K n a0 a1 (a3 &&& ((x_lshl 1 r6) ^^^ (-1))) r6 (a6 + 1) w7) ∧ (¬ 0 ≤ r6 → K (-1) w7))) w))))
def w_X6_hourInPlan (a0 : Nat) (a1 : Int32) (a2 : Int32) (K : Int32 → Wd → Prop) (w : Wd) : Prop :=
  w_X6_hoursTill a2 (fun r1 w2 => ∃ n9, l_X6_hourInPlan_11  K n9 a0 a1 r1 (-1) 0 w2) w
theorem t_X6_hourInPlan_11 (C : xC x p s m c cX6_hourInPlan 7 args RX6) (hlk : meth.locks = false) (hr : meth.sig.returnType = some .int) {K : Int32 → Wd → Prop}   : ∀ (n : Nat) (a0 : Nat) (a1 : Int32) (a3 : Int64) (a5 : Int32) (a6 : Int32) (w : Wd), l_X6_hourInPlan_11 K n a0 a1 a3 a5 a6 w → GW x p l e (rmd 3 0 0) s m args below meth c 7 (QI x K below args s 0 0) 11 [(0, .ref (adr x a0)), (1, .int a1), (3, .long a3), (5, .int a5), (6, .int a6)] [] w 0 0 := by
  intro n
  induction n with
  | zero => intro _ _ _ _ _ _ h; exact False.elim h
  | succ n ih =>
    intro a0 a1 a3 a5 a6 w h
    refine g_iload (pc := 11) C dX6_hourInPlan_11 (q := 4) rfl ?_
    refine g_iload_n (pc := 13) C dX6_hourInPlan_13 (q := 1) rfl ?_
    refine g_icmp_gt (pc := 14) C dX6_hourInPlan_14 (tgt := 57) rfl (fun z3 => ?_) (fun z3 => ?_)
    · replace h := h.1 z3
      refine g_iload (pc := 57) C dX6_hourInPlan_57 (q := 3) rfl ?_
      exact g_iret (pc := 59) C hlk hr (Nat.le_refl _) (Nat.le_refl _) dX6_hourInPlan_59 h
    · replace h := h.2 z3
      refine g_iload (pc := 17) C dX6_hourInPlan_17 (q := 4) rfl ?_
      refine g_bipush (pc := 19) C dX6_hourInPlan_19 (v := 6) rfl ?_
      refine g_icmp_ge (pc := 21) C dX6_hourInPlan_21 (tgt := 57) rfl (fun z4 => ?_) (fun z4 => ?_)
      · replace h := h.1 z4
        refine g_iload (pc := 57) C dX6_hourInPlan_57 (q := 3) rfl ?_
        exact g_iret (pc := 59) C hlk hr (Nat.le_refl _) (Nat.le_refl _) dX6_hourInPlan_59 h
      · replace h := h.2 z4
        refine g_aload_n (pc := 24) C dX6_hourInPlan_24 (q := 0) rfl ?_
        refine g_iload (pc := 25) C dX6_hourInPlan_25 (q := 4) rfl ?_
        refine g_lload_n (pc := 27) C dX6_hourInPlan_27 (q := 2) rfl ?_
        obtain ⟨k5, h⟩ := h
        refine miX6_82 (pc := 28) C k5 h (Nat.le_of_ble_eq_true rfl) (Nat.le_of_ble_eq_true rfl) ⟨Nat.le_refl _, Nat.le_refl _⟩ dX6_hourInPlan_28 (fun r6 w7 h => ?_)
        refine g_istore (pc := 31) C dX6_hourInPlan_31 (Nat.le_of_ble_eq_true rfl) (lo' := [(5, .int r6), (0, .ref (adr x a0)), (1, .int a1), (3, .long a3), (6, .int a6)]) rfl ?_
        refine g_iload (pc := 33) C dX6_hourInPlan_33 (q := 0) rfl ?_
        refine g_if_ge (pc := 35) C dX6_hourInPlan_35 (tgt := 40) rfl (fun z8 => ?_) (fun z8 => ?_)
        · replace h := h.1 z8
          refine g_lload_n (pc := 40) C dX6_hourInPlan_40 (q := 3) rfl ?_
          refine g_lconst (pc := 41) C dX6_hourInPlan_41 (v := 1) rfl ?_
          refine g_iload (pc := 42) C dX6_hourInPlan_42 (q := 0) rfl ?_
          refine h_lshl (pc := 44) C dX6_hourInPlan_44 ?_
          refine g_ldc2 (pc := 45) C LCX6_86 dX6_hourInPlan_45 ?_
          refine g_lxor (pc := 48) C dX6_hourInPlan_48 ?_
          refine g_land (pc := 49) C dX6_hourInPlan_49 ?_
          refine g_lstore_n (pc := 50) C dX6_hourInPlan_50 (Nat.le_of_ble_eq_true rfl) (lo' := [(3, .long (a3 &&& ((x_lshl 1 r6) ^^^ (-1)))), (5, .int r6), (0, .ref (adr x a0)), (1, .int a1), (6, .int a6)]) rfl ?_
          refine g_iinc (pc := 51) C dX6_hourInPlan_51 (q := 4) rfl (v2 := a6 + 1) rfl (Nat.le_of_ble_eq_true rfl) (lo' := [(6, .int (a6 + 1)), (3, .long (a3 &&& ((x_lshl 1 r6) ^^^ (-1)))), (5, .int r6), (0, .ref (adr x a0)), (1, .int a1)]) rfl ?_
          refine g_goto (pc := 54) C dX6_hourInPlan_54 (tgt := 11) rfl ?_
          refine g_sub [3, 4, 1, 2, 0] rfl ?_
          exact ih _ _ _ _ _ _ h
        · replace h := h.2 z8
          refine g_iconst (pc := 38) C dX6_hourInPlan_38 (v := (-1)) rfl ?_
          exact g_iret (pc := 39) C hlk hr (Nat.le_refl _) (Nat.le_refl _) dX6_hourInPlan_39 h
theorem c_X6_hourInPlan {x : xG} {l : Launch} {a0 : Nat} {a1 : Int32} {a2 : Int32} {K : Int32 → Wd → Prop} {w : Wd} (h : w_X6_hourInPlan a0 a1 a2 K w) : Met l yX6_hourInPlan (xws yX6_hourInPlan cX6_hourInPlan 7 (some .int)) (rmd 3 0 0) (xPc x [.ref (adr x a0), .int a1, .int a2] w) (QcI x K) 0 0 (xA x) := by
  refine xMet (by decide) (Nat.le_of_ble_eq_true rfl) (fun p e s m below meth c C hlk hr _ => ?_)
  show GW x p l e (rmd 3 0 0) s m [.ref (adr x a0), .int a1, .int a2].toArray below meth c 7 (QI x K below [.ref (adr x a0), .int a1, .int a2].toArray s 0 0) 0 [(0, .ref (adr x a0)), (1, .int a1), (2, .int a2)] [] w 0 0
  refine g_iload_n (pc := 0) C dX6_hourInPlan_0 (q := 2) rfl ?_
  refine miX6_74 (pc := 1) C h (Nat.le_of_ble_eq_true rfl) (Nat.le_of_ble_eq_true rfl) ⟨Nat.le_refl _, Nat.le_refl _⟩ dX6_hourInPlan_1 (fun r1 w2 h => ?_)
  refine g_lstore_n (pc := 4) C dX6_hourInPlan_4 (Nat.le_of_ble_eq_true rfl) (lo' := [(3, .long r1), (0, .ref (adr x a0)), (1, .int a1), (2, .int a2)]) rfl ?_
  refine g_iconst (pc := 5) C dX6_hourInPlan_5 (v := (-1)) rfl ?_
  refine g_istore (pc := 6) C dX6_hourInPlan_6 (Nat.le_of_ble_eq_true rfl) (lo' := [(5, .int (-1)), (3, .long r1), (0, .ref (adr x a0)), (1, .int a1), (2, .int a2)]) rfl ?_
  refine g_iconst (pc := 8) C dX6_hourInPlan_8 (v := 0) rfl ?_
  refine g_istore (pc := 9) C dX6_hourInPlan_9 (Nat.le_of_ble_eq_true rfl) (lo' := [(6, .int 0), (5, .int (-1)), (3, .long r1), (0, .ref (adr x a0)), (1, .int a1), (2, .int a2)]) rfl ?_
  obtain ⟨n9, h⟩ := h
  refine g_sub [3, 4, 2, 1, 0] rfl ?_
  refine t_X6_hourInPlan_11 C hlk hr n9 _ _ _ _ _ _ h
theorem miX6_54 (C : xC x p s m c cc nL args RX6) {a0 : Nat} {a1 : Int32} {K : Int32 → Wd → Prop} {D MC MS : Nat} (hq : isK w a0 1) (h : w_X1_fromOf a0 a1 K w) (hD : 0 + 1 ≤ D) (hW : (st.map fun v => v.category).sum ≤ 8) (hij : i ≤ MC ∧ j ≤ MS) (hd : decode cc pc = .ok (.invokevirtual 54, 3)) (k : ∀ (r : Int32) (u : Wd), K r u → GW x p l e (rmd D MC MS) s m args below meth c nL Q (pc + 3) lo (.int r :: st) u i j) : GW x p l e (rmd D MC MS) s m args below meth c nL Q pc lo (.int a1 :: .ref (adr x a0) :: st) w i j := g_callVi0 C (As := [.int a1]) (ci := 1) (c_X1_fromOf h) (x_cwV C 1 LMX6_54 ⟨rfl, by decide, by decide, rfl⟩ hD (by decide)) rfl hq (by decide) rfl rfl hW hd hij k
theorem miX6_57 (C : xC x p s m c cc nL args RX6) {a0 : Nat} {a1 : Int32} {K : Int32 → Wd → Prop} {D MC MS : Nat} (hq : isK w a0 1) (h : w_X1_needOf a0 a1 K w) (hD : 0 + 1 ≤ D) (hW : (st.map fun v => v.category).sum ≤ 8) (hij : i ≤ MC ∧ j ≤ MS) (hd : decode cc pc = .ok (.invokevirtual 57, 3)) (k : ∀ (r : Int32) (u : Wd), K r u → GW x p l e (rmd D MC MS) s m args below meth c nL Q (pc + 3) lo (.int r :: st) u i j) : GW x p l e (rmd D MC MS) s m args below meth c nL Q pc lo (.int a1 :: .ref (adr x a0) :: st) w i j := g_callVi0 C (As := [.int a1]) (ci := 1) (c_X1_needOf h) (x_cwV C 1 LMX6_57 ⟨rfl, by decide, by decide, rfl⟩ hD (by decide)) rfl hq (by decide) rfl rfl hW hd hij k
theorem miX6_60 (C : xC x p s m c cc nL args RX6) {a0 : Int32} {a1 : Int32} {K : Int32 → Wd → Prop} {D MC MS : Nat} (h : w_X11_has a0 a1 K w) (hD : 0 + 1 ≤ D) (hW : (st.map fun v => v.category).sum ≤ 8) (hij : i ≤ MC ∧ j ≤ MS) (hd : decode cc pc = .ok (.invokestatic 60, 3)) (k : ∀ (r : Int32) (u : Wd), K r u → GW x p l e (rmd D MC MS) s m args below meth c nL Q (pc + 3) lo (.int r :: st) u i j) : GW x p l e (rmd D MC MS) s m args below meth c nL Q pc lo (.int a1 :: .int a0 :: st) w i j := g_callNi0 C (As := [.int a0, .int a1]) (c_X11_has h) (x_cwN C 2 LKX11_has LNX6_60 LSX11_has LIX11 ⟨by decide, by decide, rfl⟩ hD (by decide)) rfl rfl hW hd hij k
theorem miX6_64 (C : xC x p s m c cc nL args RX6) {a0 : Nat} {a1 : Int32} {a2 : Int32} {K : Int32 → Wd → Prop} {D MC MS : Nat} (h : w_X0_whyNotDraw a0 a1 a2 K w) (hD : 3 + 1 ≤ D) (hW : (st.map fun v => v.category).sum ≤ 8) (hij : i ≤ MC ∧ j ≤ MS) (hd : decode cc pc = .ok (.invokestatic 64, 3)) (k : ∀ (r : Int32) (u : Wd), K r u → GW x p l e (rmd D MC MS) s m args below meth c nL Q (pc + 3) lo (.int r :: st) u i j) : GW x p l e (rmd D MC MS) s m args below meth c nL Q pc lo (.int a2 :: .int a1 :: .ref (adr x a0) :: st) w i j := g_callSi0 C (As := [.ref (adr x a0), .int a1, .int a2]) (c_X0_whyNotDraw h) (x_cwS C 3 LMX6_64 ⟨by decide, by decide, rfl⟩ hD (by decide)) rfl rfl hW hd hij k
theorem miX6_70 (C : xC x p s m c cc nL args RX6) {a0 : Nat} {a1 : Int32} {a2 : Int32} {K : Int32 → Wd → Prop} {D MC MS : Nat} (hq : isK w a0 4) (h : w_X4_wokenAtOnce a0 a1 a2 K w) (hD : 2 + 1 ≤ D) (hW : (st.map fun v => v.category).sum ≤ 8) (hij : i ≤ MC ∧ j ≤ MS) (hd : decode cc pc = .ok (.invokevirtual 70, 3)) (k : ∀ (r : Int32) (u : Wd), K r u → GW x p l e (rmd D MC MS) s m args below meth c nL Q (pc + 3) lo (.int r :: st) u i j) : GW x p l e (rmd D MC MS) s m args below meth c nL Q pc lo (.int a2 :: .int a1 :: .ref (adr x a0) :: st) w i j := g_callVi0 C (As := [.int a1, .int a2]) (ci := 4) (c_X4_wokenAtOnce h) (x_cwV C 2 LMX6_70 ⟨rfl, by decide, by decide, rfl⟩ hD (by decide)) rfl hq (by decide) rfl rfl hW hd hij k
def l_X6_quietWellNow_27  (K : Int32 → Wd → Prop) : Nat → Nat → Int32 → Int32 → Int32 → Wd → Prop
  | 0, _, _, _, _, _ => False
  | n + 1, a0, a2, a3, a4, w => ((10 ≤ a4 → K (-1) w) ∧ (¬ 10 ≤ a4 → w_X11_has a2 a4 (fun r12 w13 => ((r12 = 0 → l_X6_quietWellNow_27 K n a0 a2 a3 (a4 + 1) w13) ∧ (¬ r12 = 0 → isK w13 a0 6 ∧ isK w13 (wR w13 a0 1) 2 ∧ w_X0_whyNotDraw (wR w13 a0 1) a4 a3 (fun r17 w18 => ((r17 = 0 → isK w18 a0 6 ∧ isK w18 (wR w18 a0 0) 4 ∧ w_X4_wokenAtOnce (wR w18 a0 0) a4 a3 (fun r22 w23 => ((r22 = 0 → K a4 w23) ∧ (¬ r22 = 0 → l_X6_quietWellNow_27 K n a0 a2 a3 (a4 + 1) w23))) w18) ∧ (¬ r17 = 0 → l_X6_quietWellNow_27 K n a0 a2 a3 (a4 + 1) w18))) w13))) w))
def w_X6_quietWellNow (a0 : Nat) (a1 : Int32) (K : Int32 → Wd → Prop) (w : Wd) : Prop :=
  isK w a0 6 ∧ isK w (wR w a0 1) 2 ∧ isK w (wR w (wR w a0 1) 0) 1 ∧ w_X1_fromOf (wR w (wR w a0 1) 0) a1 (fun r4 w5 => isK w5 a0 6 ∧ isK w5 (wR w5 a0 1) 2 ∧ isK w5 (wR w5 (wR w5 a0 1) 0) 1 ∧ w_X1_needOf (wR w5 (wR w5 a0 1) 0) a1 (fun r9 w10 => ∃ n25, l_X6_quietWellNow_27  K n25 a0 r4 r9 0 w10) w5) w
theorem t_X6_quietWellNow_27 (C : xC x p s m c cX6_quietWellNow 5 args RX6) (hlk : meth.locks = false) (hr : meth.sig.returnType = some .int) {K : Int32 → Wd → Prop}   : ∀ (n : Nat) (a0 : Nat) (a2 : Int32) (a3 : Int32) (a4 : Int32) (w : Wd), l_X6_quietWellNow_27 K n a0 a2 a3 a4 w → GW x p l e (rmd 4 0 0) s m args below meth c 5 (QI x K below args s 0 0) 27 [(0, .ref (adr x a0)), (2, .int a2), (3, .int a3), (4, .int a4)] [] w 0 0 := by
  intro n
  induction n with
  | zero => intro _ _ _ _ _ h; exact False.elim h
  | succ n ih =>
    intro a0 a2 a3 a4 w h
    refine g_iload (pc := 27) C dX6_quietWellNow_27 (q := 3) rfl ?_
    refine g_bipush (pc := 29) C dX6_quietWellNow_29 (v := 10) rfl ?_
    refine g_icmp_ge (pc := 31) C dX6_quietWellNow_31 (tgt := 78) rfl (fun z11 => ?_) (fun z11 => ?_)
    · replace h := h.1 z11
      refine g_iconst (pc := 78) C dX6_quietWellNow_78 (v := (-1)) rfl ?_
      exact g_iret (pc := 79) C hlk hr (Nat.le_refl _) (Nat.le_refl _) dX6_quietWellNow_79 h
    · replace h := h.2 z11
      refine g_iload_n (pc := 34) C dX6_quietWellNow_34 (q := 1) rfl ?_
      refine g_iload (pc := 35) C dX6_quietWellNow_35 (q := 3) rfl ?_
      refine miX6_60 (pc := 37) C h (Nat.le_of_ble_eq_true rfl) (Nat.le_of_ble_eq_true rfl) ⟨Nat.le_refl _, Nat.le_refl _⟩ dX6_quietWellNow_37 (fun r12 w13 h => ?_)
      refine g_if_eq (pc := 40) C dX6_quietWellNow_40 (tgt := 72) rfl (fun z14 => ?_) (fun z14 => ?_)
      · replace h := h.1 z14
        refine g_iinc (pc := 72) C dX6_quietWellNow_72 (q := 3) rfl (v2 := a4 + 1) rfl (Nat.le_of_ble_eq_true rfl) (lo' := [(4, .int (a4 + 1)), (0, .ref (adr x a0)), (2, .int a2), (3, .int a3)]) rfl ?_
        refine g_goto (pc := 75) C dX6_quietWellNow_75 (tgt := 27) rfl ?_
        refine g_sub [1, 2, 3, 0] rfl ?_
        exact ih _ _ _ _ _ h
      · replace h := h.2 z14
        refine g_aload_n (pc := 43) C dX6_quietWellNow_43 (q := 0) rfl ?_
        obtain ⟨k15, h⟩ := h
        obtain ⟨k16, h⟩ := h
        refine gfX6_22 (pc := 44) C k15 (isK_ne k16) dX6_quietWellNow_44 ?_
        refine g_iload (pc := 47) C dX6_quietWellNow_47 (q := 3) rfl ?_
        refine g_iload_n (pc := 49) C dX6_quietWellNow_49 (q := 2) rfl ?_
        refine miX6_64 (pc := 50) C h (Nat.le_of_ble_eq_true rfl) (Nat.le_of_ble_eq_true rfl) ⟨Nat.le_refl _, Nat.le_refl _⟩ dX6_quietWellNow_50 (fun r17 w18 h => ?_)
        refine g_if_ne (pc := 53) C dX6_quietWellNow_53 (tgt := 72) rfl (fun z19 => ?_) (fun z19 => ?_)
        · replace h := h.2 z19
          refine g_iinc (pc := 72) C dX6_quietWellNow_72 (q := 3) rfl (v2 := a4 + 1) rfl (Nat.le_of_ble_eq_true rfl) (lo' := [(4, .int (a4 + 1)), (0, .ref (adr x a0)), (2, .int a2), (3, .int a3)]) rfl ?_
          refine g_goto (pc := 75) C dX6_quietWellNow_75 (tgt := 27) rfl ?_
          refine g_sub [1, 2, 3, 0] rfl ?_
          exact ih _ _ _ _ _ h
        · replace h := h.1 z19
          refine g_aload_n (pc := 56) C dX6_quietWellNow_56 (q := 0) rfl ?_
          obtain ⟨k20, h⟩ := h
          obtain ⟨k21, h⟩ := h
          refine gfX6_18 (pc := 57) C k20 (isK_ne k21) dX6_quietWellNow_57 ?_
          refine g_iload (pc := 60) C dX6_quietWellNow_60 (q := 3) rfl ?_
          refine g_iload_n (pc := 62) C dX6_quietWellNow_62 (q := 2) rfl ?_
          refine miX6_70 (pc := 63) C k21 h (Nat.le_of_ble_eq_true rfl) (Nat.le_of_ble_eq_true rfl) ⟨Nat.le_refl _, Nat.le_refl _⟩ dX6_quietWellNow_63 (fun r22 w23 h => ?_)
          refine g_if_ne (pc := 66) C dX6_quietWellNow_66 (tgt := 72) rfl (fun z24 => ?_) (fun z24 => ?_)
          · replace h := h.2 z24
            refine g_iinc (pc := 72) C dX6_quietWellNow_72 (q := 3) rfl (v2 := a4 + 1) rfl (Nat.le_of_ble_eq_true rfl) (lo' := [(4, .int (a4 + 1)), (0, .ref (adr x a0)), (2, .int a2), (3, .int a3)]) rfl ?_
            refine g_goto (pc := 75) C dX6_quietWellNow_75 (tgt := 27) rfl ?_
            refine g_sub [1, 2, 3, 0] rfl ?_
            exact ih _ _ _ _ _ h
          · replace h := h.1 z24
            refine g_iload (pc := 69) C dX6_quietWellNow_69 (q := 3) rfl ?_
            exact g_iret (pc := 71) C hlk hr (Nat.le_refl _) (Nat.le_refl _) dX6_quietWellNow_71 h
theorem c_X6_quietWellNow {x : xG} {l : Launch} {a0 : Nat} {a1 : Int32} {K : Int32 → Wd → Prop} {w : Wd} (h : w_X6_quietWellNow a0 a1 K w) : Met l yX6_quietWellNow (xws yX6_quietWellNow cX6_quietWellNow 5 (some .int)) (rmd 4 0 0) (xPc x [.ref (adr x a0), .int a1] w) (QcI x K) 0 0 (xA x) := by
  refine xMet (by decide) (Nat.le_of_ble_eq_true rfl) (fun p e s m below meth c C hlk hr _ => ?_)
  show GW x p l e (rmd 4 0 0) s m [.ref (adr x a0), .int a1].toArray below meth c 5 (QI x K below [.ref (adr x a0), .int a1].toArray s 0 0) 0 [(0, .ref (adr x a0)), (1, .int a1)] [] w 0 0
  refine g_aload_n (pc := 0) C dX6_quietWellNow_0 (q := 0) rfl ?_
  obtain ⟨k1, h⟩ := h
  obtain ⟨k2, h⟩ := h
  refine gfX6_22 (pc := 1) C k1 (isK_ne k2) dX6_quietWellNow_1 ?_
  obtain ⟨k3, h⟩ := h
  refine gfX6_37 (pc := 4) C k2 (isK_ne k3) dX6_quietWellNow_4 ?_
  refine g_iload_n (pc := 7) C dX6_quietWellNow_7 (q := 1) rfl ?_
  refine miX6_54 (pc := 8) C k3 h (Nat.le_of_ble_eq_true rfl) (Nat.le_of_ble_eq_true rfl) ⟨Nat.le_refl _, Nat.le_refl _⟩ dX6_quietWellNow_8 (fun r4 w5 h => ?_)
  refine g_istore_n (pc := 11) C dX6_quietWellNow_11 (Nat.le_of_ble_eq_true rfl) (lo' := [(2, .int r4), (0, .ref (adr x a0)), (1, .int a1)]) rfl ?_
  refine g_aload_n (pc := 12) C dX6_quietWellNow_12 (q := 1) rfl ?_
  obtain ⟨k6, h⟩ := h
  obtain ⟨k7, h⟩ := h
  refine gfX6_22 (pc := 13) C k6 (isK_ne k7) dX6_quietWellNow_13 ?_
  obtain ⟨k8, h⟩ := h
  refine gfX6_37 (pc := 16) C k7 (isK_ne k8) dX6_quietWellNow_16 ?_
  refine g_iload_n (pc := 19) C dX6_quietWellNow_19 (q := 2) rfl ?_
  refine miX6_57 (pc := 20) C k8 h (Nat.le_of_ble_eq_true rfl) (Nat.le_of_ble_eq_true rfl) ⟨Nat.le_refl _, Nat.le_refl _⟩ dX6_quietWellNow_20 (fun r9 w10 h => ?_)
  refine g_istore_n (pc := 23) C dX6_quietWellNow_23 (Nat.le_of_ble_eq_true rfl) (lo' := [(3, .int r9), (2, .int r4), (0, .ref (adr x a0)), (1, .int a1)]) rfl ?_
  refine g_iconst (pc := 24) C dX6_quietWellNow_24 (v := 0) rfl ?_
  refine g_istore (pc := 25) C dX6_quietWellNow_25 (Nat.le_of_ble_eq_true rfl) (lo' := [(4, .int 0), (3, .int r9), (2, .int r4), (0, .ref (adr x a0)), (1, .int a1)]) rfl ?_
  obtain ⟨n25, h⟩ := h
  refine g_sub [3, 2, 1, 0] rfl ?_
  refine t_X6_quietWellNow_27 C hlk hr n25 _ _ _ _ _ h
theorem miX6_26 (C : xC x p s m c cc nL args RX6) {a0 : Nat} {a1 : Nat} {K : Wd → Prop} {D MC MS : Nat} (hq : isK w a0 2) (h : w_X2_become a0 a1 K w) (hD : 0 + 1 ≤ D) (hW : (st.map fun v => v.category).sum ≤ 8) (hij : i ≤ MC ∧ j ≤ MS) (hd : decode cc pc = .ok (.invokevirtual 26, 3)) (k : ∀ (u : Wd), K u → GW x p l e (rmd D MC MS) s m args below meth c nL Q (pc + 3) lo st u i j) : GW x p l e (rmd D MC MS) s m args below meth c nL Q pc lo (.ref (adr x a1) :: .ref (adr x a0) :: st) w i j := g_callVv0 C (As := [.ref (adr x a1)]) (ci := 2) (c_X2_become h) (x_cwV C 1 LMX6_26 ⟨rfl, by decide, by decide, rfl⟩ hD (by decide)) rfl hq (by decide) rfl rfl hW hd hij k
theorem miX6_32 (C : xC x p s m c cc nL args RX6) {a0 : Nat} {a1 : Nat} {K : Wd → Prop} {D MC MS : Nat} (hq : isK w a0 4) (h : w_X4_lookAt a0 a1 K w) (hD : 3 + 1 ≤ D) (hW : (st.map fun v => v.category).sum ≤ 8) (hij : i ≤ MC ∧ j ≤ MS) (hd : decode cc pc = .ok (.invokevirtual 32, 3)) (k : ∀ (u : Wd), K u → GW x p l e (rmd D MC MS) s m args below meth c nL Q (pc + 3) lo st u i j) : GW x p l e (rmd D MC MS) s m args below meth c nL Q pc lo (.ref (adr x a1) :: .ref (adr x a0) :: st) w i j := g_callVv0 C (As := [.ref (adr x a1)]) (ci := 4) (c_X4_lookAt h) (x_cwV C 1 LMX6_32 ⟨rfl, by decide, by decide, rfl⟩ hD (by decide)) rfl hq (by decide) rfl rfl hW hd hij k
theorem miX6_47 (C : xC x p s m c cc nL args RX6) {a0 : Nat} {a1 : Int32} {K : Int32 → Wd → Prop} {D MC MS : Nat} (hq : isK w a0 6) (h : w_X6_quietWellNow a0 a1 K w) (hD : 4 + 1 ≤ D) (hW : (st.map fun v => v.category).sum ≤ 8) (hij : i ≤ MC ∧ j ≤ MS) (hd : decode cc pc = .ok (.invokevirtual 47, 3)) (k : ∀ (r : Int32) (u : Wd), K r u → GW x p l e (rmd D MC MS) s m args below meth c nL Q (pc + 3) lo (.int r :: st) u i j) : GW x p l e (rmd D MC MS) s m args below meth c nL Q pc lo (.int a1 :: .ref (adr x a0) :: st) w i j := g_callVi0 C (As := [.int a1]) (ci := 6) (c_X6_quietWellNow h) (x_cwV C 1 LMX6_47 ⟨rfl, by decide, by decide, rfl⟩ hD (by decide)) rfl hq (by decide) rfl rfl hW hd hij k
theorem miX6_51 (C : xC x p s m c cc nL args RX6) {a0 : Nat} {K : Wd → Prop} {D MC MS : Nat} (hq : isK w a0 2) (h : w_X2_passHour a0 K w) (hD : 3 + 1 ≤ D) (hW : (st.map fun v => v.category).sum ≤ 8) (hij : i ≤ MC ∧ j ≤ MS) (hd : decode cc pc = .ok (.invokevirtual 51, 3)) (k : ∀ (u : Wd), K u → GW x p l e (rmd D MC MS) s m args below meth c nL Q (pc + 3) lo st u i j) : GW x p l e (rmd D MC MS) s m args below meth c nL Q pc lo (.ref (adr x a0) :: st) w i j := g_callVv0 C (As := []) (ci := 2) (c_X2_passHour h) (x_cwV C 0 LMX6_51 ⟨rfl, by decide, by decide, rfl⟩ hD (by decide)) rfl hq (by decide) rfl rfl hW hd hij k
def l_X6_lookAhead_2 (E24 : Nat → Nat → Wd → Prop) (K : Wd → Prop) : Nat → Nat → Nat → Int32 → Wd → Prop
  | 0, _, _, _, _ => False
  | n + 1, a0, a1, a2, w => isK w a0 6 ∧ isK w (wR w a0 2) 21 ∧ (((Int32.ofNat (wn w (wR w a0 2))) ≤ a2 → E24 a0 a1 w) ∧ (¬ (Int32.ofNat (wn w (wR w a0 2))) ≤ a2 → vp_in a2 (wn w (wR w a0 2)) ∧ l_X6_lookAhead_2 E24 K n a0 a1 (a2 + 1) (uL w (wR w a0 2) a2.toNatClampNeg 0)))
def l_X6_lookAhead_53 (E100 : Nat → Nat → Int32 → Wd → Prop) (K : Wd → Prop) : Nat → Nat → Nat → Int32 → Int32 → Wd → Prop
  | 0, _, _, _, _, _ => False
  | n + 1, a0, a1, a2, a3, w => isK w a0 6 ∧ isK w (wR w a0 2) 21 ∧ (((Int32.ofNat (wn w (wR w a0 2))) ≤ a3 → E100 a0 a1 a2 w) ∧ (¬ (Int32.ofNat (wn w (wR w a0 2))) ≤ a3 → isK w a1 2 ∧ isK w (wR w a1 0) 1 ∧ (((wI w (wR w a1 0) 2) ≤ a3 → E100 a0 a1 a2 w) ∧ (¬ (wI w (wR w a1 0) 2) ≤ a3 → w_X6_quietWellNow a0 a3 (fun r22 w23 => ((r22 = (-1) → l_X6_lookAhead_53 E100 K n a0 a1 a2 (a3 + 1) w23) ∧ (¬ r22 = (-1) → isK w23 a0 6 ∧ isK w23 (wR w23 a0 2) 21 ∧ vp_in a3 (wn w23 (wR w23 a0 2)) ∧ vp_in a3 (wn w23 (wR w23 a0 2)) ∧ l_X6_lookAhead_53 E100 K n a0 a1 a2 (a3 + 1) (uL w23 (wR w23 a0 2) a3.toNatClampNeg ((wL w23 (wR w23 a0 2) a3.toNatClampNeg) ||| (x_lshl 1 a2)))))) w))))
def l_X6_lookAhead_34  (K : Wd → Prop) : Nat → Nat → Nat → Int32 → Wd → Prop
  | 0, _, _, _, _ => False
  | n + 1, a0, a1, a2, w => ((40 < a2 → K w) ∧ (¬ 40 < a2 → isK w a0 6 ∧ isK w (wR w a0 0) 4 ∧ isK w (wR w a0 1) 2 ∧ w_X4_lookAt (wR w a0 0) (wR w a0 1) (fun w15 => ∃ n36, l_X6_lookAhead_53 (fun b29 b30 b31 w32 => isK w32 b29 6 ∧ isK w32 (wR w32 b29 1) 2 ∧ w_X2_passHour (wR w32 b29 1) (fun w35 => l_X6_lookAhead_34 K n b29 b30 (b31 + 1) w35) w32) K n36 a0 a1 a2 0 w15) w))
def w_X6_lookAhead (a0 : Nat) (a1 : Nat) (K : Wd → Prop) (w : Wd) : Prop :=
  ∃ n38, l_X6_lookAhead_2 (fun b5 b6 w7 => isK w7 b5 6 ∧ isK w7 (wR w7 b5 1) 2 ∧ w_X2_become (wR w7 b5 1) b6 (fun w10 => ∃ n37, l_X6_lookAhead_34  K n37 b5 b6 0 w10) w7) K n38 a0 a1 0 w
theorem t_X6_lookAhead_2 (C : xC x p s m c cX6_lookAhead 4 args RX6) (hlk : meth.locks = false) (hr : meth.sig.returnType = none) {K : Wd → Prop} {E24 : Nat → Nat → Wd → Prop} (hE24 : ∀ (b0 : Nat) (b1 : Nat) (w : Wd), E24 b0 b1 w → GW x p l e (rmd 5 0 0) s m args below meth c 4 (QV x K below args s 0 0) 24 [(0, .ref (adr x b0)), (1, .ref (adr x b1))] [] w 0 0) : ∀ (n : Nat) (a0 : Nat) (a1 : Nat) (a2 : Int32) (w : Wd), l_X6_lookAhead_2 E24 K n a0 a1 a2 w → GW x p l e (rmd 5 0 0) s m args below meth c 4 (QV x K below args s 0 0) 2 [(0, .ref (adr x a0)), (1, .ref (adr x a1)), (2, .int a2)] [] w 0 0 := by
  intro n
  induction n with
  | zero => intro _ _ _ _ h; exact False.elim h
  | succ n ih =>
    intro a0 a1 a2 w h
    refine g_iload_n (pc := 2) C dX6_lookAhead_2 (q := 2) rfl ?_
    refine g_aload_n (pc := 3) C dX6_lookAhead_3 (q := 0) rfl ?_
    obtain ⟨k1, h⟩ := h
    obtain ⟨k2, h⟩ := h
    refine gfX6_9 (pc := 4) C k1 (isK_ne k2) dX6_lookAhead_4 ?_
    refine g_alen (pc := 7) C k2 (by decide) dX6_lookAhead_7 ?_
    refine g_icmp_ge (pc := 8) C dX6_lookAhead_8 (tgt := 24) rfl (fun z3 => ?_) (fun z3 => ?_)
    · replace h := h.1 z3
      refine g_sub [0, 1] rfl ?_
      exact hE24 _ _ _ h
    · replace h := h.2 z3
      refine g_aload_n (pc := 11) C dX6_lookAhead_11 (q := 0) rfl ?_
      refine gfX6_9 (pc := 12) C k1 (isK_ne k2) dX6_lookAhead_12 ?_
      refine g_iload_n (pc := 15) C dX6_lookAhead_15 (q := 2) rfl ?_
      refine g_lconst (pc := 16) C dX6_lookAhead_16 (v := 0) rfl ?_
      obtain ⟨k4, h⟩ := h
      refine g_last (pc := 17) C k2 k4 dX6_lookAhead_17 ?_
      refine g_iinc (pc := 18) C dX6_lookAhead_18 (q := 2) rfl (v2 := a2 + 1) rfl (Nat.le_of_ble_eq_true rfl) (lo' := [(2, .int (a2 + 1)), (0, .ref (adr x a0)), (1, .ref (adr x a1))]) rfl ?_
      refine g_goto (pc := 21) C dX6_lookAhead_21 (tgt := 2) rfl ?_
      refine g_sub [1, 2, 0] rfl ?_
      exact ih _ _ _ _ h
theorem t_X6_lookAhead_53 (C : xC x p s m c cX6_lookAhead 4 args RX6) (hlk : meth.locks = false) (hr : meth.sig.returnType = none) {K : Wd → Prop} {E100 : Nat → Nat → Int32 → Wd → Prop} (hE100 : ∀ (b0 : Nat) (b1 : Nat) (b2 : Int32) (w : Wd), E100 b0 b1 b2 w → GW x p l e (rmd 5 0 0) s m args below meth c 4 (QV x K below args s 0 0) 100 [(0, .ref (adr x b0)), (1, .ref (adr x b1)), (2, .int b2)] [] w 0 0) : ∀ (n : Nat) (a0 : Nat) (a1 : Nat) (a2 : Int32) (a3 : Int32) (w : Wd), l_X6_lookAhead_53 E100 K n a0 a1 a2 a3 w → GW x p l e (rmd 5 0 0) s m args below meth c 4 (QV x K below args s 0 0) 53 [(0, .ref (adr x a0)), (1, .ref (adr x a1)), (2, .int a2), (3, .int a3)] [] w 0 0 := by
  intro n
  induction n with
  | zero => intro _ _ _ _ _ h; exact False.elim h
  | succ n ih =>
    intro a0 a1 a2 a3 w h
    refine g_iload_n (pc := 53) C dX6_lookAhead_53 (q := 3) rfl ?_
    refine g_aload_n (pc := 54) C dX6_lookAhead_54 (q := 0) rfl ?_
    obtain ⟨k16, h⟩ := h
    obtain ⟨k17, h⟩ := h
    refine gfX6_9 (pc := 55) C k16 (isK_ne k17) dX6_lookAhead_55 ?_
    refine g_alen (pc := 58) C k17 (by decide) dX6_lookAhead_58 ?_
    refine g_icmp_ge (pc := 59) C dX6_lookAhead_59 (tgt := 100) rfl (fun z18 => ?_) (fun z18 => ?_)
    · replace h := h.1 z18
      refine g_sub [0, 1, 2] rfl ?_
      exact hE100 _ _ _ _ h
    · replace h := h.2 z18
      refine g_iload_n (pc := 62) C dX6_lookAhead_62 (q := 3) rfl ?_
      refine g_aload_n (pc := 63) C dX6_lookAhead_63 (q := 1) rfl ?_
      obtain ⟨k19, h⟩ := h
      obtain ⟨k20, h⟩ := h
      refine gfX6_37 (pc := 64) C k19 (isK_ne k20) dX6_lookAhead_64 ?_
      refine gfX6_41 (pc := 67) C k20 dX6_lookAhead_67 ?_
      refine g_icmp_ge (pc := 70) C dX6_lookAhead_70 (tgt := 100) rfl (fun z21 => ?_) (fun z21 => ?_)
      · replace h := h.1 z21
        refine g_sub [0, 1, 2] rfl ?_
        exact hE100 _ _ _ _ h
      · replace h := h.2 z21
        refine g_aload_n (pc := 73) C dX6_lookAhead_73 (q := 0) rfl ?_
        refine g_iload_n (pc := 74) C dX6_lookAhead_74 (q := 3) rfl ?_
        refine miX6_47 (pc := 75) C k16 h (Nat.le_of_ble_eq_true rfl) (Nat.le_of_ble_eq_true rfl) ⟨Nat.le_refl _, Nat.le_refl _⟩ dX6_lookAhead_75 (fun r22 w23 h => ?_)
        refine g_iconst (pc := 78) C dX6_lookAhead_78 (v := (-1)) rfl ?_
        refine g_icmp_eq (pc := 79) C dX6_lookAhead_79 (tgt := 94) rfl (fun z24 => ?_) (fun z24 => ?_)
        · replace h := h.1 z24
          refine g_iinc (pc := 94) C dX6_lookAhead_94 (q := 3) rfl (v2 := a3 + 1) rfl (Nat.le_of_ble_eq_true rfl) (lo' := [(3, .int (a3 + 1)), (0, .ref (adr x a0)), (1, .ref (adr x a1)), (2, .int a2)]) rfl ?_
          refine g_goto (pc := 97) C dX6_lookAhead_97 (tgt := 53) rfl ?_
          refine g_sub [1, 2, 3, 0] rfl ?_
          exact ih _ _ _ _ _ h
        · replace h := h.2 z24
          refine g_aload_n (pc := 82) C dX6_lookAhead_82 (q := 0) rfl ?_
          obtain ⟨k25, h⟩ := h
          obtain ⟨k26, h⟩ := h
          refine gfX6_9 (pc := 83) C k25 (isK_ne k26) dX6_lookAhead_83 ?_
          refine g_iload_n (pc := 86) C dX6_lookAhead_86 (q := 3) rfl ?_
          refine g_dup2 (pc := 87) C dX6_lookAhead_87 rfl rfl ?_
          obtain ⟨k27, h⟩ := h
          refine g_lald (pc := 88) C k26 k27 dX6_lookAhead_88 ?_
          refine g_lconst (pc := 89) C dX6_lookAhead_89 (v := 1) rfl ?_
          refine g_iload_n (pc := 90) C dX6_lookAhead_90 (q := 2) rfl ?_
          refine h_lshl (pc := 91) C dX6_lookAhead_91 ?_
          refine g_lor (pc := 92) C dX6_lookAhead_92 ?_
          obtain ⟨k28, h⟩ := h
          refine g_last (pc := 93) C k26 k28 dX6_lookAhead_93 ?_
          refine g_iinc (pc := 94) C dX6_lookAhead_94 (q := 3) rfl (v2 := a3 + 1) rfl (Nat.le_of_ble_eq_true rfl) (lo' := [(3, .int (a3 + 1)), (0, .ref (adr x a0)), (1, .ref (adr x a1)), (2, .int a2)]) rfl ?_
          refine g_goto (pc := 97) C dX6_lookAhead_97 (tgt := 53) rfl ?_
          refine g_sub [1, 2, 3, 0] rfl ?_
          exact ih _ _ _ _ _ h
theorem t_X6_lookAhead_34 (C : xC x p s m c cX6_lookAhead 4 args RX6) (hlk : meth.locks = false) (hr : meth.sig.returnType = none) {K : Wd → Prop}   : ∀ (n : Nat) (a0 : Nat) (a1 : Nat) (a2 : Int32) (w : Wd), l_X6_lookAhead_34 K n a0 a1 a2 w → GW x p l e (rmd 5 0 0) s m args below meth c 4 (QV x K below args s 0 0) 34 [(0, .ref (adr x a0)), (1, .ref (adr x a1)), (2, .int a2)] [] w 0 0 := by
  intro n
  induction n with
  | zero => intro _ _ _ _ h; exact False.elim h
  | succ n ih =>
    intro a0 a1 a2 w h
    refine g_iload_n (pc := 34) C dX6_lookAhead_34 (q := 2) rfl ?_
    refine g_bipush (pc := 35) C dX6_lookAhead_35 (v := 40) rfl ?_
    refine g_icmp_gt (pc := 37) C dX6_lookAhead_37 (tgt := 113) rfl (fun z11 => ?_) (fun z11 => ?_)
    · replace h := h.1 z11
      exact g_vret (pc := 113) C hlk hr (Nat.le_refl _) (Nat.le_refl _) dX6_lookAhead_113 h
    · replace h := h.2 z11
      refine g_aload_n (pc := 40) C dX6_lookAhead_40 (q := 0) rfl ?_
      obtain ⟨k12, h⟩ := h
      obtain ⟨k13, h⟩ := h
      refine gfX6_18 (pc := 41) C k12 (isK_ne k13) dX6_lookAhead_41 ?_
      refine g_aload_n (pc := 44) C dX6_lookAhead_44 (q := 0) rfl ?_
      obtain ⟨k14, h⟩ := h
      refine gfX6_22 (pc := 45) C k12 (isK_ne k14) dX6_lookAhead_45 ?_
      refine miX6_32 (pc := 48) C k13 h (Nat.le_of_ble_eq_true rfl) (Nat.le_of_ble_eq_true rfl) ⟨Nat.le_refl _, Nat.le_refl _⟩ dX6_lookAhead_48 (fun w15 h => ?_)
      refine g_iconst (pc := 51) C dX6_lookAhead_51 (v := 0) rfl ?_
      refine g_istore_n (pc := 52) C dX6_lookAhead_52 (Nat.le_of_ble_eq_true rfl) (lo' := [(3, .int 0), (0, .ref (adr x a0)), (1, .ref (adr x a1)), (2, .int a2)]) rfl ?_
      obtain ⟨n36, h⟩ := h
      refine g_sub [1, 2, 3, 0] rfl ?_
      refine t_X6_lookAhead_53 C hlk hr ?_ n36 _ _ _ _ _ h
      · intro b29 b30 b31 w32 h
        refine g_aload_n (pc := 100) C dX6_lookAhead_100 (q := 0) rfl ?_
        obtain ⟨k33, h⟩ := h
        obtain ⟨k34, h⟩ := h
        refine gfX6_22 (pc := 101) C k33 (isK_ne k34) dX6_lookAhead_101 ?_
        refine miX6_51 (pc := 104) C k34 h (Nat.le_of_ble_eq_true rfl) (Nat.le_of_ble_eq_true rfl) ⟨Nat.le_refl _, Nat.le_refl _⟩ dX6_lookAhead_104 (fun w35 h => ?_)
        refine g_iinc (pc := 107) C dX6_lookAhead_107 (q := 2) rfl (v2 := b31 + 1) rfl (Nat.le_of_ble_eq_true rfl) (lo' := [(2, .int (b31 + 1)), (0, .ref (adr x b29)), (1, .ref (adr x b30))]) rfl ?_
        refine g_goto (pc := 110) C dX6_lookAhead_110 (tgt := 34) rfl ?_
        refine g_sub [1, 2, 0] rfl ?_
        exact ih _ _ _ _ h
theorem c_X6_lookAhead {x : xG} {l : Launch} {a0 : Nat} {a1 : Nat} {K : Wd → Prop} {w : Wd} (h : w_X6_lookAhead a0 a1 K w) : Met l yX6_lookAhead (xws yX6_lookAhead cX6_lookAhead 4 none) (rmd 5 0 0) (xPc x [.ref (adr x a0), .ref (adr x a1)] w) (QcV x K) 0 0 (xA x) := by
  refine xMet (by decide) (Nat.le_of_ble_eq_true rfl) (fun p e s m below meth c C hlk hr _ => ?_)
  show GW x p l e (rmd 5 0 0) s m [.ref (adr x a0), .ref (adr x a1)].toArray below meth c 4 (QV x K below [.ref (adr x a0), .ref (adr x a1)].toArray s 0 0) 0 [(0, .ref (adr x a0)), (1, .ref (adr x a1))] [] w 0 0
  refine g_iconst (pc := 0) C dX6_lookAhead_0 (v := 0) rfl ?_
  refine g_istore_n (pc := 1) C dX6_lookAhead_1 (Nat.le_of_ble_eq_true rfl) (lo' := [(2, .int 0), (0, .ref (adr x a0)), (1, .ref (adr x a1))]) rfl ?_
  obtain ⟨n38, h⟩ := h
  refine g_sub [1, 2, 0] rfl ?_
  refine t_X6_lookAhead_2 C hlk hr ?_ n38 _ _ _ _ h
  · intro b5 b6 w7 h
    refine g_aload_n (pc := 24) C dX6_lookAhead_24 (q := 0) rfl ?_
    obtain ⟨k8, h⟩ := h
    obtain ⟨k9, h⟩ := h
    refine gfX6_22 (pc := 25) C k8 (isK_ne k9) dX6_lookAhead_25 ?_
    refine g_aload_n (pc := 28) C dX6_lookAhead_28 (q := 1) rfl ?_
    refine miX6_26 (pc := 29) C k9 h (Nat.le_of_ble_eq_true rfl) (Nat.le_of_ble_eq_true rfl) ⟨Nat.le_refl _, Nat.le_refl _⟩ dX6_lookAhead_29 (fun w10 h => ?_)
    refine g_iconst (pc := 32) C dX6_lookAhead_32 (v := 0) rfl ?_
    refine g_istore_n (pc := 33) C dX6_lookAhead_33 (Nat.le_of_ble_eq_true rfl) (lo' := [(2, .int 0), (0, .ref (adr x b5)), (1, .ref (adr x b6))]) rfl ?_
    obtain ⟨n37, h⟩ := h
    refine g_sub [1, 2, 0] rfl ?_
    refine t_X6_lookAhead_34 C hlk hr n37 _ _ _ _ h
def w_X6_mostServed (a0 : Nat) (a1 : Int32) (K : Int32 → Wd → Prop) (w : Wd) : Prop :=
  isK w a0 6 ∧ isK w (wR w a0 1) 2 ∧ isK w (wR w (wR w a0 1) 0) 1 ∧ w_X6_hoursTill a1 (fun r4 w5 => isK w5 a0 6 ∧ w_X6_lacking a0 r4 0 (fun r7 w8 => K ((wI w (wR w (wR w a0 1) 0) 2) - r7) w8) w5) w
theorem c_X6_mostServed {x : xG} {l : Launch} {a0 : Nat} {a1 : Int32} {K : Int32 → Wd → Prop} {w : Wd} (h : w_X6_mostServed a0 a1 K w) : Met l yX6_mostServed (xws yX6_mostServed cX6_mostServed 2 (some .int)) (rmd 2 0 0) (xPc x [.ref (adr x a0), .int a1] w) (QcI x K) 0 0 (xA x) := by
  refine xMet (by decide) (Nat.le_of_ble_eq_true rfl) (fun p e s m below meth c C hlk hr _ => ?_)
  show GW x p l e (rmd 2 0 0) s m [.ref (adr x a0), .int a1].toArray below meth c 2 (QI x K below [.ref (adr x a0), .int a1].toArray s 0 0) 0 [(0, .ref (adr x a0)), (1, .int a1)] [] w 0 0
  refine g_aload_n (pc := 0) C dX6_mostServed_0 (q := 0) rfl ?_
  obtain ⟨k1, h⟩ := h
  obtain ⟨k2, h⟩ := h
  refine gfX6_22 (pc := 1) C k1 (isK_ne k2) dX6_mostServed_1 ?_
  obtain ⟨k3, h⟩ := h
  refine gfX6_37 (pc := 4) C k2 (isK_ne k3) dX6_mostServed_4 ?_
  refine gfX6_41 (pc := 7) C k3 dX6_mostServed_7 ?_
  refine g_aload_n (pc := 10) C dX6_mostServed_10 (q := 0) rfl ?_
  refine g_iload_n (pc := 11) C dX6_mostServed_11 (q := 1) rfl ?_
  refine miX6_74 (pc := 12) C h (Nat.le_of_ble_eq_true rfl) (Nat.le_of_ble_eq_true rfl) ⟨Nat.le_refl _, Nat.le_refl _⟩ dX6_mostServed_12 (fun r4 w5 h => ?_)
  refine g_iconst (pc := 15) C dX6_mostServed_15 (v := 0) rfl ?_
  obtain ⟨k6, h⟩ := h
  refine miX6_78 (pc := 16) C k6 h (Nat.le_of_ble_eq_true rfl) (Nat.le_of_ble_eq_true rfl) ⟨Nat.le_refl _, Nat.le_refl _⟩ dX6_mostServed_16 (fun r7 w8 h => ?_)
  refine g_isub (pc := 19) C dX6_mostServed_19 ?_
  exact g_iret (pc := 20) C hlk hr (Nat.le_refl _) (Nat.le_refl _) dX6_mostServed_20 h
def l_X6_soonestEnd_2  (K : Int32 → Wd → Prop) : Nat → Nat → Int32 → Wd → Prop
  | 0, _, _, _ => False
  | n + 1, a0, a1, w => ((40 < a1 → K (-1) w) ∧ (¬ 40 < a1 → w_X6_hoursTill a1 (fun r2 w3 => isK w3 a0 6 ∧ w_X6_lacking a0 r2 0 (fun r5 w6 => ((r5 = 0 → K a1 w6) ∧ (¬ r5 = 0 → l_X6_soonestEnd_2 K n a0 (a1 + 1) w6))) w3) w))
def w_X6_soonestEnd (a0 : Nat) (K : Int32 → Wd → Prop) (w : Wd) : Prop :=
  ∃ n8, l_X6_soonestEnd_2  K n8 a0 0 w
theorem t_X6_soonestEnd_2 (C : xC x p s m c cX6_soonestEnd 2 args RX6) (hlk : meth.locks = false) (hr : meth.sig.returnType = some .int) {K : Int32 → Wd → Prop}   : ∀ (n : Nat) (a0 : Nat) (a1 : Int32) (w : Wd), l_X6_soonestEnd_2 K n a0 a1 w → GW x p l e (rmd 2 0 0) s m args below meth c 2 (QI x K below args s 0 0) 2 [(0, .ref (adr x a0)), (1, .int a1)] [] w 0 0 := by
  intro n
  induction n with
  | zero => intro _ _ _ h; exact False.elim h
  | succ n ih =>
    intro a0 a1 w h
    refine g_iload_n (pc := 2) C dX6_soonestEnd_2 (q := 1) rfl ?_
    refine g_bipush (pc := 3) C dX6_soonestEnd_3 (v := 40) rfl ?_
    refine g_icmp_gt (pc := 5) C dX6_soonestEnd_5 (tgt := 28) rfl (fun z1 => ?_) (fun z1 => ?_)
    · replace h := h.1 z1
      refine g_iconst (pc := 28) C dX6_soonestEnd_28 (v := (-1)) rfl ?_
      exact g_iret (pc := 29) C hlk hr (Nat.le_refl _) (Nat.le_refl _) dX6_soonestEnd_29 h
    · replace h := h.2 z1
      refine g_aload_n (pc := 8) C dX6_soonestEnd_8 (q := 0) rfl ?_
      refine g_iload_n (pc := 9) C dX6_soonestEnd_9 (q := 1) rfl ?_
      refine miX6_74 (pc := 10) C h (Nat.le_of_ble_eq_true rfl) (Nat.le_of_ble_eq_true rfl) ⟨Nat.le_refl _, Nat.le_refl _⟩ dX6_soonestEnd_10 (fun r2 w3 h => ?_)
      refine g_iconst (pc := 13) C dX6_soonestEnd_13 (v := 0) rfl ?_
      obtain ⟨k4, h⟩ := h
      refine miX6_78 (pc := 14) C k4 h (Nat.le_of_ble_eq_true rfl) (Nat.le_of_ble_eq_true rfl) ⟨Nat.le_refl _, Nat.le_refl _⟩ dX6_soonestEnd_14 (fun r5 w6 h => ?_)
      refine g_if_ne (pc := 17) C dX6_soonestEnd_17 (tgt := 22) rfl (fun z7 => ?_) (fun z7 => ?_)
      · replace h := h.2 z7
        refine g_iinc (pc := 22) C dX6_soonestEnd_22 (q := 1) rfl (v2 := a1 + 1) rfl (Nat.le_of_ble_eq_true rfl) (lo' := [(1, .int (a1 + 1)), (0, .ref (adr x a0))]) rfl ?_
        refine g_goto (pc := 25) C dX6_soonestEnd_25 (tgt := 2) rfl ?_
        refine g_sub [1, 0] rfl ?_
        exact ih _ _ _ h
      · replace h := h.1 z7
        refine g_iload_n (pc := 20) C dX6_soonestEnd_20 (q := 1) rfl ?_
        exact g_iret (pc := 21) C hlk hr (Nat.le_refl _) (Nat.le_refl _) dX6_soonestEnd_21 h
theorem c_X6_soonestEnd {x : xG} {l : Launch} {a0 : Nat} {K : Int32 → Wd → Prop} {w : Wd} (h : w_X6_soonestEnd a0 K w) : Met l yX6_soonestEnd (xws yX6_soonestEnd cX6_soonestEnd 2 (some .int)) (rmd 2 0 0) (xPc x [.ref (adr x a0)] w) (QcI x K) 0 0 (xA x) := by
  refine xMet (by decide) (Nat.le_of_ble_eq_true rfl) (fun p e s m below meth c C hlk hr _ => ?_)
  show GW x p l e (rmd 2 0 0) s m [.ref (adr x a0)].toArray below meth c 2 (QI x K below [.ref (adr x a0)].toArray s 0 0) 0 [(0, .ref (adr x a0))] [] w 0 0
  refine g_iconst (pc := 0) C dX6_soonestEnd_0 (v := 0) rfl ?_
  refine g_istore_n (pc := 1) C dX6_soonestEnd_1 (Nat.le_of_ble_eq_true rfl) (lo' := [(1, .int 0), (0, .ref (adr x a0))]) rfl ?_
  obtain ⟨n8, h⟩ := h
  refine g_sub [1, 0] rfl ?_
  refine t_X6_soonestEnd_2 C hlk hr n8 _ _ _ h
def w_X9_isAwakeAt (a0 : Int32) (a1 : Int32) (a2 : Int32) (a3 : Int32) (K : Int32 → Wd → Prop) (w : Wd) : Prop :=
  ((a0 ≤ 0 → K 0 w) ∧ (¬ a0 ≤ 0 → ¬ a0 = 0 ∧ ((a1 ≤ (x_irem (a3 + a2) a0) → K 0 w) ∧ (¬ a1 ≤ (x_irem (a3 + a2) a0) → K 1 w))))
theorem c_X9_isAwakeAt {x : xG} {l : Launch} {a0 : Int32} {a1 : Int32} {a2 : Int32} {a3 : Int32} {K : Int32 → Wd → Prop} {w : Wd} (h : w_X9_isAwakeAt a0 a1 a2 a3 K w) : Met l yX9_isAwakeAt (xws yX9_isAwakeAt cX9_isAwakeAt 4 (some .boolean)) (rmd 0 0 0) (xPc x [.int a0, .int a1, .int a2, .int a3] w) (QcI x K) 0 0 (xA x) := by
  refine xMet (by decide) (Nat.le_of_ble_eq_true rfl) (fun p e s m below meth c C hlk hr _ => ?_)
  show GW x p l e (rmd 0 0 0) s m [.int a0, .int a1, .int a2, .int a3].toArray below meth c 4 (QI x K below [.int a0, .int a1, .int a2, .int a3].toArray s 0 0) 0 [(0, .int a0), (1, .int a1), (2, .int a2), (3, .int a3)] [] w 0 0
  refine g_iload_n (pc := 0) C dX9_isAwakeAt_0 (q := 0) rfl ?_
  refine g_if_le (pc := 1) C dX9_isAwakeAt_1 (tgt := 17) rfl (fun z1 => ?_) (fun z1 => ?_)
  · replace h := h.1 z1
    refine g_iconst (pc := 17) C dX9_isAwakeAt_17 (v := 0) rfl ?_
    exact g_zret (pc := 18) C hlk hr (Nat.le_refl _) (Nat.le_refl _) dX9_isAwakeAt_18 (Or.inl rfl) h
  · replace h := h.2 z1
    refine g_iload_n (pc := 4) C dX9_isAwakeAt_4 (q := 3) rfl ?_
    refine g_iload_n (pc := 5) C dX9_isAwakeAt_5 (q := 2) rfl ?_
    refine g_iadd (pc := 6) C dX9_isAwakeAt_6 ?_
    refine g_iload_n (pc := 7) C dX9_isAwakeAt_7 (q := 0) rfl ?_
    obtain ⟨k2, h⟩ := h
    refine h_irem (pc := 8) C dX9_isAwakeAt_8 k2 ?_
    refine g_iload_n (pc := 9) C dX9_isAwakeAt_9 (q := 1) rfl ?_
    refine g_icmp_ge (pc := 10) C dX9_isAwakeAt_10 (tgt := 17) rfl (fun z3 => ?_) (fun z3 => ?_)
    · replace h := h.1 z3
      refine g_iconst (pc := 17) C dX9_isAwakeAt_17 (v := 0) rfl ?_
      exact g_zret (pc := 18) C hlk hr (Nat.le_refl _) (Nat.le_refl _) dX9_isAwakeAt_18 (Or.inl rfl) h
    · replace h := h.2 z3
      refine g_iconst (pc := 13) C dX9_isAwakeAt_13 (v := 1) rfl ?_
      refine g_goto (pc := 14) C dX9_isAwakeAt_14 (tgt := 18) rfl ?_
      exact g_zret (pc := 18) C hlk hr (Nat.le_refl _) (Nat.le_refl _) dX9_isAwakeAt_18 (Or.inr rfl) h
theorem miX9_43 (C : xC x p s m c cc nL args RX9) {a0 : Int32} {a1 : Int32} {a2 : Int32} {a3 : Int32} {K : Int32 → Wd → Prop} {D MC MS : Nat} (h : w_X9_isAwakeAt a0 a1 a2 a3 K w) (hD : 0 + 1 ≤ D) (hW : (st.map fun v => v.category).sum ≤ 8) (hij : i ≤ MC ∧ j ≤ MS) (hd : decode cc pc = .ok (.invokestatic 43, 3)) (k : ∀ (r : Int32) (u : Wd), K r u → GW x p l e (rmd D MC MS) s m args below meth c nL Q (pc + 3) lo (.int r :: st) u i j) : GW x p l e (rmd D MC MS) s m args below meth c nL Q pc lo (.int a3 :: .int a2 :: .int a1 :: .int a0 :: st) w i j := g_callSi0 C (As := [.int a0, .int a1, .int a2, .int a3]) (c_X9_isAwakeAt h) (x_cwS C 4 LMX9_43 ⟨by decide, by decide, rfl⟩ hD (by decide)) rfl rfl hW hd hij k
def l_X9_awakeAmongFitting_4  (K : Int32 → Wd → Prop) : Nat → Nat → Int32 → Int32 → Int32 → Wd → Prop
  | 0, _, _, _, _, _ => False
  | n + 1, a0, a1, a2, a3, w => isK w a0 9 ∧ (((wI w a0 3) ≤ a3 → K a2 w) ∧ (¬ (wI w a0 3) ≤ a3 → isK w (wR w a0 4) 20 ∧ (((Int32.ofNat (wn w (wR w a0 4))) ≤ a3 → K a2 w) ∧ (¬ (Int32.ofNat (wn w (wR w a0 4))) ≤ a3 → vp_in a3 (wn w (wR w a0 4)) ∧ w_X9_isAwakeAt ((wI w (wR w a0 4) a3.toNatClampNeg) / 10000) (x_irem ((wI w (wR w a0 4) a3.toNatClampNeg) / 100) 100) (x_irem (wI w (wR w a0 4) a3.toNatClampNeg) 100) a1 (fun r6 w7 => ((r6 = 0 → l_X9_awakeAmongFitting_4 K n a0 a1 a2 (a3 + 1) w7) ∧ (¬ r6 = 0 → l_X9_awakeAmongFitting_4 K n a0 a1 (a2 + 1) (a3 + 1) w7))) w))))
def w_X9_awakeAmongFitting (a0 : Nat) (a1 : Int32) (K : Int32 → Wd → Prop) (w : Wd) : Prop :=
  ∃ n9, l_X9_awakeAmongFitting_4  K n9 a0 a1 0 0 w
theorem t_X9_awakeAmongFitting_4 (C : xC x p s m c cX9_awakeAmongFitting 5 args RX9) (hlk : meth.locks = false) (hr : meth.sig.returnType = some .int) {K : Int32 → Wd → Prop}   : ∀ (n : Nat) (a0 : Nat) (a1 : Int32) (a2 : Int32) (a3 : Int32) (w : Wd), l_X9_awakeAmongFitting_4 K n a0 a1 a2 a3 w → GW x p l e (rmd 1 0 0) s m args below meth c 5 (QI x K below args s 0 0) 4 [(0, .ref (adr x a0)), (1, .int a1), (2, .int a2), (3, .int a3)] [] w 0 0 := by
  intro n
  induction n with
  | zero => intro _ _ _ _ _ h; exact False.elim h
  | succ n ih =>
    intro a0 a1 a2 a3 w h
    refine g_iload_n (pc := 4) C dX9_awakeAmongFitting_4 (q := 3) rfl ?_
    refine g_aload_n (pc := 5) C dX9_awakeAmongFitting_5 (q := 0) rfl ?_
    obtain ⟨k1, h⟩ := h
    refine gfX9_21 (pc := 6) C k1 dX9_awakeAmongFitting_6 ?_
    refine g_icmp_ge (pc := 9) C dX9_awakeAmongFitting_9 (tgt := 64) rfl (fun z2 => ?_) (fun z2 => ?_)
    · replace h := h.1 z2
      refine g_iload_n (pc := 64) C dX9_awakeAmongFitting_64 (q := 2) rfl ?_
      exact g_iret (pc := 65) C hlk hr (Nat.le_refl _) (Nat.le_refl _) dX9_awakeAmongFitting_65 h
    · replace h := h.2 z2
      refine g_iload_n (pc := 12) C dX9_awakeAmongFitting_12 (q := 3) rfl ?_
      refine g_aload_n (pc := 13) C dX9_awakeAmongFitting_13 (q := 0) rfl ?_
      obtain ⟨k3, h⟩ := h
      refine gfX9_24 (pc := 14) C k1 (isK_ne k3) dX9_awakeAmongFitting_14 ?_
      refine g_alen (pc := 17) C k3 (by decide) dX9_awakeAmongFitting_17 ?_
      refine g_icmp_ge (pc := 18) C dX9_awakeAmongFitting_18 (tgt := 64) rfl (fun z4 => ?_) (fun z4 => ?_)
      · replace h := h.1 z4
        refine g_iload_n (pc := 64) C dX9_awakeAmongFitting_64 (q := 2) rfl ?_
        exact g_iret (pc := 65) C hlk hr (Nat.le_refl _) (Nat.le_refl _) dX9_awakeAmongFitting_65 h
      · replace h := h.2 z4
        refine g_aload_n (pc := 21) C dX9_awakeAmongFitting_21 (q := 0) rfl ?_
        refine gfX9_24 (pc := 22) C k1 (isK_ne k3) dX9_awakeAmongFitting_22 ?_
        refine g_iload_n (pc := 25) C dX9_awakeAmongFitting_25 (q := 3) rfl ?_
        obtain ⟨k5, h⟩ := h
        refine g_iald (pc := 26) C k3 k5 dX9_awakeAmongFitting_26 ?_
        refine g_istore (pc := 27) C dX9_awakeAmongFitting_27 (Nat.le_of_ble_eq_true rfl) (lo' := [(4, .int (wI w (wR w a0 4) a3.toNatClampNeg)), (0, .ref (adr x a0)), (1, .int a1), (2, .int a2), (3, .int a3)]) rfl ?_
        refine g_iload (pc := 29) C dX9_awakeAmongFitting_29 (q := 0) rfl ?_
        refine g_sipush (pc := 31) C dX9_awakeAmongFitting_31 (v := 10000) rfl ?_
        refine g_idiv (pc := 34) C dX9_awakeAmongFitting_34 (by decide) ?_
        refine g_iload (pc := 35) C dX9_awakeAmongFitting_35 (q := 0) rfl ?_
        refine g_bipush (pc := 37) C dX9_awakeAmongFitting_37 (v := 100) rfl ?_
        refine g_idiv (pc := 39) C dX9_awakeAmongFitting_39 (by decide) ?_
        refine g_bipush (pc := 40) C dX9_awakeAmongFitting_40 (v := 100) rfl ?_
        refine h_irem (pc := 42) C dX9_awakeAmongFitting_42 (by decide) ?_
        refine g_iload (pc := 43) C dX9_awakeAmongFitting_43 (q := 0) rfl ?_
        refine g_bipush (pc := 45) C dX9_awakeAmongFitting_45 (v := 100) rfl ?_
        refine h_irem (pc := 47) C dX9_awakeAmongFitting_47 (by decide) ?_
        refine g_iload_n (pc := 48) C dX9_awakeAmongFitting_48 (q := 2) rfl ?_
        refine miX9_43 (pc := 49) C h (Nat.le_of_ble_eq_true rfl) (Nat.le_of_ble_eq_true rfl) ⟨Nat.le_refl _, Nat.le_refl _⟩ dX9_awakeAmongFitting_49 (fun r6 w7 h => ?_)
        refine g_if_eq (pc := 52) C dX9_awakeAmongFitting_52 (tgt := 58) rfl (fun z8 => ?_) (fun z8 => ?_)
        · replace h := h.1 z8
          refine g_iinc (pc := 58) C dX9_awakeAmongFitting_58 (q := 4) rfl (v2 := a3 + 1) rfl (Nat.le_of_ble_eq_true rfl) (lo' := [(3, .int (a3 + 1)), (4, .int (wI w (wR w a0 4) a3.toNatClampNeg)), (0, .ref (adr x a0)), (1, .int a1), (2, .int a2)]) rfl ?_
          refine g_goto (pc := 61) C dX9_awakeAmongFitting_61 (tgt := 4) rfl ?_
          refine g_sub [2, 3, 4, 0] rfl ?_
          exact ih _ _ _ _ _ h
        · replace h := h.2 z8
          refine g_iinc (pc := 55) C dX9_awakeAmongFitting_55 (q := 3) rfl (v2 := a2 + 1) rfl (Nat.le_of_ble_eq_true rfl) (lo' := [(2, .int (a2 + 1)), (4, .int (wI w (wR w a0 4) a3.toNatClampNeg)), (0, .ref (adr x a0)), (1, .int a1), (3, .int a3)]) rfl ?_
          refine g_iinc (pc := 58) C dX9_awakeAmongFitting_58 (q := 4) rfl (v2 := a3 + 1) rfl (Nat.le_of_ble_eq_true rfl) (lo' := [(3, .int (a3 + 1)), (2, .int (a2 + 1)), (4, .int (wI w (wR w a0 4) a3.toNatClampNeg)), (0, .ref (adr x a0)), (1, .int a1)]) rfl ?_
          refine g_goto (pc := 61) C dX9_awakeAmongFitting_61 (tgt := 4) rfl ?_
          refine g_sub [3, 4, 1, 0] rfl ?_
          exact ih _ _ _ _ _ h
theorem c_X9_awakeAmongFitting {x : xG} {l : Launch} {a0 : Nat} {a1 : Int32} {K : Int32 → Wd → Prop} {w : Wd} (h : w_X9_awakeAmongFitting a0 a1 K w) : Met l yX9_awakeAmongFitting (xws yX9_awakeAmongFitting cX9_awakeAmongFitting 5 (some .int)) (rmd 1 0 0) (xPc x [.ref (adr x a0), .int a1] w) (QcI x K) 0 0 (xA x) := by
  refine xMet (by decide) (Nat.le_of_ble_eq_true rfl) (fun p e s m below meth c C hlk hr _ => ?_)
  show GW x p l e (rmd 1 0 0) s m [.ref (adr x a0), .int a1].toArray below meth c 5 (QI x K below [.ref (adr x a0), .int a1].toArray s 0 0) 0 [(0, .ref (adr x a0)), (1, .int a1)] [] w 0 0
  refine g_iconst (pc := 0) C dX9_awakeAmongFitting_0 (v := 0) rfl ?_
  refine g_istore_n (pc := 1) C dX9_awakeAmongFitting_1 (Nat.le_of_ble_eq_true rfl) (lo' := [(2, .int 0), (0, .ref (adr x a0)), (1, .int a1)]) rfl ?_
  refine g_iconst (pc := 2) C dX9_awakeAmongFitting_2 (v := 0) rfl ?_
  refine g_istore_n (pc := 3) C dX9_awakeAmongFitting_3 (Nat.le_of_ble_eq_true rfl) (lo' := [(3, .int 0), (2, .int 0), (0, .ref (adr x a0)), (1, .int a1)]) rfl ?_
  obtain ⟨n9, h⟩ := h
  refine g_sub [2, 3, 1, 0] rfl ?_
  refine t_X9_awakeAmongFitting_4 C hlk hr n9 _ _ _ _ _ h
theorem miX9_33 (C : xC x p s m c cc nL args RX9) {a0 : Nat} {a1 : Int32} {K : Int64 → Wd → Prop} {D MC MS : Nat} (hq : isK w a0 10) (h : w_X10_numberAt a0 a1 K w) (hD : 0 + 1 ≤ D) (hW : (st.map fun v => v.category).sum ≤ 8) (hij : i ≤ MC ∧ j ≤ MS) (hd : decode cc pc = .ok (.invokevirtual 33, 3)) (k : ∀ (r : Int64) (u : Wd), K r u → GW x p l e (rmd D MC MS) s m args below meth c nL Q (pc + 3) lo (.long r :: st) u i j) : GW x p l e (rmd D MC MS) s m args below meth c nL Q pc lo (.int a1 :: .ref (adr x a0) :: st) w i j := g_callVl0 C (As := [.int a1]) (ci := 10) (c_X10_numberAt h) (x_cwV C 1 LMX9_33 ⟨rfl, by decide, by decide, rfl⟩ hD (by decide)) rfl hq (by decide) rfl rfl hW hd hij k
def l_X9_canBeHeard_21  (K : Int32 → Wd → Prop) : Nat → Nat → Int32 → Wd → Prop
  | 0, _, _, _ => False
  | n + 1, a0, a1, w => isK w a0 10 ∧ (((wI w a0 1) ≤ a1 → K 1 w) ∧ (¬ (wI w a0 1) ≤ a1 → w_X10_numberAt a0 a1 (fun r6 w7 => (((lg_cmp r6 (-1)) < 0 → K 0 w7) ∧ (¬ (lg_cmp r6 (-1)) < 0 → isK w7 a0 10 ∧ w_X10_numberAt a0 a1 (fun r10 w11 => (((lg_cmp r10 1) ≤ 0 → l_X9_canBeHeard_21 K n a0 (a1 + 1) w11) ∧ (¬ (lg_cmp r10 1) ≤ 0 → K 0 w11))) w7))) w))
def w_X9_canBeHeard (a0 : Nat) (K : Int32 → Wd → Prop) (w : Wd) : Prop :=
  isK w a0 10 ∧ (((wI w a0 1) < 1 → K 0 w) ∧ (¬ (wI w a0 1) < 1 → (((wI w a0 1) ≤ 24 → ∃ n13, l_X9_canBeHeard_21  K n13 a0 0 w) ∧ (¬ (wI w a0 1) ≤ 24 → K 0 w))))
theorem t_X9_canBeHeard_21 (C : xC x p s m c cX9_canBeHeard 2 args RX9) (hlk : meth.locks = false) (hr : meth.sig.returnType = some .boolean) {K : Int32 → Wd → Prop}   : ∀ (n : Nat) (a0 : Nat) (a1 : Int32) (w : Wd), l_X9_canBeHeard_21 K n a0 a1 w → GW x p l e (rmd 1 0 0) s m args below meth c 2 (QI x K below args s 0 0) 21 [(0, .ref (adr x a0)), (1, .int a1)] [] w 0 0 := by
  intro n
  induction n with
  | zero => intro _ _ _ h; exact False.elim h
  | succ n ih =>
    intro a0 a1 w h
    refine g_iload_n (pc := 21) C dX9_canBeHeard_21 (q := 1) rfl ?_
    refine g_aload_n (pc := 22) C dX9_canBeHeard_22 (q := 0) rfl ?_
    obtain ⟨k4, h⟩ := h
    refine gfX9_28 (pc := 23) C k4 dX9_canBeHeard_23 ?_
    refine g_icmp_ge (pc := 26) C dX9_canBeHeard_26 (tgt := 59) rfl (fun z5 => ?_) (fun z5 => ?_)
    · replace h := h.1 z5
      refine g_iconst (pc := 59) C dX9_canBeHeard_59 (v := 1) rfl ?_
      exact g_zret (pc := 60) C hlk hr (Nat.le_refl _) (Nat.le_refl _) dX9_canBeHeard_60 (Or.inr rfl) h
    · replace h := h.2 z5
      refine g_aload_n (pc := 29) C dX9_canBeHeard_29 (q := 0) rfl ?_
      refine g_iload_n (pc := 30) C dX9_canBeHeard_30 (q := 1) rfl ?_
      refine miX9_33 (pc := 31) C k4 h (Nat.le_of_ble_eq_true rfl) (Nat.le_of_ble_eq_true rfl) ⟨Nat.le_refl _, Nat.le_refl _⟩ dX9_canBeHeard_31 (fun r6 w7 h => ?_)
      refine g_ldc2 (pc := 34) C LCX9_37 dX9_canBeHeard_34 ?_
      refine g_lcmp (pc := 37) C dX9_canBeHeard_37 ?_
      refine g_if_lt (pc := 38) C dX9_canBeHeard_38 (tgt := 51) rfl (fun z8 => ?_) (fun z8 => ?_)
      · replace h := h.1 z8
        refine g_iconst (pc := 51) C dX9_canBeHeard_51 (v := 0) rfl ?_
        exact g_zret (pc := 52) C hlk hr (Nat.le_refl _) (Nat.le_refl _) dX9_canBeHeard_52 (Or.inl rfl) h
      · replace h := h.2 z8
        refine g_aload_n (pc := 41) C dX9_canBeHeard_41 (q := 0) rfl ?_
        refine g_iload_n (pc := 42) C dX9_canBeHeard_42 (q := 1) rfl ?_
        obtain ⟨k9, h⟩ := h
        refine miX9_33 (pc := 43) C k9 h (Nat.le_of_ble_eq_true rfl) (Nat.le_of_ble_eq_true rfl) ⟨Nat.le_refl _, Nat.le_refl _⟩ dX9_canBeHeard_43 (fun r10 w11 h => ?_)
        refine g_lconst (pc := 46) C dX9_canBeHeard_46 (v := 1) rfl ?_
        refine g_lcmp (pc := 47) C dX9_canBeHeard_47 ?_
        refine g_if_le (pc := 48) C dX9_canBeHeard_48 (tgt := 53) rfl (fun z12 => ?_) (fun z12 => ?_)
        · replace h := h.1 z12
          refine g_iinc (pc := 53) C dX9_canBeHeard_53 (q := 1) rfl (v2 := a1 + 1) rfl (Nat.le_of_ble_eq_true rfl) (lo' := [(1, .int (a1 + 1)), (0, .ref (adr x a0))]) rfl ?_
          refine g_goto (pc := 56) C dX9_canBeHeard_56 (tgt := 21) rfl ?_
          refine g_sub [1, 0] rfl ?_
          exact ih _ _ _ h
        · replace h := h.2 z12
          refine g_iconst (pc := 51) C dX9_canBeHeard_51 (v := 0) rfl ?_
          exact g_zret (pc := 52) C hlk hr (Nat.le_refl _) (Nat.le_refl _) dX9_canBeHeard_52 (Or.inl rfl) h
theorem c_X9_canBeHeard {x : xG} {l : Launch} {a0 : Nat} {K : Int32 → Wd → Prop} {w : Wd} (h : w_X9_canBeHeard a0 K w) : Met l yX9_canBeHeard (xws yX9_canBeHeard cX9_canBeHeard 2 (some .boolean)) (rmd 1 0 0) (xPc x [.ref (adr x a0)] w) (QcI x K) 0 0 (xA x) := by
  refine xMet (by decide) (Nat.le_of_ble_eq_true rfl) (fun p e s m below meth c C hlk hr _ => ?_)
  show GW x p l e (rmd 1 0 0) s m [.ref (adr x a0)].toArray below meth c 2 (QI x K below [.ref (adr x a0)].toArray s 0 0) 0 [(0, .ref (adr x a0))] [] w 0 0
  refine g_aload_n (pc := 0) C dX9_canBeHeard_0 (q := 0) rfl ?_
  obtain ⟨k1, h⟩ := h
  refine gfX9_28 (pc := 1) C k1 dX9_canBeHeard_1 ?_
  refine g_iconst (pc := 4) C dX9_canBeHeard_4 (v := 1) rfl ?_
  refine g_icmp_lt (pc := 5) C dX9_canBeHeard_5 (tgt := 17) rfl (fun z2 => ?_) (fun z2 => ?_)
  · replace h := h.1 z2
    refine g_iconst (pc := 17) C dX9_canBeHeard_17 (v := 0) rfl ?_
    exact g_zret (pc := 18) C hlk hr (Nat.le_refl _) (Nat.le_refl _) dX9_canBeHeard_18 (Or.inl rfl) h
  · replace h := h.2 z2
    refine g_aload_n (pc := 8) C dX9_canBeHeard_8 (q := 0) rfl ?_
    refine gfX9_28 (pc := 9) C k1 dX9_canBeHeard_9 ?_
    refine g_bipush (pc := 12) C dX9_canBeHeard_12 (v := 24) rfl ?_
    refine g_icmp_le (pc := 14) C dX9_canBeHeard_14 (tgt := 19) rfl (fun z3 => ?_) (fun z3 => ?_)
    · replace h := h.1 z3
      refine g_iconst (pc := 19) C dX9_canBeHeard_19 (v := 0) rfl ?_
      refine g_istore_n (pc := 20) C dX9_canBeHeard_20 (Nat.le_of_ble_eq_true rfl) (lo' := [(1, .int 0), (0, .ref (adr x a0))]) rfl ?_
      obtain ⟨n13, h⟩ := h
      refine g_sub [1, 0] rfl ?_
      refine t_X9_canBeHeard_21 C hlk hr n13 _ _ _ h
    · replace h := h.2 z3
      refine g_iconst (pc := 17) C dX9_canBeHeard_17 (v := 0) rfl ?_
      exact g_zret (pc := 18) C hlk hr (Nat.le_refl _) (Nat.le_refl _) dX9_canBeHeard_18 (Or.inl rfl) h
theorem miX9_39 (C : xC x p s m c cc nL args RX9) {a0 : Int32} {a1 : Int32} {K : Int32 → Wd → Prop} {D MC MS : Nat} (h : w_X11_has a0 a1 K w) (hD : 0 + 1 ≤ D) (hW : (st.map fun v => v.category).sum ≤ 8) (hij : i ≤ MC ∧ j ≤ MS) (hd : decode cc pc = .ok (.invokestatic 39, 3)) (k : ∀ (r : Int32) (u : Wd), K r u → GW x p l e (rmd D MC MS) s m args below meth c nL Q (pc + 3) lo (.int r :: st) u i j) : GW x p l e (rmd D MC MS) s m args below meth c nL Q pc lo (.int a1 :: .int a0 :: st) w i j := g_callNi0 C (As := [.int a0, .int a1]) (c_X11_has h) (x_cwN C 2 LKX11_has LNX9_39 LSX11_has LIX11 ⟨by decide, by decide, rfl⟩ hD (by decide)) rfl rfl hW hd hij k
def l_X9_fits_3  (K : Int32 → Wd → Prop) : Nat → Nat → Int32 → Int32 → Int32 → Int32 → Wd → Prop
  | 0, _, _, _, _, _, _ => False
  | n + 1, a0, a1, a2, a3, a4, w => isK w a0 9 ∧ (((wI w a0 0) ≤ a4 → K 1 w) ∧ (¬ (wI w a0 0) ≤ a4 → w_X11_has (wI w a0 1) a4 (fun r3 w4 => ((r3 = 0 → l_X9_fits_3 K n a0 a1 a2 a3 (a4 + 1) w4) ∧ (¬ r3 = 0 → w_X9_isAwakeAt a1 a2 a3 a4 (fun r6 w7 => isK w7 a0 9 ∧ w_X11_has (wI w7 a0 2) a4 (fun r9 w10 => ((r6 = r9 → l_X9_fits_3 K n a0 a1 a2 a3 (a4 + 1) w10) ∧ (¬ r6 = r9 → K 0 w10))) w7) w4))) w))
def w_X9_fits (a0 : Nat) (a1 : Int32) (a2 : Int32) (a3 : Int32) (K : Int32 → Wd → Prop) (w : Wd) : Prop :=
  ∃ n12, l_X9_fits_3  K n12 a0 a1 a2 a3 0 w
theorem t_X9_fits_3 (C : xC x p s m c cX9_fits 5 args RX9) (hlk : meth.locks = false) (hr : meth.sig.returnType = some .boolean) {K : Int32 → Wd → Prop}   : ∀ (n : Nat) (a0 : Nat) (a1 : Int32) (a2 : Int32) (a3 : Int32) (a4 : Int32) (w : Wd), l_X9_fits_3 K n a0 a1 a2 a3 a4 w → GW x p l e (rmd 1 0 0) s m args below meth c 5 (QI x K below args s 0 0) 3 [(0, .ref (adr x a0)), (1, .int a1), (2, .int a2), (3, .int a3), (4, .int a4)] [] w 0 0 := by
  intro n
  induction n with
  | zero => intro _ _ _ _ _ _ h; exact False.elim h
  | succ n ih =>
    intro a0 a1 a2 a3 a4 w h
    refine g_iload (pc := 3) C dX9_fits_3 (q := 4) rfl ?_
    refine g_aload_n (pc := 5) C dX9_fits_5 (q := 0) rfl ?_
    obtain ⟨k1, h⟩ := h
    refine gfX9_9 (pc := 6) C k1 dX9_fits_6 ?_
    refine g_icmp_ge (pc := 9) C dX9_fits_9 (tgt := 52) rfl (fun z2 => ?_) (fun z2 => ?_)
    · replace h := h.1 z2
      refine g_iconst (pc := 52) C dX9_fits_52 (v := 1) rfl ?_
      exact g_zret (pc := 53) C hlk hr (Nat.le_refl _) (Nat.le_refl _) dX9_fits_53 (Or.inr rfl) h
    · replace h := h.2 z2
      refine g_aload_n (pc := 12) C dX9_fits_12 (q := 0) rfl ?_
      refine gfX9_15 (pc := 13) C k1 dX9_fits_13 ?_
      refine g_iload (pc := 16) C dX9_fits_16 (q := 4) rfl ?_
      refine miX9_39 (pc := 18) C h (Nat.le_of_ble_eq_true rfl) (Nat.le_of_ble_eq_true rfl) ⟨Nat.le_refl _, Nat.le_refl _⟩ dX9_fits_18 (fun r3 w4 h => ?_)
      refine g_if_eq (pc := 21) C dX9_fits_21 (tgt := 46) rfl (fun z5 => ?_) (fun z5 => ?_)
      · replace h := h.1 z5
        refine g_iinc (pc := 46) C dX9_fits_46 (q := 4) rfl (v2 := a4 + 1) rfl (Nat.le_of_ble_eq_true rfl) (lo' := [(4, .int (a4 + 1)), (0, .ref (adr x a0)), (1, .int a1), (2, .int a2), (3, .int a3)]) rfl ?_
        refine g_goto (pc := 49) C dX9_fits_49 (tgt := 3) rfl ?_
        refine g_sub [1, 2, 3, 4, 0] rfl ?_
        exact ih _ _ _ _ _ _ h
      · replace h := h.2 z5
        refine g_iload_n (pc := 24) C dX9_fits_24 (q := 1) rfl ?_
        refine g_iload_n (pc := 25) C dX9_fits_25 (q := 2) rfl ?_
        refine g_iload_n (pc := 26) C dX9_fits_26 (q := 3) rfl ?_
        refine g_iload (pc := 27) C dX9_fits_27 (q := 4) rfl ?_
        refine miX9_43 (pc := 29) C h (Nat.le_of_ble_eq_true rfl) (Nat.le_of_ble_eq_true rfl) ⟨Nat.le_refl _, Nat.le_refl _⟩ dX9_fits_29 (fun r6 w7 h => ?_)
        refine g_aload_n (pc := 32) C dX9_fits_32 (q := 0) rfl ?_
        obtain ⟨k8, h⟩ := h
        refine gfX9_18 (pc := 33) C k8 dX9_fits_33 ?_
        refine g_iload (pc := 36) C dX9_fits_36 (q := 4) rfl ?_
        refine miX9_39 (pc := 38) C h (Nat.le_of_ble_eq_true rfl) (Nat.le_of_ble_eq_true rfl) ⟨Nat.le_refl _, Nat.le_refl _⟩ dX9_fits_38 (fun r9 w10 h => ?_)
        refine g_icmp_eq (pc := 41) C dX9_fits_41 (tgt := 46) rfl (fun z11 => ?_) (fun z11 => ?_)
        · replace h := h.1 z11
          refine g_iinc (pc := 46) C dX9_fits_46 (q := 4) rfl (v2 := a4 + 1) rfl (Nat.le_of_ble_eq_true rfl) (lo' := [(4, .int (a4 + 1)), (0, .ref (adr x a0)), (1, .int a1), (2, .int a2), (3, .int a3)]) rfl ?_
          refine g_goto (pc := 49) C dX9_fits_49 (tgt := 3) rfl ?_
          refine g_sub [1, 2, 3, 4, 0] rfl ?_
          exact ih _ _ _ _ _ _ h
        · replace h := h.2 z11
          refine g_iconst (pc := 44) C dX9_fits_44 (v := 0) rfl ?_
          exact g_zret (pc := 45) C hlk hr (Nat.le_refl _) (Nat.le_refl _) dX9_fits_45 (Or.inl rfl) h
theorem c_X9_fits {x : xG} {l : Launch} {a0 : Nat} {a1 : Int32} {a2 : Int32} {a3 : Int32} {K : Int32 → Wd → Prop} {w : Wd} (h : w_X9_fits a0 a1 a2 a3 K w) : Met l yX9_fits (xws yX9_fits cX9_fits 5 (some .boolean)) (rmd 1 0 0) (xPc x [.ref (adr x a0), .int a1, .int a2, .int a3] w) (QcI x K) 0 0 (xA x) := by
  refine xMet (by decide) (Nat.le_of_ble_eq_true rfl) (fun p e s m below meth c C hlk hr _ => ?_)
  show GW x p l e (rmd 1 0 0) s m [.ref (adr x a0), .int a1, .int a2, .int a3].toArray below meth c 5 (QI x K below [.ref (adr x a0), .int a1, .int a2, .int a3].toArray s 0 0) 0 [(0, .ref (adr x a0)), (1, .int a1), (2, .int a2), (3, .int a3)] [] w 0 0
  refine g_iconst (pc := 0) C dX9_fits_0 (v := 0) rfl ?_
  refine g_istore (pc := 1) C dX9_fits_1 (Nat.le_of_ble_eq_true rfl) (lo' := [(4, .int 0), (0, .ref (adr x a0)), (1, .int a1), (2, .int a2), (3, .int a3)]) rfl ?_
  obtain ⟨n12, h⟩ := h
  refine g_sub [1, 2, 3, 4, 0] rfl ?_
  refine t_X9_fits_3 C hlk hr n12 _ _ _ _ _ _ h
theorem miX9_60 (C : xC x p s m c cc nL args RX9) {a0 : Nat} {a1 : Int32} {a2 : Int32} {a3 : Int32} {K : Int32 → Wd → Prop} {D MC MS : Nat} (hq : isK w a0 9) (h : w_X9_fits a0 a1 a2 a3 K w) (hD : 1 + 1 ≤ D) (hW : (st.map fun v => v.category).sum ≤ 8) (hij : i ≤ MC ∧ j ≤ MS) (hd : decode cc pc = .ok (.invokevirtual 60, 3)) (k : ∀ (r : Int32) (u : Wd), K r u → GW x p l e (rmd D MC MS) s m args below meth c nL Q (pc + 3) lo (.int r :: st) u i j) : GW x p l e (rmd D MC MS) s m args below meth c nL Q pc lo (.int a3 :: .int a2 :: .int a1 :: .ref (adr x a0) :: st) w i j := g_callVi0 C (As := [.int a1, .int a2, .int a3]) (ci := 9) (c_X9_fits h) (x_cwV C 3 LMX9_60 ⟨rfl, by decide, by decide, rfl⟩ hD (by decide)) rfl hq (by decide) rfl rfl hW hd hij k
def l_X9_findFitting_22 (E93 : Nat → Int32 → Int32 → Wd → Prop) (K : Wd → Prop) : Nat → Nat → Int32 → Int32 → Int32 → Wd → Prop
  | 0, _, _, _, _, _ => False
  | n + 1, a0, a1, a2, a3, w => ((a1 ≤ a3 → E93 a0 a1 a2 w) ∧ (¬ a1 ≤ a3 → isK w a0 9 ∧ w_X9_fits a0 a1 a2 a3 (fun r6 w7 => ((r6 = 0 → l_X9_findFitting_22 E93 K n a0 a1 a2 (a3 + 1) w7) ∧ (¬ r6 = 0 → isK w7 a0 9 ∧ (((wI w7 a0 3) < 0 → l_X9_findFitting_22 E93 K n a0 a1 a2 (a3 + 1) w7) ∧ (¬ (wI w7 a0 3) < 0 → isK w7 (wR w7 a0 4) 20 ∧ (((Int32.ofNat (wn w7 (wR w7 a0 4))) ≤ (wI w7 a0 3) → l_X9_findFitting_22 E93 K n a0 a1 a2 (a3 + 1) w7) ∧ (¬ (Int32.ofNat (wn w7 (wR w7 a0 4))) ≤ (wI w7 a0 3) → vp_in (wI w7 a0 3) (wn w7 (wR w7 a0 4)) ∧ l_X9_findFitting_22 E93 K n a0 a1 a2 (a3 + 1) (uI (uI w7 (wR w7 a0 4) (wI w7 a0 3).toNatClampNeg (((10000 * a1) + (100 * a2)) + a3)) a0 3 ((wI (uI w7 (wR w7 a0 4) (wI w7 a0 3).toNatClampNeg (((10000 * a1) + (100 * a2)) + a3)) a0 3) + 1))))))))) w))
def l_X9_findFitting_15 (E99 : Nat → Int32 → Wd → Prop) (K : Wd → Prop) : Nat → Nat → Int32 → Int32 → Wd → Prop
  | 0, _, _, _, _ => False
  | n + 1, a0, a1, a2, w => ((a1 < a2 → E99 a0 a1 w) ∧ (¬ a1 < a2 → ∃ n18, l_X9_findFitting_22 (fun b14 b15 b16 w17 => l_X9_findFitting_15 E99 K n b14 b15 (b16 + 1) w17) K n18 a0 a1 a2 0 w))
def l_X9_findFitting_7  (K : Wd → Prop) : Nat → Nat → Int32 → Wd → Prop
  | 0, _, _, _ => False
  | n + 1, a0, a1, w => ((12 < a1 → K w) ∧ (¬ 12 < a1 → ∃ n22, l_X9_findFitting_15 (fun b19 b20 w21 => l_X9_findFitting_7 K n b19 (b20 + 1) w21) K n22 a0 a1 1 w))
def w_X9_findFitting (a0 : Nat) (K : Wd → Prop) (w : Wd) : Prop :=
  isK w a0 9 ∧ ∃ n23, l_X9_findFitting_7  K n23 a0 2 (uI w a0 3 0)
theorem t_X9_findFitting_22 (C : xC x p s m c cX9_findFitting 4 args RX9) (hlk : meth.locks = false) (hr : meth.sig.returnType = none) {K : Wd → Prop} {E93 : Nat → Int32 → Int32 → Wd → Prop} (hE93 : ∀ (b0 : Nat) (b1 : Int32) (b2 : Int32) (w : Wd), E93 b0 b1 b2 w → GW x p l e (rmd 2 0 0) s m args below meth c 4 (QV x K below args s 0 0) 93 [(0, .ref (adr x b0)), (1, .int b1), (2, .int b2)] [] w 0 0) : ∀ (n : Nat) (a0 : Nat) (a1 : Int32) (a2 : Int32) (a3 : Int32) (w : Wd), l_X9_findFitting_22 E93 K n a0 a1 a2 a3 w → GW x p l e (rmd 2 0 0) s m args below meth c 4 (QV x K below args s 0 0) 22 [(0, .ref (adr x a0)), (1, .int a1), (2, .int a2), (3, .int a3)] [] w 0 0 := by
  intro n
  induction n with
  | zero => intro _ _ _ _ _ h; exact False.elim h
  | succ n ih =>
    intro a0 a1 a2 a3 w h
    refine g_iload_n (pc := 22) C dX9_findFitting_22 (q := 3) rfl ?_
    refine g_iload_n (pc := 23) C dX9_findFitting_23 (q := 1) rfl ?_
    refine g_icmp_ge (pc := 24) C dX9_findFitting_24 (tgt := 93) rfl (fun z4 => ?_) (fun z4 => ?_)
    · replace h := h.1 z4
      refine g_sub [0, 1, 2] rfl ?_
      exact hE93 _ _ _ _ h
    · replace h := h.2 z4
      refine g_aload_n (pc := 27) C dX9_findFitting_27 (q := 0) rfl ?_
      refine g_iload_n (pc := 28) C dX9_findFitting_28 (q := 1) rfl ?_
      refine g_iload_n (pc := 29) C dX9_findFitting_29 (q := 2) rfl ?_
      refine g_iload_n (pc := 30) C dX9_findFitting_30 (q := 3) rfl ?_
      obtain ⟨k5, h⟩ := h
      refine miX9_60 (pc := 31) C k5 h (Nat.le_of_ble_eq_true rfl) (Nat.le_of_ble_eq_true rfl) ⟨Nat.le_refl _, Nat.le_refl _⟩ dX9_findFitting_31 (fun r6 w7 h => ?_)
      refine g_if_eq (pc := 34) C dX9_findFitting_34 (tgt := 87) rfl (fun z8 => ?_) (fun z8 => ?_)
      · replace h := h.1 z8
        refine g_iinc (pc := 87) C dX9_findFitting_87 (q := 3) rfl (v2 := a3 + 1) rfl (Nat.le_of_ble_eq_true rfl) (lo' := [(3, .int (a3 + 1)), (0, .ref (adr x a0)), (1, .int a1), (2, .int a2)]) rfl ?_
        refine g_goto (pc := 90) C dX9_findFitting_90 (tgt := 22) rfl ?_
        refine g_sub [1, 2, 3, 0] rfl ?_
        exact ih _ _ _ _ _ h
      · replace h := h.2 z8
        refine g_aload_n (pc := 37) C dX9_findFitting_37 (q := 0) rfl ?_
        obtain ⟨k9, h⟩ := h
        refine gfX9_21 (pc := 38) C k9 dX9_findFitting_38 ?_
        refine g_if_lt (pc := 41) C dX9_findFitting_41 (tgt := 87) rfl (fun z10 => ?_) (fun z10 => ?_)
        · replace h := h.1 z10
          refine g_iinc (pc := 87) C dX9_findFitting_87 (q := 3) rfl (v2 := a3 + 1) rfl (Nat.le_of_ble_eq_true rfl) (lo' := [(3, .int (a3 + 1)), (0, .ref (adr x a0)), (1, .int a1), (2, .int a2)]) rfl ?_
          refine g_goto (pc := 90) C dX9_findFitting_90 (tgt := 22) rfl ?_
          refine g_sub [1, 2, 3, 0] rfl ?_
          exact ih _ _ _ _ _ h
        · replace h := h.2 z10
          refine g_aload_n (pc := 44) C dX9_findFitting_44 (q := 0) rfl ?_
          refine gfX9_21 (pc := 45) C k9 dX9_findFitting_45 ?_
          refine g_aload_n (pc := 48) C dX9_findFitting_48 (q := 0) rfl ?_
          obtain ⟨k11, h⟩ := h
          refine gfX9_24 (pc := 49) C k9 (isK_ne k11) dX9_findFitting_49 ?_
          refine g_alen (pc := 52) C k11 (by decide) dX9_findFitting_52 ?_
          refine g_icmp_ge (pc := 53) C dX9_findFitting_53 (tgt := 87) rfl (fun z12 => ?_) (fun z12 => ?_)
          · replace h := h.1 z12
            refine g_iinc (pc := 87) C dX9_findFitting_87 (q := 3) rfl (v2 := a3 + 1) rfl (Nat.le_of_ble_eq_true rfl) (lo' := [(3, .int (a3 + 1)), (0, .ref (adr x a0)), (1, .int a1), (2, .int a2)]) rfl ?_
            refine g_goto (pc := 90) C dX9_findFitting_90 (tgt := 22) rfl ?_
            refine g_sub [1, 2, 3, 0] rfl ?_
            exact ih _ _ _ _ _ h
          · replace h := h.2 z12
            refine g_aload_n (pc := 56) C dX9_findFitting_56 (q := 0) rfl ?_
            refine gfX9_24 (pc := 57) C k9 (isK_ne k11) dX9_findFitting_57 ?_
            refine g_aload_n (pc := 60) C dX9_findFitting_60 (q := 0) rfl ?_
            refine gfX9_21 (pc := 61) C k9 dX9_findFitting_61 ?_
            refine g_sipush (pc := 64) C dX9_findFitting_64 (v := 10000) rfl ?_
            refine g_iload_n (pc := 67) C dX9_findFitting_67 (q := 1) rfl ?_
            refine g_imul (pc := 68) C dX9_findFitting_68 ?_
            refine g_bipush (pc := 69) C dX9_findFitting_69 (v := 100) rfl ?_
            refine g_iload_n (pc := 71) C dX9_findFitting_71 (q := 2) rfl ?_
            refine g_imul (pc := 72) C dX9_findFitting_72 ?_
            refine g_iadd (pc := 73) C dX9_findFitting_73 ?_
            refine g_iload_n (pc := 74) C dX9_findFitting_74 (q := 3) rfl ?_
            refine g_iadd (pc := 75) C dX9_findFitting_75 ?_
            obtain ⟨k13, h⟩ := h
            refine g_iast (pc := 76) C k11 k13 dX9_findFitting_76 ?_
            refine g_aload_n (pc := 77) C dX9_findFitting_77 (q := 0) rfl ?_
            refine g_dup (pc := 78) C dX9_findFitting_78 rfl ?_
            refine gfX9_21 (pc := 79) (w := uI w7 (wR w7 a0 4) (wI w7 a0 3).toNatClampNeg (((10000 * a1) + (100 * a2)) + a3)) C k9 dX9_findFitting_79 ?_
            refine g_iconst (pc := 82) C dX9_findFitting_82 (v := 1) rfl ?_
            refine g_iadd (pc := 83) C dX9_findFitting_83 ?_
            refine pfX9_21 (pc := 84) (w := uI w7 (wR w7 a0 4) (wI w7 a0 3).toNatClampNeg (((10000 * a1) + (100 * a2)) + a3)) C k9 dX9_findFitting_84 ?_
            refine g_iinc (pc := 87) C dX9_findFitting_87 (q := 3) rfl (v2 := a3 + 1) rfl (Nat.le_of_ble_eq_true rfl) (lo' := [(3, .int (a3 + 1)), (0, .ref (adr x a0)), (1, .int a1), (2, .int a2)]) rfl ?_
            refine g_goto (pc := 90) C dX9_findFitting_90 (tgt := 22) rfl ?_
            refine g_sub [1, 2, 3, 0] rfl ?_
            exact ih _ _ _ _ _ h
theorem t_X9_findFitting_15 (C : xC x p s m c cX9_findFitting 4 args RX9) (hlk : meth.locks = false) (hr : meth.sig.returnType = none) {K : Wd → Prop} {E99 : Nat → Int32 → Wd → Prop} (hE99 : ∀ (b0 : Nat) (b1 : Int32) (w : Wd), E99 b0 b1 w → GW x p l e (rmd 2 0 0) s m args below meth c 4 (QV x K below args s 0 0) 99 [(0, .ref (adr x b0)), (1, .int b1)] [] w 0 0) : ∀ (n : Nat) (a0 : Nat) (a1 : Int32) (a2 : Int32) (w : Wd), l_X9_findFitting_15 E99 K n a0 a1 a2 w → GW x p l e (rmd 2 0 0) s m args below meth c 4 (QV x K below args s 0 0) 15 [(0, .ref (adr x a0)), (1, .int a1), (2, .int a2)] [] w 0 0 := by
  intro n
  induction n with
  | zero => intro _ _ _ _ h; exact False.elim h
  | succ n ih =>
    intro a0 a1 a2 w h
    refine g_iload_n (pc := 15) C dX9_findFitting_15 (q := 2) rfl ?_
    refine g_iload_n (pc := 16) C dX9_findFitting_16 (q := 1) rfl ?_
    refine g_icmp_gt (pc := 17) C dX9_findFitting_17 (tgt := 99) rfl (fun z3 => ?_) (fun z3 => ?_)
    · replace h := h.1 z3
      refine g_sub [0, 1] rfl ?_
      exact hE99 _ _ _ h
    · replace h := h.2 z3
      refine g_iconst (pc := 20) C dX9_findFitting_20 (v := 0) rfl ?_
      refine g_istore_n (pc := 21) C dX9_findFitting_21 (Nat.le_of_ble_eq_true rfl) (lo' := [(3, .int 0), (0, .ref (adr x a0)), (1, .int a1), (2, .int a2)]) rfl ?_
      obtain ⟨n18, h⟩ := h
      refine g_sub [1, 2, 3, 0] rfl ?_
      refine t_X9_findFitting_22 C hlk hr ?_ n18 _ _ _ _ _ h
      · intro b14 b15 b16 w17 h
        refine g_iinc (pc := 93) C dX9_findFitting_93 (q := 2) rfl (v2 := b16 + 1) rfl (Nat.le_of_ble_eq_true rfl) (lo' := [(2, .int (b16 + 1)), (0, .ref (adr x b14)), (1, .int b15)]) rfl ?_
        refine g_goto (pc := 96) C dX9_findFitting_96 (tgt := 15) rfl ?_
        refine g_sub [1, 2, 0] rfl ?_
        exact ih _ _ _ _ h
theorem t_X9_findFitting_7 (C : xC x p s m c cX9_findFitting 4 args RX9) (hlk : meth.locks = false) (hr : meth.sig.returnType = none) {K : Wd → Prop}   : ∀ (n : Nat) (a0 : Nat) (a1 : Int32) (w : Wd), l_X9_findFitting_7 K n a0 a1 w → GW x p l e (rmd 2 0 0) s m args below meth c 4 (QV x K below args s 0 0) 7 [(0, .ref (adr x a0)), (1, .int a1)] [] w 0 0 := by
  intro n
  induction n with
  | zero => intro _ _ _ h; exact False.elim h
  | succ n ih =>
    intro a0 a1 w h
    refine g_iload_n (pc := 7) C dX9_findFitting_7 (q := 1) rfl ?_
    refine g_bipush (pc := 8) C dX9_findFitting_8 (v := 12) rfl ?_
    refine g_icmp_gt (pc := 10) C dX9_findFitting_10 (tgt := 105) rfl (fun z2 => ?_) (fun z2 => ?_)
    · replace h := h.1 z2
      exact g_vret (pc := 105) C hlk hr (Nat.le_refl _) (Nat.le_refl _) dX9_findFitting_105 h
    · replace h := h.2 z2
      refine g_iconst (pc := 13) C dX9_findFitting_13 (v := 1) rfl ?_
      refine g_istore_n (pc := 14) C dX9_findFitting_14 (Nat.le_of_ble_eq_true rfl) (lo' := [(2, .int 1), (0, .ref (adr x a0)), (1, .int a1)]) rfl ?_
      obtain ⟨n22, h⟩ := h
      refine g_sub [1, 2, 0] rfl ?_
      refine t_X9_findFitting_15 C hlk hr ?_ n22 _ _ _ _ h
      · intro b19 b20 w21 h
        refine g_iinc (pc := 99) C dX9_findFitting_99 (q := 1) rfl (v2 := b20 + 1) rfl (Nat.le_of_ble_eq_true rfl) (lo' := [(1, .int (b20 + 1)), (0, .ref (adr x b19))]) rfl ?_
        refine g_goto (pc := 102) C dX9_findFitting_102 (tgt := 7) rfl ?_
        refine g_sub [1, 0] rfl ?_
        exact ih _ _ _ h
theorem c_X9_findFitting {x : xG} {l : Launch} {a0 : Nat} {K : Wd → Prop} {w : Wd} (h : w_X9_findFitting a0 K w) : Met l yX9_findFitting (xws yX9_findFitting cX9_findFitting 4 none) (rmd 2 0 0) (xPc x [.ref (adr x a0)] w) (QcV x K) 0 0 (xA x) := by
  refine xMet (by decide) (Nat.le_of_ble_eq_true rfl) (fun p e s m below meth c C hlk hr _ => ?_)
  show GW x p l e (rmd 2 0 0) s m [.ref (adr x a0)].toArray below meth c 4 (QV x K below [.ref (adr x a0)].toArray s 0 0) 0 [(0, .ref (adr x a0))] [] w 0 0
  refine g_aload_n (pc := 0) C dX9_findFitting_0 (q := 0) rfl ?_
  refine g_iconst (pc := 1) C dX9_findFitting_1 (v := 0) rfl ?_
  obtain ⟨k1, h⟩ := h
  refine pfX9_21 (pc := 2) C k1 dX9_findFitting_2 ?_
  refine g_iconst (pc := 5) C dX9_findFitting_5 (v := 2) rfl ?_
  refine g_istore_n (pc := 6) C dX9_findFitting_6 (Nat.le_of_ble_eq_true rfl) (lo' := [(1, .int 2), (0, .ref (adr x a0))]) rfl ?_
  obtain ⟨n23, h⟩ := h
  refine g_sub [1, 0] rfl ?_
  refine t_X9_findFitting_7 C hlk hr n23 _ _ _ h
theorem miX9_47 (C : xC x p s m c cc nL args RX9) {a0 : Nat} {K : Wd → Prop} {D MC MS : Nat} (hq : isK w a0 9) (h : w_X9_findFitting a0 K w) (hD : 2 + 1 ≤ D) (hW : (st.map fun v => v.category).sum ≤ 8) (hij : i ≤ MC ∧ j ≤ MS) (hd : decode cc pc = .ok (.invokevirtual 47, 3)) (k : ∀ (u : Wd), K u → GW x p l e (rmd D MC MS) s m args below meth c nL Q (pc + 3) lo st u i j) : GW x p l e (rmd D MC MS) s m args below meth c nL Q pc lo (.ref (adr x a0) :: st) w i j := g_callVv0 C (As := []) (ci := 9) (c_X9_findFitting h) (x_cwV C 0 LMX9_47 ⟨rfl, by decide, by decide, rfl⟩ hD (by decide)) rfl hq (by decide) rfl rfl hW hd hij k
def w_X9_fitAt (a0 : Nat) (a1 : Int32) (K : Int32 → Wd → Prop) (w : Wd) : Prop :=
  isK w a0 9 ∧ w_X9_findFitting a0 (fun w2 => ((a1 < 0 → K (-1) w2) ∧ (¬ a1 < 0 → isK w2 a0 9 ∧ (((wI w2 a0 3) ≤ a1 → K (-1) w2) ∧ (¬ (wI w2 a0 3) ≤ a1 → isK w2 (wR w2 a0 4) 20 ∧ (((Int32.ofNat (wn w2 (wR w2 a0 4))) ≤ a1 → K (-1) w2) ∧ (¬ (Int32.ofNat (wn w2 (wR w2 a0 4))) ≤ a1 → vp_in a1 (wn w2 (wR w2 a0 4)) ∧ K (wI w2 (wR w2 a0 4) a1.toNatClampNeg) w2))))))) w
theorem c_X9_fitAt {x : xG} {l : Launch} {a0 : Nat} {a1 : Int32} {K : Int32 → Wd → Prop} {w : Wd} (h : w_X9_fitAt a0 a1 K w) : Met l yX9_fitAt (xws yX9_fitAt cX9_fitAt 2 (some .int)) (rmd 3 0 0) (xPc x [.ref (adr x a0), .int a1] w) (QcI x K) 0 0 (xA x) := by
  refine xMet (by decide) (Nat.le_of_ble_eq_true rfl) (fun p e s m below meth c C hlk hr _ => ?_)
  show GW x p l e (rmd 3 0 0) s m [.ref (adr x a0), .int a1].toArray below meth c 2 (QI x K below [.ref (adr x a0), .int a1].toArray s 0 0) 0 [(0, .ref (adr x a0)), (1, .int a1)] [] w 0 0
  refine g_aload_n (pc := 0) C dX9_fitAt_0 (q := 0) rfl ?_
  obtain ⟨k1, h⟩ := h
  refine miX9_47 (pc := 1) C k1 h (Nat.le_of_ble_eq_true rfl) (Nat.le_of_ble_eq_true rfl) ⟨Nat.le_refl _, Nat.le_refl _⟩ dX9_fitAt_1 (fun w2 h => ?_)
  refine g_iload_n (pc := 4) C dX9_fitAt_4 (q := 1) rfl ?_
  refine g_if_lt (pc := 5) C dX9_fitAt_5 (tgt := 34) rfl (fun z3 => ?_) (fun z3 => ?_)
  · replace h := h.1 z3
    refine g_iconst (pc := 34) C dX9_fitAt_34 (v := (-1)) rfl ?_
    exact g_iret (pc := 35) C hlk hr (Nat.le_refl _) (Nat.le_refl _) dX9_fitAt_35 h
  · replace h := h.2 z3
    refine g_iload_n (pc := 8) C dX9_fitAt_8 (q := 1) rfl ?_
    refine g_aload_n (pc := 9) C dX9_fitAt_9 (q := 0) rfl ?_
    obtain ⟨k4, h⟩ := h
    refine gfX9_21 (pc := 10) C k4 dX9_fitAt_10 ?_
    refine g_icmp_ge (pc := 13) C dX9_fitAt_13 (tgt := 34) rfl (fun z5 => ?_) (fun z5 => ?_)
    · replace h := h.1 z5
      refine g_iconst (pc := 34) C dX9_fitAt_34 (v := (-1)) rfl ?_
      exact g_iret (pc := 35) C hlk hr (Nat.le_refl _) (Nat.le_refl _) dX9_fitAt_35 h
    · replace h := h.2 z5
      refine g_iload_n (pc := 16) C dX9_fitAt_16 (q := 1) rfl ?_
      refine g_aload_n (pc := 17) C dX9_fitAt_17 (q := 0) rfl ?_
      obtain ⟨k6, h⟩ := h
      refine gfX9_24 (pc := 18) C k4 (isK_ne k6) dX9_fitAt_18 ?_
      refine g_alen (pc := 21) C k6 (by decide) dX9_fitAt_21 ?_
      refine g_icmp_ge (pc := 22) C dX9_fitAt_22 (tgt := 34) rfl (fun z7 => ?_) (fun z7 => ?_)
      · replace h := h.1 z7
        refine g_iconst (pc := 34) C dX9_fitAt_34 (v := (-1)) rfl ?_
        exact g_iret (pc := 35) C hlk hr (Nat.le_refl _) (Nat.le_refl _) dX9_fitAt_35 h
      · replace h := h.2 z7
        refine g_aload_n (pc := 25) C dX9_fitAt_25 (q := 0) rfl ?_
        refine gfX9_24 (pc := 26) C k4 (isK_ne k6) dX9_fitAt_26 ?_
        refine g_iload_n (pc := 29) C dX9_fitAt_29 (q := 1) rfl ?_
        obtain ⟨k8, h⟩ := h
        refine g_iald (pc := 30) C k6 k8 dX9_fitAt_30 ?_
        refine g_goto (pc := 31) C dX9_fitAt_31 (tgt := 35) rfl ?_
        exact g_iret (pc := 35) C hlk hr (Nat.le_refl _) (Nat.le_refl _) dX9_fitAt_35 h
def j_X9_hear_58 (B : Nat → Nat → Int32 → Wd → Prop)  (K : Wd → Prop) (a0 : Nat) (a1 : Nat) (a2 : Int32) (w : Wd) : Prop :=
  isK w a1 10 ∧ w_X10_numberAt a1 a2 (fun r10 w11 => (((lg_cmp r10 1) = 0 → isK w11 a0 9 ∧ B a0 a1 (a2 + 1) (uI w11 a0 2 ((wI w11 a0 2) ||| (x_ishl 1 a2)))) ∧ (¬ (lg_cmp r10 1) = 0 → B a0 a1 (a2 + 1) w11))) w
def l_X9_hear_20  (K : Wd → Prop) : Nat → Nat → Nat → Int32 → Wd → Prop
  | 0, _, _, _, _ => False
  | n + 1, a0, a1, a2, w => ((24 ≤ a2 → K w) ∧ (¬ 24 ≤ a2 → isK w a1 10 ∧ (((wI w a1 1) ≤ a2 → K w) ∧ (¬ (wI w a1 1) ≤ a2 → w_X10_numberAt a1 a2 (fun r6 w7 => (((lg_cmp r6 (-1)) = 0 → j_X9_hear_58 (l_X9_hear_20 K n) K a0 a1 a2 w7) ∧ (¬ (lg_cmp r6 (-1)) = 0 → isK w7 a0 9 ∧ j_X9_hear_58 (l_X9_hear_20 K n) K a0 a1 a2 (uI w7 a0 1 ((wI w7 a0 1) ||| (x_ishl 1 a2)))))) w))))
def w_X9_hear (a0 : Nat) (a1 : Nat) (K : Wd → Prop) (w : Wd) : Prop :=
  isK w a1 10 ∧ isK w a0 9 ∧ ∃ n15, l_X9_hear_20  K n15 a0 a1 0 (uI (uI (uI w a0 0 (wI w a1 1)) a0 1 0) a0 2 0)
theorem t_X9_hear_58 (C : xC x p s m c cX9_hear 3 args RX9) (hlk : meth.locks = false) (hr : meth.sig.returnType = none) {K : Wd → Prop} {B : Nat → Nat → Int32 → Wd → Prop}  (hB : ∀ (b0 : Nat) (b1 : Nat) (b2 : Int32) (w : Wd), B b0 b1 b2 w → GW x p l e (rmd 1 0 0) s m args below meth c 3 (QV x K below args s 0 0) 20 [(0, .ref (adr x b0)), (1, .ref (adr x b1)), (2, .int b2)] [] w 0 0)  (a0 : Nat) (a1 : Nat) (a2 : Int32) (w : Wd) (h : j_X9_hear_58 B K a0 a1 a2 w) : GW x p l e (rmd 1 0 0) s m args below meth c 3 (QV x K below args s 0 0) 58 [(0, .ref (adr x a0)), (1, .ref (adr x a1)), (2, .int a2)] [] w 0 0 := by
  refine g_aload_n (pc := 58) C dX9_hear_58 (q := 1) rfl ?_
  refine g_iload_n (pc := 59) C dX9_hear_59 (q := 2) rfl ?_
  obtain ⟨k9, h⟩ := h
  refine miX9_33 (pc := 60) C k9 h (Nat.le_of_ble_eq_true rfl) (Nat.le_of_ble_eq_true rfl) ⟨Nat.le_refl _, Nat.le_refl _⟩ dX9_hear_60 (fun r10 w11 h => ?_)
  refine g_lconst (pc := 63) C dX9_hear_63 (v := 1) rfl ?_
  refine g_lcmp (pc := 64) C dX9_hear_64 ?_
  refine g_if_ne (pc := 65) C dX9_hear_65 (tgt := 80) rfl (fun z12 => ?_) (fun z12 => ?_)
  · replace h := h.2 z12
    refine g_iinc (pc := 80) C dX9_hear_80 (q := 2) rfl (v2 := a2 + 1) rfl (Nat.le_of_ble_eq_true rfl) (lo' := [(2, .int (a2 + 1)), (0, .ref (adr x a0)), (1, .ref (adr x a1))]) rfl ?_
    refine g_goto (pc := 83) C dX9_hear_83 (tgt := 20) rfl ?_
    refine g_sub [1, 2, 0] rfl ?_
    exact hB _ _ _ _ h
  · replace h := h.1 z12
    refine g_aload_n (pc := 68) C dX9_hear_68 (q := 0) rfl ?_
    refine g_dup (pc := 69) C dX9_hear_69 rfl ?_
    obtain ⟨k13, h⟩ := h
    refine gfX9_18 (pc := 70) C k13 dX9_hear_70 ?_
    refine g_iconst (pc := 73) C dX9_hear_73 (v := 1) rfl ?_
    refine g_iload_n (pc := 74) C dX9_hear_74 (q := 2) rfl ?_
    refine h_ishl (pc := 75) C dX9_hear_75 ?_
    refine g_ior (pc := 76) C dX9_hear_76 ?_
    refine pfX9_18 (pc := 77) C k13 dX9_hear_77 ?_
    refine g_iinc (pc := 80) C dX9_hear_80 (q := 2) rfl (v2 := a2 + 1) rfl (Nat.le_of_ble_eq_true rfl) (lo' := [(2, .int (a2 + 1)), (0, .ref (adr x a0)), (1, .ref (adr x a1))]) rfl ?_
    refine g_goto (pc := 83) C dX9_hear_83 (tgt := 20) rfl ?_
    refine g_sub [1, 2, 0] rfl ?_
    exact hB _ _ _ _ h
theorem t_X9_hear_20 (C : xC x p s m c cX9_hear 3 args RX9) (hlk : meth.locks = false) (hr : meth.sig.returnType = none) {K : Wd → Prop}   : ∀ (n : Nat) (a0 : Nat) (a1 : Nat) (a2 : Int32) (w : Wd), l_X9_hear_20 K n a0 a1 a2 w → GW x p l e (rmd 1 0 0) s m args below meth c 3 (QV x K below args s 0 0) 20 [(0, .ref (adr x a0)), (1, .ref (adr x a1)), (2, .int a2)] [] w 0 0 := by
  intro n
  induction n with
  | zero => intro _ _ _ _ h; exact False.elim h
  | succ n ih =>
    intro a0 a1 a2 w h
    refine g_iload_n (pc := 20) C dX9_hear_20 (q := 2) rfl ?_
    refine g_bipush (pc := 21) C dX9_hear_21 (v := 24) rfl ?_
    refine g_icmp_ge (pc := 23) C dX9_hear_23 (tgt := 86) rfl (fun z3 => ?_) (fun z3 => ?_)
    · replace h := h.1 z3
      exact g_vret (pc := 86) C hlk hr (Nat.le_refl _) (Nat.le_refl _) dX9_hear_86 h
    · replace h := h.2 z3
      refine g_iload_n (pc := 26) C dX9_hear_26 (q := 2) rfl ?_
      refine g_aload_n (pc := 27) C dX9_hear_27 (q := 1) rfl ?_
      obtain ⟨k4, h⟩ := h
      refine gfX9_28 (pc := 28) C k4 dX9_hear_28 ?_
      refine g_icmp_ge (pc := 31) C dX9_hear_31 (tgt := 86) rfl (fun z5 => ?_) (fun z5 => ?_)
      · replace h := h.1 z5
        exact g_vret (pc := 86) C hlk hr (Nat.le_refl _) (Nat.le_refl _) dX9_hear_86 h
      · replace h := h.2 z5
        refine g_aload_n (pc := 34) C dX9_hear_34 (q := 1) rfl ?_
        refine g_iload_n (pc := 35) C dX9_hear_35 (q := 2) rfl ?_
        refine miX9_33 (pc := 36) C k4 h (Nat.le_of_ble_eq_true rfl) (Nat.le_of_ble_eq_true rfl) ⟨Nat.le_refl _, Nat.le_refl _⟩ dX9_hear_36 (fun r6 w7 h => ?_)
        refine g_ldc2 (pc := 39) C LCX9_37 dX9_hear_39 ?_
        refine g_lcmp (pc := 42) C dX9_hear_42 ?_
        refine g_if_eq (pc := 43) C dX9_hear_43 (tgt := 58) rfl (fun z8 => ?_) (fun z8 => ?_)
        · replace h := h.1 z8
          exact t_X9_hear_58 C hlk hr ih _ _ _ _ h
        · replace h := h.2 z8
          refine g_aload_n (pc := 46) C dX9_hear_46 (q := 0) rfl ?_
          refine g_dup (pc := 47) C dX9_hear_47 rfl ?_
          obtain ⟨k14, h⟩ := h
          refine gfX9_15 (pc := 48) C k14 dX9_hear_48 ?_
          refine g_iconst (pc := 51) C dX9_hear_51 (v := 1) rfl ?_
          refine g_iload_n (pc := 52) C dX9_hear_52 (q := 2) rfl ?_
          refine h_ishl (pc := 53) C dX9_hear_53 ?_
          refine g_ior (pc := 54) C dX9_hear_54 ?_
          refine pfX9_15 (pc := 55) C k14 dX9_hear_55 ?_
          exact t_X9_hear_58 C hlk hr ih _ _ _ _ h
theorem c_X9_hear {x : xG} {l : Launch} {a0 : Nat} {a1 : Nat} {K : Wd → Prop} {w : Wd} (h : w_X9_hear a0 a1 K w) : Met l yX9_hear (xws yX9_hear cX9_hear 3 none) (rmd 1 0 0) (xPc x [.ref (adr x a0), .ref (adr x a1)] w) (QcV x K) 0 0 (xA x) := by
  refine xMet (by decide) (Nat.le_of_ble_eq_true rfl) (fun p e s m below meth c C hlk hr _ => ?_)
  show GW x p l e (rmd 1 0 0) s m [.ref (adr x a0), .ref (adr x a1)].toArray below meth c 3 (QV x K below [.ref (adr x a0), .ref (adr x a1)].toArray s 0 0) 0 [(0, .ref (adr x a0)), (1, .ref (adr x a1))] [] w 0 0
  refine g_aload_n (pc := 0) C dX9_hear_0 (q := 0) rfl ?_
  refine g_aload_n (pc := 1) C dX9_hear_1 (q := 1) rfl ?_
  obtain ⟨k1, h⟩ := h
  refine gfX9_28 (pc := 2) C k1 dX9_hear_2 ?_
  obtain ⟨k2, h⟩ := h
  refine pfX9_9 (pc := 5) C k2 dX9_hear_5 ?_
  refine g_aload_n (pc := 8) C dX9_hear_8 (q := 0) rfl ?_
  refine g_iconst (pc := 9) C dX9_hear_9 (v := 0) rfl ?_
  refine pfX9_15 (pc := 10) (w := uI w a0 0 (wI w a1 1)) C k2 dX9_hear_10 ?_
  refine g_aload_n (pc := 13) C dX9_hear_13 (q := 0) rfl ?_
  refine g_iconst (pc := 14) C dX9_hear_14 (v := 0) rfl ?_
  refine pfX9_18 (pc := 15) (w := uI (uI w a0 0 (wI w a1 1)) a0 1 0) C k2 dX9_hear_15 ?_
  refine g_iconst (pc := 18) C dX9_hear_18 (v := 0) rfl ?_
  refine g_istore_n (pc := 19) C dX9_hear_19 (Nat.le_of_ble_eq_true rfl) (lo' := [(2, .int 0), (0, .ref (adr x a0)), (1, .ref (adr x a1))]) rfl ?_
  obtain ⟨n15, h⟩ := h
  refine g_sub [1, 2, 0] rfl ?_
  refine t_X9_hear_20 C hlk hr n15 _ _ _ _ h
def w_X9_howManyFit (a0 : Nat) (K : Int32 → Wd → Prop) (w : Wd) : Prop :=
  isK w a0 9 ∧ w_X9_findFitting a0 (fun w2 => isK w2 a0 9 ∧ K (wI w2 a0 3) w2) w
theorem c_X9_howManyFit {x : xG} {l : Launch} {a0 : Nat} {K : Int32 → Wd → Prop} {w : Wd} (h : w_X9_howManyFit a0 K w) : Met l yX9_howManyFit (xws yX9_howManyFit cX9_howManyFit 1 (some .int)) (rmd 3 0 0) (xPc x [.ref (adr x a0)] w) (QcI x K) 0 0 (xA x) := by
  refine xMet (by decide) (Nat.le_of_ble_eq_true rfl) (fun p e s m below meth c C hlk hr _ => ?_)
  show GW x p l e (rmd 3 0 0) s m [.ref (adr x a0)].toArray below meth c 1 (QI x K below [.ref (adr x a0)].toArray s 0 0) 0 [(0, .ref (adr x a0))] [] w 0 0
  refine g_aload_n (pc := 0) C dX9_howManyFit_0 (q := 0) rfl ?_
  obtain ⟨k1, h⟩ := h
  refine miX9_47 (pc := 1) C k1 h (Nat.le_of_ble_eq_true rfl) (Nat.le_of_ble_eq_true rfl) ⟨Nat.le_refl _, Nat.le_refl _⟩ dX9_howManyFit_1 (fun w2 h => ?_)
  refine g_aload_n (pc := 4) C dX9_howManyFit_4 (q := 0) rfl ?_
  obtain ⟨k3, h⟩ := h
  refine gfX9_21 (pc := 5) C k3 dX9_howManyFit_5 ?_
  exact g_iret (pc := 8) C hlk hr (Nat.le_refl _) (Nat.le_refl _) dX9_howManyFit_8 h
theorem miX9_50 (C : xC x p s m c cc nL args RX9) {a0 : Nat} {a1 : Int32} {K : Int32 → Wd → Prop} {D MC MS : Nat} (hq : isK w a0 9) (h : w_X9_awakeAmongFitting a0 a1 K w) (hD : 1 + 1 ≤ D) (hW : (st.map fun v => v.category).sum ≤ 8) (hij : i ≤ MC ∧ j ≤ MS) (hd : decode cc pc = .ok (.invokevirtual 50, 3)) (k : ∀ (r : Int32) (u : Wd), K r u → GW x p l e (rmd D MC MS) s m args below meth c nL Q (pc + 3) lo (.int r :: st) u i j) : GW x p l e (rmd D MC MS) s m args below meth c nL Q pc lo (.int a1 :: .ref (adr x a0) :: st) w i j := g_callVi0 C (As := [.int a1]) (ci := 9) (c_X9_awakeAmongFitting h) (x_cwV C 1 LMX9_50 ⟨rfl, by decide, by decide, rfl⟩ hD (by decide)) rfl hq (by decide) rfl rfl hW hd hij k
theorem miX9_54 (C : xC x p s m c cc nL args RX9) {a0 : Int32} {a1 : Int32} {K : Int32 → Wd → Prop} {D MC MS : Nat} (h : w_J9_min_7cf53 a0 a1 K w) (hD : 0 + 1 ≤ D) (hW : (st.map fun v => v.category).sum ≤ 8) (hij : i ≤ MC ∧ j ≤ MS) (hd : decode cc pc = .ok (.invokestatic 54, 3)) (k : ∀ (r : Int32) (u : Wd), K r u → GW x p l e (rmd D MC MS) s m args below meth c nL Q (pc + 3) lo (.int r :: st) u i j) : GW x p l e (rmd D MC MS) s m args below meth c nL Q pc lo (.int a1 :: .int a0 :: st) w i j := g_callSi0 C (As := [.int a0, .int a1]) (c_J9_min_7cf53 h) (x_cwS C 2 LMX9_54 ⟨by decide, by decide, rfl⟩ hD (by decide)) rfl rfl hW hd hij k
def l_X9_tellsMost_10  (K : Int32 → Wd → Prop) : Nat → Nat → Int32 → Int32 → Int32 → Wd → Prop
  | 0, _, _, _, _, _ => False
  | n + 1, a0, a1, a2, a3, w => ((24 ≤ a3 → K a1 w) ∧ (¬ 24 ≤ a3 → isK w a0 9 ∧ (((wI w a0 3) ≤ 0 → K a1 w) ∧ (¬ (wI w a0 3) ≤ 0 → w_X9_awakeAmongFitting a0 ((wI w a0 0) + a3) (fun r6 w7 => isK w7 a0 9 ∧ w_J9_min_7cf53 r6 ((wI w7 a0 3) - r6) (fun r9 w10 => ((r9 ≤ a2 → l_X9_tellsMost_10 K n a0 a1 a2 (a3 + 1) w10) ∧ (¬ r9 ≤ a2 → l_X9_tellsMost_10 K n a0 (a3 + 1) r9 (a3 + 1) w10))) w7) w))))
def w_X9_tellsMost (a0 : Nat) (K : Int32 → Wd → Prop) (w : Wd) : Prop :=
  isK w a0 9 ∧ w_X9_findFitting a0 (fun w2 => ∃ n12, l_X9_tellsMost_10  K n12 a0 (-1) (-1) 0 w2) w
theorem t_X9_tellsMost_10 (C : xC x p s m c cX9_tellsMost 6 args RX9) (hlk : meth.locks = false) (hr : meth.sig.returnType = some .int) {K : Int32 → Wd → Prop}   : ∀ (n : Nat) (a0 : Nat) (a1 : Int32) (a2 : Int32) (a3 : Int32) (w : Wd), l_X9_tellsMost_10 K n a0 a1 a2 a3 w → GW x p l e (rmd 3 0 0) s m args below meth c 6 (QI x K below args s 0 0) 10 [(0, .ref (adr x a0)), (1, .int a1), (2, .int a2), (3, .int a3)] [] w 0 0 := by
  intro n
  induction n with
  | zero => intro _ _ _ _ _ h; exact False.elim h
  | succ n ih =>
    intro a0 a1 a2 a3 w h
    refine g_iload_n (pc := 10) C dX9_tellsMost_10 (q := 3) rfl ?_
    refine g_bipush (pc := 11) C dX9_tellsMost_11 (v := 24) rfl ?_
    refine g_icmp_ge (pc := 13) C dX9_tellsMost_13 (tgt := 68) rfl (fun z3 => ?_) (fun z3 => ?_)
    · replace h := h.1 z3
      refine g_iload_n (pc := 68) C dX9_tellsMost_68 (q := 1) rfl ?_
      exact g_iret (pc := 69) C hlk hr (Nat.le_refl _) (Nat.le_refl _) dX9_tellsMost_69 h
    · replace h := h.2 z3
      refine g_aload_n (pc := 16) C dX9_tellsMost_16 (q := 0) rfl ?_
      obtain ⟨k4, h⟩ := h
      refine gfX9_21 (pc := 17) C k4 dX9_tellsMost_17 ?_
      refine g_if_le (pc := 20) C dX9_tellsMost_20 (tgt := 68) rfl (fun z5 => ?_) (fun z5 => ?_)
      · replace h := h.1 z5
        refine g_iload_n (pc := 68) C dX9_tellsMost_68 (q := 1) rfl ?_
        exact g_iret (pc := 69) C hlk hr (Nat.le_refl _) (Nat.le_refl _) dX9_tellsMost_69 h
      · replace h := h.2 z5
        refine g_aload_n (pc := 23) C dX9_tellsMost_23 (q := 0) rfl ?_
        refine g_aload_n (pc := 24) C dX9_tellsMost_24 (q := 0) rfl ?_
        refine gfX9_9 (pc := 25) C k4 dX9_tellsMost_25 ?_
        refine g_iload_n (pc := 28) C dX9_tellsMost_28 (q := 3) rfl ?_
        refine g_iadd (pc := 29) C dX9_tellsMost_29 ?_
        refine miX9_50 (pc := 30) C k4 h (Nat.le_of_ble_eq_true rfl) (Nat.le_of_ble_eq_true rfl) ⟨Nat.le_refl _, Nat.le_refl _⟩ dX9_tellsMost_30 (fun r6 w7 h => ?_)
        refine g_istore (pc := 33) C dX9_tellsMost_33 (Nat.le_of_ble_eq_true rfl) (lo' := [(4, .int r6), (0, .ref (adr x a0)), (1, .int a1), (2, .int a2), (3, .int a3)]) rfl ?_
        refine g_iload (pc := 35) C dX9_tellsMost_35 (q := 0) rfl ?_
        refine g_aload_n (pc := 37) C dX9_tellsMost_37 (q := 1) rfl ?_
        obtain ⟨k8, h⟩ := h
        refine gfX9_21 (pc := 38) C k8 dX9_tellsMost_38 ?_
        refine g_iload (pc := 41) C dX9_tellsMost_41 (q := 0) rfl ?_
        refine g_isub (pc := 43) C dX9_tellsMost_43 ?_
        refine miX9_54 (pc := 44) C h (Nat.le_of_ble_eq_true rfl) (Nat.le_of_ble_eq_true rfl) ⟨Nat.le_refl _, Nat.le_refl _⟩ dX9_tellsMost_44 (fun r9 w10 h => ?_)
        refine g_istore (pc := 47) C dX9_tellsMost_47 (Nat.le_of_ble_eq_true rfl) (lo' := [(5, .int r9), (4, .int r6), (0, .ref (adr x a0)), (1, .int a1), (2, .int a2), (3, .int a3)]) rfl ?_
        refine g_iload (pc := 49) C dX9_tellsMost_49 (q := 0) rfl ?_
        refine g_iload_n (pc := 51) C dX9_tellsMost_51 (q := 4) rfl ?_
        refine g_icmp_le (pc := 52) C dX9_tellsMost_52 (tgt := 62) rfl (fun z11 => ?_) (fun z11 => ?_)
        · replace h := h.1 z11
          refine g_iinc (pc := 62) C dX9_tellsMost_62 (q := 5) rfl (v2 := a3 + 1) rfl (Nat.le_of_ble_eq_true rfl) (lo' := [(3, .int (a3 + 1)), (5, .int r9), (4, .int r6), (0, .ref (adr x a0)), (1, .int a1), (2, .int a2)]) rfl ?_
          refine g_goto (pc := 65) C dX9_tellsMost_65 (tgt := 10) rfl ?_
          refine g_sub [3, 4, 5, 0] rfl ?_
          exact ih _ _ _ _ _ h
        · replace h := h.2 z11
          refine g_iload (pc := 55) C dX9_tellsMost_55 (q := 0) rfl ?_
          refine g_istore_n (pc := 57) C dX9_tellsMost_57 (Nat.le_of_ble_eq_true rfl) (lo' := [(2, .int r9), (5, .int r9), (4, .int r6), (0, .ref (adr x a0)), (1, .int a1), (3, .int a3)]) rfl ?_
          refine g_iload_n (pc := 58) C dX9_tellsMost_58 (q := 5) rfl ?_
          refine g_iconst (pc := 59) C dX9_tellsMost_59 (v := 1) rfl ?_
          refine g_iadd (pc := 60) C dX9_tellsMost_60 ?_
          refine g_istore_n (pc := 61) C dX9_tellsMost_61 (Nat.le_of_ble_eq_true rfl) (lo' := [(1, .int (a3 + 1)), (2, .int r9), (5, .int r9), (4, .int r6), (0, .ref (adr x a0)), (3, .int a3)]) rfl ?_
          refine g_iinc (pc := 62) C dX9_tellsMost_62 (q := 5) rfl (v2 := a3 + 1) rfl (Nat.le_of_ble_eq_true rfl) (lo' := [(3, .int (a3 + 1)), (1, .int (a3 + 1)), (2, .int r9), (5, .int r9), (4, .int r6), (0, .ref (adr x a0))]) rfl ?_
          refine g_goto (pc := 65) C dX9_tellsMost_65 (tgt := 10) rfl ?_
          refine g_sub [5, 1, 2, 0] rfl ?_
          exact ih _ _ _ _ _ h
theorem c_X9_tellsMost {x : xG} {l : Launch} {a0 : Nat} {K : Int32 → Wd → Prop} {w : Wd} (h : w_X9_tellsMost a0 K w) : Met l yX9_tellsMost (xws yX9_tellsMost cX9_tellsMost 6 (some .int)) (rmd 3 0 0) (xPc x [.ref (adr x a0)] w) (QcI x K) 0 0 (xA x) := by
  refine xMet (by decide) (Nat.le_of_ble_eq_true rfl) (fun p e s m below meth c C hlk hr _ => ?_)
  show GW x p l e (rmd 3 0 0) s m [.ref (adr x a0)].toArray below meth c 6 (QI x K below [.ref (adr x a0)].toArray s 0 0) 0 [(0, .ref (adr x a0))] [] w 0 0
  refine g_aload_n (pc := 0) C dX9_tellsMost_0 (q := 0) rfl ?_
  obtain ⟨k1, h⟩ := h
  refine miX9_47 (pc := 1) C k1 h (Nat.le_of_ble_eq_true rfl) (Nat.le_of_ble_eq_true rfl) ⟨Nat.le_refl _, Nat.le_refl _⟩ dX9_tellsMost_1 (fun w2 h => ?_)
  refine g_iconst (pc := 4) C dX9_tellsMost_4 (v := (-1)) rfl ?_
  refine g_istore_n (pc := 5) C dX9_tellsMost_5 (Nat.le_of_ble_eq_true rfl) (lo' := [(1, .int (-1)), (0, .ref (adr x a0))]) rfl ?_
  refine g_iconst (pc := 6) C dX9_tellsMost_6 (v := (-1)) rfl ?_
  refine g_istore_n (pc := 7) C dX9_tellsMost_7 (Nat.le_of_ble_eq_true rfl) (lo' := [(2, .int (-1)), (1, .int (-1)), (0, .ref (adr x a0))]) rfl ?_
  refine g_iconst (pc := 8) C dX9_tellsMost_8 (v := 0) rfl ?_
  refine g_istore_n (pc := 9) C dX9_tellsMost_9 (Nat.le_of_ble_eq_true rfl) (lo' := [(3, .int 0), (2, .int (-1)), (1, .int (-1)), (0, .ref (adr x a0))]) rfl ?_
  obtain ⟨n12, h⟩ := h
  refine g_sub [3, 2, 1, 0] rfl ?_
  refine t_X9_tellsMost_10 C hlk hr n12 _ _ _ _ _ h
def w_X7_byteAt (a0 : Nat) (a1 : Int32) (K : Int32 → Wd → Prop) (w : Wd) : Prop :=
  ((a1 < 0 → K (-1) w) ∧ (¬ a1 < 0 → isK w a0 7 ∧ (((wI w a0 5) ≤ a1 → K (-1) w) ∧ (¬ (wI w a0 5) ≤ a1 → isK w (wR w a0 4) 22 ∧ (((Int32.ofNat (wn w (wR w a0 4))) ≤ a1 → K (-1) w) ∧ (¬ (Int32.ofNat (wn w (wR w a0 4))) ≤ a1 → vp_in a1 (wn w (wR w a0 4)) ∧ K ((wI w (wR w a0 4) a1.toNatClampNeg) &&& 255) w))))))
theorem c_X7_byteAt {x : xG} {l : Launch} {a0 : Nat} {a1 : Int32} {K : Int32 → Wd → Prop} {w : Wd} (h : w_X7_byteAt a0 a1 K w) : Met l yX7_byteAt (xws yX7_byteAt cX7_byteAt 2 (some .int)) (rmd 0 0 0) (xPc x [.ref (adr x a0), .int a1] w) (QcI x K) 0 0 (xA x) := by
  refine xMet (by decide) (Nat.le_of_ble_eq_true rfl) (fun p e s m below meth c C hlk hr _ => ?_)
  show GW x p l e (rmd 0 0 0) s m [.ref (adr x a0), .int a1].toArray below meth c 2 (QI x K below [.ref (adr x a0), .int a1].toArray s 0 0) 0 [(0, .ref (adr x a0)), (1, .int a1)] [] w 0 0
  refine g_iload_n (pc := 0) C dX7_byteAt_0 (q := 1) rfl ?_
  refine g_if_lt (pc := 1) C dX7_byteAt_1 (tgt := 34) rfl (fun z1 => ?_) (fun z1 => ?_)
  · replace h := h.1 z1
    refine g_iconst (pc := 34) C dX7_byteAt_34 (v := (-1)) rfl ?_
    exact g_iret (pc := 35) C hlk hr (Nat.le_refl _) (Nat.le_refl _) dX7_byteAt_35 h
  · replace h := h.2 z1
    refine g_iload_n (pc := 4) C dX7_byteAt_4 (q := 1) rfl ?_
    refine g_aload_n (pc := 5) C dX7_byteAt_5 (q := 0) rfl ?_
    obtain ⟨k2, h⟩ := h
    refine gfX7_25 (pc := 6) C k2 dX7_byteAt_6 ?_
    refine g_icmp_ge (pc := 9) C dX7_byteAt_9 (tgt := 34) rfl (fun z3 => ?_) (fun z3 => ?_)
    · replace h := h.1 z3
      refine g_iconst (pc := 34) C dX7_byteAt_34 (v := (-1)) rfl ?_
      exact g_iret (pc := 35) C hlk hr (Nat.le_refl _) (Nat.le_refl _) dX7_byteAt_35 h
    · replace h := h.2 z3
      refine g_iload_n (pc := 12) C dX7_byteAt_12 (q := 1) rfl ?_
      refine g_aload_n (pc := 13) C dX7_byteAt_13 (q := 0) rfl ?_
      obtain ⟨k4, h⟩ := h
      refine gfX7_21 (pc := 14) C k2 (isK_ne k4) dX7_byteAt_14 ?_
      refine g_alen (pc := 17) C k4 (by decide) dX7_byteAt_17 ?_
      refine g_icmp_ge (pc := 18) C dX7_byteAt_18 (tgt := 34) rfl (fun z5 => ?_) (fun z5 => ?_)
      · replace h := h.1 z5
        refine g_iconst (pc := 34) C dX7_byteAt_34 (v := (-1)) rfl ?_
        exact g_iret (pc := 35) C hlk hr (Nat.le_refl _) (Nat.le_refl _) dX7_byteAt_35 h
      · replace h := h.2 z5
        refine g_aload_n (pc := 21) C dX7_byteAt_21 (q := 0) rfl ?_
        refine gfX7_21 (pc := 22) C k2 (isK_ne k4) dX7_byteAt_22 ?_
        refine g_iload_n (pc := 25) C dX7_byteAt_25 (q := 1) rfl ?_
        obtain ⟨k6, h⟩ := h
        refine g_bald (pc := 26) C k4 k6 dX7_byteAt_26 ?_
        refine g_sipush (pc := 27) C dX7_byteAt_27 (v := 255) rfl ?_
        refine g_iand (pc := 30) C dX7_byteAt_30 ?_
        refine g_goto (pc := 31) C dX7_byteAt_31 (tgt := 35) rfl ?_
        exact g_iret (pc := 35) C hlk hr (Nat.le_refl _) (Nat.le_refl _) dX7_byteAt_35 h
def w_X7_isBlank (a0 : Int32) (K : Int32 → Wd → Prop) (w : Wd) : Prop :=
  ((a0 = 10 → K 1 w) ∧ (¬ a0 = 10 → ((a0 = 32 → K 1 w) ∧ (¬ a0 = 32 → K 0 w))))
theorem c_X7_isBlank {x : xG} {l : Launch} {a0 : Int32} {K : Int32 → Wd → Prop} {w : Wd} (h : w_X7_isBlank a0 K w) : Met l yX7_isBlank (xws yX7_isBlank cX7_isBlank 1 (some .boolean)) (rmd 0 0 0) (xPc x [.int a0] w) (QcI x K) 0 0 (xA x) := by
  refine xMet (by decide) (Nat.le_of_ble_eq_true rfl) (fun p e s m below meth c C hlk hr _ => ?_)
  show GW x p l e (rmd 0 0 0) s m [.int a0].toArray below meth c 1 (QI x K below [.int a0].toArray s 0 0) 0 [(0, .int a0)] [] w 0 0
  refine g_iload_n (pc := 0) C dX7_isBlank_0 (q := 0) rfl ?_
  refine g_bipush (pc := 1) C dX7_isBlank_1 (v := 10) rfl ?_
  refine g_icmp_eq (pc := 3) C dX7_isBlank_3 (tgt := 12) rfl (fun z1 => ?_) (fun z1 => ?_)
  · replace h := h.1 z1
    refine g_iconst (pc := 12) C dX7_isBlank_12 (v := 1) rfl ?_
    refine g_goto (pc := 13) C dX7_isBlank_13 (tgt := 17) rfl ?_
    exact g_zret (pc := 17) C hlk hr (Nat.le_refl _) (Nat.le_refl _) dX7_isBlank_17 (Or.inr rfl) h
  · replace h := h.2 z1
    refine g_iload_n (pc := 6) C dX7_isBlank_6 (q := 0) rfl ?_
    refine g_bipush (pc := 7) C dX7_isBlank_7 (v := 32) rfl ?_
    refine g_icmp_ne (pc := 9) C dX7_isBlank_9 (tgt := 16) rfl (fun z2 => ?_) (fun z2 => ?_)
    · replace h := h.2 z2
      refine g_iconst (pc := 16) C dX7_isBlank_16 (v := 0) rfl ?_
      exact g_zret (pc := 17) C hlk hr (Nat.le_refl _) (Nat.le_refl _) dX7_isBlank_17 (Or.inl rfl) h
    · replace h := h.1 z2
      refine g_iconst (pc := 12) C dX7_isBlank_12 (v := 1) rfl ?_
      refine g_goto (pc := 13) C dX7_isBlank_13 (tgt := 17) rfl ?_
      exact g_zret (pc := 17) C hlk hr (Nat.le_refl _) (Nat.le_refl _) dX7_isBlank_17 (Or.inr rfl) h
def j_X7_kindOf_28  (K : Int32 → Wd → Prop) (a0 : Int32) (w : Wd) : Prop :=
  ((a0 = (-1) → K 4 w) ∧ (¬ a0 = (-1) → ((a0 = 40 → K 3 w) ∧ (¬ a0 = 40 → ((a0 = 41 → K 3 w) ∧ (¬ a0 = 41 → ((a0 = 42 → K 3 w) ∧ (¬ a0 = 42 → ((a0 = 43 → K 3 w) ∧ (¬ a0 = 43 → ((a0 = 45 → K 3 w) ∧ (¬ a0 = 45 → ((a0 = 59 → K 3 w) ∧ (¬ a0 = 59 → ((a0 = 60 → K 3 w) ∧ (¬ a0 = 60 → ((a0 = 61 → K 3 w) ∧ (¬ a0 = 61 → ((a0 = 62 → K 3 w) ∧ (¬ a0 = 62 → ((a0 = 91 → K 3 w) ∧ (¬ a0 = 91 → ((a0 = 93 → K 3 w) ∧ (¬ a0 = 93 → K 0 w))))))))))))))))))))))))
def w_X7_kindOf (a0 : Int32) (K : Int32 → Wd → Prop) (w : Wd) : Prop :=
  ((a0 < 97 → ((a0 < 48 → j_X7_kindOf_28 K a0 w) ∧ (¬ a0 < 48 → ((57 < a0 → j_X7_kindOf_28 K a0 w) ∧ (¬ 57 < a0 → K 1 w))))) ∧ (¬ a0 < 97 → ((122 < a0 → ((a0 < 48 → j_X7_kindOf_28 K a0 w) ∧ (¬ a0 < 48 → ((57 < a0 → j_X7_kindOf_28 K a0 w) ∧ (¬ 57 < a0 → K 1 w))))) ∧ (¬ 122 < a0 → K 2 w))))
theorem t_X7_kindOf_28 (C : xC x p s m c cX7_kindOf 1 args RX7) (hlk : meth.locks = false) (hr : meth.sig.returnType = some .int) {K : Int32 → Wd → Prop}   (a0 : Int32) (w : Wd) (h : j_X7_kindOf_28 K a0 w) : GW x p l e (rmd 0 0 0) s m args below meth c 1 (QI x K below args s 0 0) 28 [(0, .int a0)] [] w 0 0 := by
  refine g_iload_n (pc := 28) C dX7_kindOf_28 (q := 0) rfl ?_
  by_cases z3 : a0 = (-1)
  · replace h := h.1 z3
    refine g_look (pc := 29) C dX7_kindOf_29 (by decide) (off := 107) (by rw [z3]; decide) (tgt := 136) rfl ?_
    refine g_iconst (pc := 136) C dX7_kindOf_136 (v := 4) rfl ?_
    exact g_iret (pc := 137) C hlk hr (Nat.le_refl _) (Nat.le_refl _) dX7_kindOf_137 h
  replace h := h.2 z3
  by_cases z4 : a0 = 40
  · replace h := h.1 z4
    refine g_look (pc := 29) C dX7_kindOf_29 (by decide) (off := 109) (by rw [z4]; decide) (tgt := 138) rfl ?_
    refine g_iconst (pc := 138) C dX7_kindOf_138 (v := 3) rfl ?_
    exact g_iret (pc := 139) C hlk hr (Nat.le_refl _) (Nat.le_refl _) dX7_kindOf_139 h
  replace h := h.2 z4
  by_cases z5 : a0 = 41
  · replace h := h.1 z5
    refine g_look (pc := 29) C dX7_kindOf_29 (by decide) (off := 109) (by rw [z5]; decide) (tgt := 138) rfl ?_
    refine g_iconst (pc := 138) C dX7_kindOf_138 (v := 3) rfl ?_
    exact g_iret (pc := 139) C hlk hr (Nat.le_refl _) (Nat.le_refl _) dX7_kindOf_139 h
  replace h := h.2 z5
  by_cases z6 : a0 = 42
  · replace h := h.1 z6
    refine g_look (pc := 29) C dX7_kindOf_29 (by decide) (off := 109) (by rw [z6]; decide) (tgt := 138) rfl ?_
    refine g_iconst (pc := 138) C dX7_kindOf_138 (v := 3) rfl ?_
    exact g_iret (pc := 139) C hlk hr (Nat.le_refl _) (Nat.le_refl _) dX7_kindOf_139 h
  replace h := h.2 z6
  by_cases z7 : a0 = 43
  · replace h := h.1 z7
    refine g_look (pc := 29) C dX7_kindOf_29 (by decide) (off := 109) (by rw [z7]; decide) (tgt := 138) rfl ?_
    refine g_iconst (pc := 138) C dX7_kindOf_138 (v := 3) rfl ?_
    exact g_iret (pc := 139) C hlk hr (Nat.le_refl _) (Nat.le_refl _) dX7_kindOf_139 h
  replace h := h.2 z7
  by_cases z8 : a0 = 45
  · replace h := h.1 z8
    refine g_look (pc := 29) C dX7_kindOf_29 (by decide) (off := 109) (by rw [z8]; decide) (tgt := 138) rfl ?_
    refine g_iconst (pc := 138) C dX7_kindOf_138 (v := 3) rfl ?_
    exact g_iret (pc := 139) C hlk hr (Nat.le_refl _) (Nat.le_refl _) dX7_kindOf_139 h
  replace h := h.2 z8
  by_cases z9 : a0 = 59
  · replace h := h.1 z9
    refine g_look (pc := 29) C dX7_kindOf_29 (by decide) (off := 109) (by rw [z9]; decide) (tgt := 138) rfl ?_
    refine g_iconst (pc := 138) C dX7_kindOf_138 (v := 3) rfl ?_
    exact g_iret (pc := 139) C hlk hr (Nat.le_refl _) (Nat.le_refl _) dX7_kindOf_139 h
  replace h := h.2 z9
  by_cases z10 : a0 = 60
  · replace h := h.1 z10
    refine g_look (pc := 29) C dX7_kindOf_29 (by decide) (off := 109) (by rw [z10]; decide) (tgt := 138) rfl ?_
    refine g_iconst (pc := 138) C dX7_kindOf_138 (v := 3) rfl ?_
    exact g_iret (pc := 139) C hlk hr (Nat.le_refl _) (Nat.le_refl _) dX7_kindOf_139 h
  replace h := h.2 z10
  by_cases z11 : a0 = 61
  · replace h := h.1 z11
    refine g_look (pc := 29) C dX7_kindOf_29 (by decide) (off := 109) (by rw [z11]; decide) (tgt := 138) rfl ?_
    refine g_iconst (pc := 138) C dX7_kindOf_138 (v := 3) rfl ?_
    exact g_iret (pc := 139) C hlk hr (Nat.le_refl _) (Nat.le_refl _) dX7_kindOf_139 h
  replace h := h.2 z11
  by_cases z12 : a0 = 62
  · replace h := h.1 z12
    refine g_look (pc := 29) C dX7_kindOf_29 (by decide) (off := 109) (by rw [z12]; decide) (tgt := 138) rfl ?_
    refine g_iconst (pc := 138) C dX7_kindOf_138 (v := 3) rfl ?_
    exact g_iret (pc := 139) C hlk hr (Nat.le_refl _) (Nat.le_refl _) dX7_kindOf_139 h
  replace h := h.2 z12
  by_cases z13 : a0 = 91
  · replace h := h.1 z13
    refine g_look (pc := 29) C dX7_kindOf_29 (by decide) (off := 109) (by rw [z13]; decide) (tgt := 138) rfl ?_
    refine g_iconst (pc := 138) C dX7_kindOf_138 (v := 3) rfl ?_
    exact g_iret (pc := 139) C hlk hr (Nat.le_refl _) (Nat.le_refl _) dX7_kindOf_139 h
  replace h := h.2 z13
  by_cases z14 : a0 = 93
  · replace h := h.1 z14
    refine g_look (pc := 29) C dX7_kindOf_29 (by decide) (off := 109) (by rw [z14]; decide) (tgt := 138) rfl ?_
    refine g_iconst (pc := 138) C dX7_kindOf_138 (v := 3) rfl ?_
    exact g_iret (pc := 139) C hlk hr (Nat.le_refl _) (Nat.le_refl _) dX7_kindOf_139 h
  replace h := h.2 z14
  have y15 := ne_toInt (n := -1) z3 (by decide)
  have y16 := ne_toInt (n := 40) z4 (by decide)
  have y17 := ne_toInt (n := 41) z5 (by decide)
  have y18 := ne_toInt (n := 42) z6 (by decide)
  have y19 := ne_toInt (n := 43) z7 (by decide)
  have y20 := ne_toInt (n := 45) z8 (by decide)
  have y21 := ne_toInt (n := 59) z9 (by decide)
  have y22 := ne_toInt (n := 60) z10 (by decide)
  have y23 := ne_toInt (n := 61) z11 (by decide)
  have y24 := ne_toInt (n := 62) z12 (by decide)
  have y25 := ne_toInt (n := 91) z13 (by decide)
  have y26 := ne_toInt (n := 93) z14 (by decide)
  refine g_look (pc := 29) C dX7_kindOf_29 (by decide) (off := 111) (by simp [Op.lookupswitch.offset, Ne.symm y15, Ne.symm y16, Ne.symm y17, Ne.symm y18, Ne.symm y19, Ne.symm y20, Ne.symm y21, Ne.symm y22, Ne.symm y23, Ne.symm y24, Ne.symm y25, Ne.symm y26]) (tgt := 140) rfl ?_
  refine g_iconst (pc := 140) C dX7_kindOf_140 (v := 0) rfl ?_
  exact g_iret (pc := 141) C hlk hr (Nat.le_refl _) (Nat.le_refl _) dX7_kindOf_141 h
theorem c_X7_kindOf {x : xG} {l : Launch} {a0 : Int32} {K : Int32 → Wd → Prop} {w : Wd} (h : w_X7_kindOf a0 K w) : Met l yX7_kindOf (xws yX7_kindOf cX7_kindOf 1 (some .int)) (rmd 0 0 0) (xPc x [.int a0] w) (QcI x K) 0 0 (xA x) := by
  refine xMet (by decide) (Nat.le_of_ble_eq_true rfl) (fun p e s m below meth c C hlk hr _ => ?_)
  show GW x p l e (rmd 0 0 0) s m [.int a0].toArray below meth c 1 (QI x K below [.int a0].toArray s 0 0) 0 [(0, .int a0)] [] w 0 0
  refine g_iload_n (pc := 0) C dX7_kindOf_0 (q := 0) rfl ?_
  refine g_bipush (pc := 1) C dX7_kindOf_1 (v := 97) rfl ?_
  refine g_icmp_lt (pc := 3) C dX7_kindOf_3 (tgt := 14) rfl (fun z1 => ?_) (fun z1 => ?_)
  · replace h := h.1 z1
    refine g_iload_n (pc := 14) C dX7_kindOf_14 (q := 0) rfl ?_
    refine g_bipush (pc := 15) C dX7_kindOf_15 (v := 48) rfl ?_
    refine g_icmp_lt (pc := 17) C dX7_kindOf_17 (tgt := 28) rfl (fun z2 => ?_) (fun z2 => ?_)
    · replace h := h.1 z2
      exact t_X7_kindOf_28 C hlk hr  _ _ h
    · replace h := h.2 z2
      refine g_iload_n (pc := 20) C dX7_kindOf_20 (q := 0) rfl ?_
      refine g_bipush (pc := 21) C dX7_kindOf_21 (v := 57) rfl ?_
      refine g_icmp_gt (pc := 23) C dX7_kindOf_23 (tgt := 28) rfl (fun z27 => ?_) (fun z27 => ?_)
      · replace h := h.1 z27
        exact t_X7_kindOf_28 C hlk hr  _ _ h
      · replace h := h.2 z27
        refine g_iconst (pc := 26) C dX7_kindOf_26 (v := 1) rfl ?_
        exact g_iret (pc := 27) C hlk hr (Nat.le_refl _) (Nat.le_refl _) dX7_kindOf_27 h
  · replace h := h.2 z1
    refine g_iload_n (pc := 6) C dX7_kindOf_6 (q := 0) rfl ?_
    refine g_bipush (pc := 7) C dX7_kindOf_7 (v := 122) rfl ?_
    refine g_icmp_gt (pc := 9) C dX7_kindOf_9 (tgt := 14) rfl (fun z28 => ?_) (fun z28 => ?_)
    · replace h := h.1 z28
      refine g_iload_n (pc := 14) C dX7_kindOf_14 (q := 0) rfl ?_
      refine g_bipush (pc := 15) C dX7_kindOf_15 (v := 48) rfl ?_
      refine g_icmp_lt (pc := 17) C dX7_kindOf_17 (tgt := 28) rfl (fun z29 => ?_) (fun z29 => ?_)
      · replace h := h.1 z29
        exact t_X7_kindOf_28 C hlk hr  _ _ h
      · replace h := h.2 z29
        refine g_iload_n (pc := 20) C dX7_kindOf_20 (q := 0) rfl ?_
        refine g_bipush (pc := 21) C dX7_kindOf_21 (v := 57) rfl ?_
        refine g_icmp_gt (pc := 23) C dX7_kindOf_23 (tgt := 28) rfl (fun z30 => ?_) (fun z30 => ?_)
        · replace h := h.1 z30
          exact t_X7_kindOf_28 C hlk hr  _ _ h
        · replace h := h.2 z30
          refine g_iconst (pc := 26) C dX7_kindOf_26 (v := 1) rfl ?_
          exact g_iret (pc := 27) C hlk hr (Nat.le_refl _) (Nat.le_refl _) dX7_kindOf_27 h
    · replace h := h.2 z28
      refine g_iconst (pc := 12) C dX7_kindOf_12 (v := 2) rfl ?_
      exact g_iret (pc := 13) C hlk hr (Nat.le_refl _) (Nat.le_refl _) dX7_kindOf_13 h
def w_X7_refuse (a0 : Nat) (a1 : Int32) (K : Int32 → Wd → Prop) (w : Wd) : Prop :=
  isK w a0 7 ∧ K 0 (uI (uI w a0 1 a1) a0 2 (wI (uI w a0 1 a1) a0 6))
theorem c_X7_refuse {x : xG} {l : Launch} {a0 : Nat} {a1 : Int32} {K : Int32 → Wd → Prop} {w : Wd} (h : w_X7_refuse a0 a1 K w) : Met l yX7_refuse (xws yX7_refuse cX7_refuse 2 (some .boolean)) (rmd 0 0 0) (xPc x [.ref (adr x a0), .int a1] w) (QcI x K) 0 0 (xA x) := by
  refine xMet (by decide) (Nat.le_of_ble_eq_true rfl) (fun p e s m below meth c C hlk hr _ => ?_)
  show GW x p l e (rmd 0 0 0) s m [.ref (adr x a0), .int a1].toArray below meth c 2 (QI x K below [.ref (adr x a0), .int a1].toArray s 0 0) 0 [(0, .ref (adr x a0)), (1, .int a1)] [] w 0 0
  refine g_aload_n (pc := 0) C dX7_refuse_0 (q := 0) rfl ?_
  refine g_iload_n (pc := 1) C dX7_refuse_1 (q := 1) rfl ?_
  obtain ⟨k1, h⟩ := h
  refine pfX7_15 (pc := 2) C k1 dX7_refuse_2 ?_
  refine g_aload_n (pc := 5) C dX7_refuse_5 (q := 0) rfl ?_
  refine g_aload_n (pc := 6) C dX7_refuse_6 (q := 0) rfl ?_
  refine gfX7_28 (pc := 7) (w := uI w a0 1 a1) C k1 dX7_refuse_7 ?_
  refine pfX7_18 (pc := 10) (w := uI w a0 1 a1) C k1 dX7_refuse_10 ?_
  refine g_iconst (pc := 13) C dX7_refuse_13 (v := 0) rfl ?_
  exact g_zret (pc := 14) C hlk hr (Nat.le_refl _) (Nat.le_refl _) dX7_refuse_14 (Or.inl rfl) h
theorem miX7_100 (C : xC x p s m c cc nL args RX7) {a0 : Nat} {a1 : Int32} {K : Int32 → Wd → Prop} {D MC MS : Nat} (hq : isK w a0 7) (h : w_X7_refuse a0 a1 K w) (hD : 0 + 1 ≤ D) (hW : (st.map fun v => v.category).sum ≤ 8) (hij : i ≤ MC ∧ j ≤ MS) (hd : decode cc pc = .ok (.invokevirtual 100, 3)) (k : ∀ (r : Int32) (u : Wd), K r u → GW x p l e (rmd D MC MS) s m args below meth c nL Q (pc + 3) lo (.int r :: st) u i j) : GW x p l e (rmd D MC MS) s m args below meth c nL Q pc lo (.int a1 :: .ref (adr x a0) :: st) w i j := g_callVi0 C (As := [.int a1]) (ci := 7) (c_X7_refuse h) (x_cwV C 1 LMX7_100 ⟨rfl, by decide, by decide, rfl⟩ hD (by decide)) rfl hq (by decide) rfl rfl hW hd hij k
theorem miX7_221 (C : xC x p s m c cc nL args RX7) {a0 : Nat} {a1 : Int32} {K : Int32 → Wd → Prop} {D MC MS : Nat} (hq : isK w a0 7) (h : w_X7_byteAt a0 a1 K w) (hD : 0 + 1 ≤ D) (hW : (st.map fun v => v.category).sum ≤ 8) (hij : i ≤ MC ∧ j ≤ MS) (hd : decode cc pc = .ok (.invokevirtual 221, 3)) (k : ∀ (r : Int32) (u : Wd), K r u → GW x p l e (rmd D MC MS) s m args below meth c nL Q (pc + 3) lo (.int r :: st) u i j) : GW x p l e (rmd D MC MS) s m args below meth c nL Q pc lo (.int a1 :: .ref (adr x a0) :: st) w i j := g_callVi0 C (As := [.int a1]) (ci := 7) (c_X7_byteAt h) (x_cwV C 1 LMX7_221 ⟨rfl, by decide, by decide, rfl⟩ hD (by decide)) rfl hq (by decide) rfl rfl hW hd hij k
theorem miX7_229 (C : xC x p s m c cc nL args RX7) {a0 : Int32} {K : Int32 → Wd → Prop} {D MC MS : Nat} (h : w_X7_isBlank a0 K w) (hD : 0 + 1 ≤ D) (hW : (st.map fun v => v.category).sum ≤ 8) (hij : i ≤ MC ∧ j ≤ MS) (hd : decode cc pc = .ok (.invokestatic 229, 3)) (k : ∀ (r : Int32) (u : Wd), K r u → GW x p l e (rmd D MC MS) s m args below meth c nL Q (pc + 3) lo (.int r :: st) u i j) : GW x p l e (rmd D MC MS) s m args below meth c nL Q pc lo (.int a0 :: st) w i j := g_callSi0 C (As := [.int a0]) (c_X7_isBlank h) (x_cwS C 1 LMX7_229 ⟨by decide, by decide, rfl⟩ hD (by decide)) rfl rfl hW hd hij k
theorem miX7_232 (C : xC x p s m c cc nL args RX7) {a0 : Int32} {K : Int32 → Wd → Prop} {D MC MS : Nat} (h : w_X7_kindOf a0 K w) (hD : 0 + 1 ≤ D) (hW : (st.map fun v => v.category).sum ≤ 8) (hij : i ≤ MC ∧ j ≤ MS) (hd : decode cc pc = .ok (.invokestatic 232, 3)) (k : ∀ (r : Int32) (u : Wd), K r u → GW x p l e (rmd D MC MS) s m args below meth c nL Q (pc + 3) lo (.int r :: st) u i j) : GW x p l e (rmd D MC MS) s m args below meth c nL Q pc lo (.int a0 :: st) w i j := g_callSi0 C (As := [.int a0]) (c_X7_kindOf h) (x_cwS C 1 LMX7_232 ⟨by decide, by decide, rfl⟩ hD (by decide)) rfl rfl hW hd hij k
def l_X7_advance_10 (E47 : Nat → Wd → Prop) (K : Int32 → Wd → Prop) : Nat → Nat → Int32 → Wd → Prop
  | 0, _, _, _ => False
  | n + 1, a0, a1, w => ((900 ≤ a1 → E47 a0 w) ∧ (¬ 900 ≤ a1 → isK w a0 7 ∧ w_X7_byteAt a0 (wI w a0 6) (fun r4 w5 => w_X7_isBlank r4 (fun r6 w7 => ((r6 = 0 → E47 a0 w7) ∧ (¬ r6 = 0 → isK w7 a0 7 ∧ l_X7_advance_10 E47 K n a0 (a1 + 1) (uI w7 a0 6 ((wI w7 a0 6) + 1))))) w5) w))
def l_X7_advance_105 (E187 : Nat → Wd → Prop) (K : Int32 → Wd → Prop) : Nat → Nat → Int32 → Int32 → Wd → Prop
  | 0, _, _, _, _ => False
  | n + 1, a0, a1, a2, w => ((a1 ≤ a2 → E187 a0 w) ∧ (¬ a1 ≤ a2 → isK w a0 7 ∧ (((wI w a0 8) = 4 → E187 a0 w) ∧ (¬ (wI w a0 8) = 4 → w_X7_byteAt a0 (wI w a0 7) (fun r23 w24 => w_X7_kindOf r23 (fun r25 w26 => isK w26 a0 7 ∧ ((r25 = (wI w26 a0 8) → (((wI w26 a0 8) = 1 → w_X7_byteAt a0 (wI w26 a0 7) (fun r30 w31 => isK w31 a0 7 ∧ l_X7_advance_105 E187 K n a0 a1 (a2 + 1) (uI (uI w31 a0 9 ((((wI w26 a0 9) * 10) + r30) - 48)) a0 7 ((wI (uI w31 a0 9 ((((wI w26 a0 9) * 10) + r30) - 48)) a0 7) + 1))) w26) ∧ (¬ (wI w26 a0 8) = 1 → l_X7_advance_105 E187 K n a0 a1 (a2 + 1) (uI (uI w26 a0 9 0) a0 7 ((wI (uI w26 a0 9 0) a0 7) + 1))))) ∧ (¬ r25 = (wI w26 a0 8) → E187 a0 w26))) w24) w))))
def j_X7_advance_213  (K : Int32 → Wd → Prop) (a0 : Nat) (s0 : Int32) (w : Wd) : Prop :=
  isK w a0 7 ∧ (((wI w a0 8) = 0 → w_X7_refuse a0 1 (fun r39 w40 => (r39 = 0 ∨ r39 = 1) ∧ K r39 w40) w) ∧ (¬ (wI w a0 8) = 0 → ((s0 = 0 → K 1 w) ∧ (¬ s0 = 0 → w_X7_refuse a0 1 (fun r42 w43 => (r42 = 0 ∨ r42 = 1) ∧ K r42 w43) w))))
def j_X7_advance_187  (K : Int32 → Wd → Prop) (a0 : Nat) (w : Wd) : Prop :=
  isK w a0 7 ∧ (((wI w a0 8) = 1 → ((((wI w a0 7) - (wI w a0 6)) ≤ 3 → j_X7_advance_213 K a0 0 w) ∧ (¬ ((wI w a0 7) - (wI w a0 6)) ≤ 3 → j_X7_advance_213 K a0 1 w))) ∧ (¬ (wI w a0 8) = 1 → j_X7_advance_213 K a0 0 w))
def j_X7_advance_47  (K : Int32 → Wd → Prop) (a0 : Nat) (w : Wd) : Prop :=
  isK w a0 7 ∧ w_X7_byteAt a0 (wI (uI w a0 7 (wI w a0 6)) a0 6) (fun r13 w14 => w_X7_kindOf r13 (fun r15 w16 => isK w16 a0 7 ∧ (((wI (uI (uI w16 a0 8 r15) a0 9 0) a0 8) = 2 → ∃ n51, l_X7_advance_105 (fun b49 w50 => j_X7_advance_187 K b49 w50) K n51 a0 900 0 (uI (uI w16 a0 8 r15) a0 9 0)) ∧ (¬ (wI (uI (uI w16 a0 8 r15) a0 9 0) a0 8) = 2 → (((wI (uI (uI w16 a0 8 r15) a0 9 0) a0 8) = 1 → ∃ n48, l_X7_advance_105 (fun b46 w47 => j_X7_advance_187 K b46 w47) K n48 a0 4 0 (uI (uI w16 a0 8 r15) a0 9 0)) ∧ (¬ (wI (uI (uI w16 a0 8 r15) a0 9 0) a0 8) = 1 → ∃ n45, l_X7_advance_105 (fun b33 w34 => j_X7_advance_187 K b33 w34) K n45 a0 1 0 (uI (uI w16 a0 8 r15) a0 9 0)))))) w14) (uI w a0 7 (wI w a0 6))
def w_X7_advance (a0 : Nat) (K : Int32 → Wd → Prop) (w : Wd) : Prop :=
  isK w a0 7 ∧ ∃ n52, l_X7_advance_10 (fun b10 w11 => j_X7_advance_47 K b10 w11) K n52 a0 0 (uI w a0 6 (wI w a0 7))
theorem t_X7_advance_10 (C : xC x p s m c cX7_advance 3 args RX7) (hlk : meth.locks = false) (hr : meth.sig.returnType = some .boolean) {K : Int32 → Wd → Prop} {E47 : Nat → Wd → Prop} (hE47 : ∀ (b0 : Nat) (w : Wd), E47 b0 w → GW x p l e (rmd 1 0 0) s m args below meth c 3 (QI x K below args s 0 0) 47 [(0, .ref (adr x b0))] [] w 0 0) : ∀ (n : Nat) (a0 : Nat) (a1 : Int32) (w : Wd), l_X7_advance_10 E47 K n a0 a1 w → GW x p l e (rmd 1 0 0) s m args below meth c 3 (QI x K below args s 0 0) 10 [(0, .ref (adr x a0)), (1, .int a1)] [] w 0 0 := by
  intro n
  induction n with
  | zero => intro _ _ _ h; exact False.elim h
  | succ n ih =>
    intro a0 a1 w h
    refine g_iload_n (pc := 10) C dX7_advance_10 (q := 1) rfl ?_
    refine g_sipush (pc := 11) C dX7_advance_11 (v := 900) rfl ?_
    refine g_icmp_ge (pc := 14) C dX7_advance_14 (tgt := 47) rfl (fun z2 => ?_) (fun z2 => ?_)
    · replace h := h.1 z2
      refine g_sub [0] rfl ?_
      exact hE47 _ _ h
    · replace h := h.2 z2
      refine g_aload_n (pc := 17) C dX7_advance_17 (q := 0) rfl ?_
      refine g_aload_n (pc := 18) C dX7_advance_18 (q := 0) rfl ?_
      obtain ⟨k3, h⟩ := h
      refine gfX7_28 (pc := 19) C k3 dX7_advance_19 ?_
      refine miX7_221 (pc := 22) C k3 h (Nat.le_of_ble_eq_true rfl) (Nat.le_of_ble_eq_true rfl) ⟨Nat.le_refl _, Nat.le_refl _⟩ dX7_advance_22 (fun r4 w5 h => ?_)
      refine miX7_229 (pc := 25) C h (Nat.le_of_ble_eq_true rfl) (Nat.le_of_ble_eq_true rfl) ⟨Nat.le_refl _, Nat.le_refl _⟩ dX7_advance_25 (fun r6 w7 h => ?_)
      refine g_if_eq (pc := 28) C dX7_advance_28 (tgt := 47) rfl (fun z8 => ?_) (fun z8 => ?_)
      · replace h := h.1 z8
        refine g_sub [0] rfl ?_
        exact hE47 _ _ h
      · replace h := h.2 z8
        refine g_aload_n (pc := 31) C dX7_advance_31 (q := 0) rfl ?_
        refine g_dup (pc := 32) C dX7_advance_32 rfl ?_
        obtain ⟨k9, h⟩ := h
        refine gfX7_28 (pc := 33) C k9 dX7_advance_33 ?_
        refine g_iconst (pc := 36) C dX7_advance_36 (v := 1) rfl ?_
        refine g_iadd (pc := 37) C dX7_advance_37 ?_
        refine pfX7_28 (pc := 38) C k9 dX7_advance_38 ?_
        refine g_iinc (pc := 41) C dX7_advance_41 (q := 1) rfl (v2 := a1 + 1) rfl (Nat.le_of_ble_eq_true rfl) (lo' := [(1, .int (a1 + 1)), (0, .ref (adr x a0))]) rfl ?_
        refine g_goto (pc := 44) C dX7_advance_44 (tgt := 10) rfl ?_
        refine g_sub [1, 0] rfl ?_
        exact ih _ _ _ h
theorem t_X7_advance_105 (C : xC x p s m c cX7_advance 3 args RX7) (hlk : meth.locks = false) (hr : meth.sig.returnType = some .boolean) {K : Int32 → Wd → Prop} {E187 : Nat → Wd → Prop} (hE187 : ∀ (b0 : Nat) (w : Wd), E187 b0 w → GW x p l e (rmd 1 0 0) s m args below meth c 3 (QI x K below args s 0 0) 187 [(0, .ref (adr x b0))] [] w 0 0) : ∀ (n : Nat) (a0 : Nat) (a1 : Int32) (a2 : Int32) (w : Wd), l_X7_advance_105 E187 K n a0 a1 a2 w → GW x p l e (rmd 1 0 0) s m args below meth c 3 (QI x K below args s 0 0) 105 [(0, .ref (adr x a0)), (1, .int a1), (2, .int a2)] [] w 0 0 := by
  intro n
  induction n with
  | zero => intro _ _ _ _ h; exact False.elim h
  | succ n ih =>
    intro a0 a1 a2 w h
    refine g_iload_n (pc := 105) C dX7_advance_105 (q := 2) rfl ?_
    refine g_iload_n (pc := 106) C dX7_advance_106 (q := 1) rfl ?_
    refine g_icmp_ge (pc := 107) C dX7_advance_107 (tgt := 187) rfl (fun z20 => ?_) (fun z20 => ?_)
    · replace h := h.1 z20
      refine g_sub [0] rfl ?_
      exact hE187 _ _ h
    · replace h := h.2 z20
      refine g_aload_n (pc := 110) C dX7_advance_110 (q := 0) rfl ?_
      obtain ⟨k21, h⟩ := h
      refine gfX7_34 (pc := 111) C k21 dX7_advance_111 ?_
      refine g_iconst (pc := 114) C dX7_advance_114 (v := 4) rfl ?_
      refine g_icmp_eq (pc := 115) C dX7_advance_115 (tgt := 187) rfl (fun z22 => ?_) (fun z22 => ?_)
      · replace h := h.1 z22
        refine g_sub [0] rfl ?_
        exact hE187 _ _ h
      · replace h := h.2 z22
        refine g_aload_n (pc := 118) C dX7_advance_118 (q := 0) rfl ?_
        refine g_aload_n (pc := 119) C dX7_advance_119 (q := 0) rfl ?_
        refine gfX7_31 (pc := 120) C k21 dX7_advance_120 ?_
        refine miX7_221 (pc := 123) C k21 h (Nat.le_of_ble_eq_true rfl) (Nat.le_of_ble_eq_true rfl) ⟨Nat.le_refl _, Nat.le_refl _⟩ dX7_advance_123 (fun r23 w24 h => ?_)
        refine miX7_232 (pc := 126) C h (Nat.le_of_ble_eq_true rfl) (Nat.le_of_ble_eq_true rfl) ⟨Nat.le_refl _, Nat.le_refl _⟩ dX7_advance_126 (fun r25 w26 h => ?_)
        refine g_aload_n (pc := 129) C dX7_advance_129 (q := 0) rfl ?_
        obtain ⟨k27, h⟩ := h
        refine gfX7_34 (pc := 130) C k27 dX7_advance_130 ?_
        refine g_icmp_ne (pc := 133) C dX7_advance_133 (tgt := 187) rfl (fun z28 => ?_) (fun z28 => ?_)
        · replace h := h.2 z28
          refine g_sub [0] rfl ?_
          exact hE187 _ _ h
        · replace h := h.1 z28
          refine g_aload_n (pc := 136) C dX7_advance_136 (q := 0) rfl ?_
          refine g_aload_n (pc := 137) C dX7_advance_137 (q := 0) rfl ?_
          refine gfX7_34 (pc := 138) C k27 dX7_advance_138 ?_
          refine g_iconst (pc := 141) C dX7_advance_141 (v := 1) rfl ?_
          refine g_icmp_ne (pc := 142) C dX7_advance_142 (tgt := 167) rfl (fun z29 => ?_) (fun z29 => ?_)
          · replace h := h.2 z29
            refine g_iconst (pc := 167) C dX7_advance_167 (v := 0) rfl ?_
            refine pfX7_37 (pc := 168) C k27 dX7_advance_168 ?_
            refine g_aload_n (pc := 171) C dX7_advance_171 (q := 0) rfl ?_
            refine g_dup (pc := 172) C dX7_advance_172 rfl ?_
            refine gfX7_31 (pc := 173) (w := uI w26 a0 9 0) C k27 dX7_advance_173 ?_
            refine g_iconst (pc := 176) C dX7_advance_176 (v := 1) rfl ?_
            refine g_iadd (pc := 177) C dX7_advance_177 ?_
            refine pfX7_31 (pc := 178) (w := uI w26 a0 9 0) C k27 dX7_advance_178 ?_
            refine g_iinc (pc := 181) C dX7_advance_181 (q := 2) rfl (v2 := a2 + 1) rfl (Nat.le_of_ble_eq_true rfl) (lo' := [(2, .int (a2 + 1)), (0, .ref (adr x a0)), (1, .int a1)]) rfl ?_
            refine g_goto (pc := 184) C dX7_advance_184 (tgt := 105) rfl ?_
            refine g_sub [1, 2, 0] rfl ?_
            exact ih _ _ _ _ h
          · replace h := h.1 z29
            refine g_aload_n (pc := 145) C dX7_advance_145 (q := 0) rfl ?_
            refine gfX7_37 (pc := 146) C k27 dX7_advance_146 ?_
            refine g_bipush (pc := 149) C dX7_advance_149 (v := 10) rfl ?_
            refine g_imul (pc := 151) C dX7_advance_151 ?_
            refine g_aload_n (pc := 152) C dX7_advance_152 (q := 0) rfl ?_
            refine g_aload_n (pc := 153) C dX7_advance_153 (q := 0) rfl ?_
            refine gfX7_31 (pc := 154) C k27 dX7_advance_154 ?_
            refine miX7_221 (pc := 157) C k27 h (Nat.le_of_ble_eq_true rfl) (Nat.le_of_ble_eq_true rfl) ⟨Nat.le_refl _, Nat.le_refl _⟩ dX7_advance_157 (fun r30 w31 h => ?_)
            refine g_iadd (pc := 160) C dX7_advance_160 ?_
            refine g_bipush (pc := 161) C dX7_advance_161 (v := 48) rfl ?_
            refine g_isub (pc := 163) C dX7_advance_163 ?_
            refine g_goto (pc := 164) C dX7_advance_164 (tgt := 168) rfl ?_
            obtain ⟨k32, h⟩ := h
            refine pfX7_37 (pc := 168) C k32 dX7_advance_168 ?_
            refine g_aload_n (pc := 171) C dX7_advance_171 (q := 0) rfl ?_
            refine g_dup (pc := 172) C dX7_advance_172 rfl ?_
            refine gfX7_31 (pc := 173) (w := uI w31 a0 9 ((((wI w26 a0 9) * 10) + r30) - 48)) C k32 dX7_advance_173 ?_
            refine g_iconst (pc := 176) C dX7_advance_176 (v := 1) rfl ?_
            refine g_iadd (pc := 177) C dX7_advance_177 ?_
            refine pfX7_31 (pc := 178) (w := uI w31 a0 9 ((((wI w26 a0 9) * 10) + r30) - 48)) C k32 dX7_advance_178 ?_
            refine g_iinc (pc := 181) C dX7_advance_181 (q := 2) rfl (v2 := a2 + 1) rfl (Nat.le_of_ble_eq_true rfl) (lo' := [(2, .int (a2 + 1)), (0, .ref (adr x a0)), (1, .int a1)]) rfl ?_
            refine g_goto (pc := 184) C dX7_advance_184 (tgt := 105) rfl ?_
            refine g_sub [1, 2, 0] rfl ?_
            exact ih _ _ _ _ h
theorem t_X7_advance_213 (C : xC x p s m c cX7_advance 3 args RX7) (hlk : meth.locks = false) (hr : meth.sig.returnType = some .boolean) {K : Int32 → Wd → Prop}   (a0 : Nat) (s0 : Int32) (w : Wd) (h : j_X7_advance_213 K a0 s0 w) : GW x p l e (rmd 1 0 0) s m args below meth c 3 (QI x K below args s 0 0) 213 [(0, .ref (adr x a0))] [.int s0] w 0 0 := by
  refine g_istore_n (pc := 213) C dX7_advance_213 (Nat.le_of_ble_eq_true rfl) (lo' := [(2, .int s0), (0, .ref (adr x a0))]) rfl ?_
  refine g_aload_n (pc := 214) C dX7_advance_214 (q := 1) rfl ?_
  obtain ⟨k37, h⟩ := h
  refine gfX7_34 (pc := 215) C k37 dX7_advance_215 ?_
  refine g_if_eq (pc := 218) C dX7_advance_218 (tgt := 225) rfl (fun z38 => ?_) (fun z38 => ?_)
  · replace h := h.1 z38
    refine g_aload_n (pc := 225) C dX7_advance_225 (q := 1) rfl ?_
    refine g_iconst (pc := 226) C dX7_advance_226 (v := 1) rfl ?_
    refine miX7_100 (pc := 227) C k37 h (Nat.le_of_ble_eq_true rfl) (Nat.le_of_ble_eq_true rfl) ⟨Nat.le_refl _, Nat.le_refl _⟩ dX7_advance_227 (fun r39 w40 h => ?_)
    refine g_goto (pc := 230) C dX7_advance_230 (tgt := 234) rfl ?_
    exact g_zret (pc := 234) C hlk hr (Nat.le_refl _) (Nat.le_refl _) dX7_advance_234 h.1 h.2
  · replace h := h.2 z38
    refine g_iload_n (pc := 221) C dX7_advance_221 (q := 0) rfl ?_
    refine g_if_eq (pc := 222) C dX7_advance_222 (tgt := 233) rfl (fun z41 => ?_) (fun z41 => ?_)
    · replace h := h.1 z41
      refine g_iconst (pc := 233) C dX7_advance_233 (v := 1) rfl ?_
      exact g_zret (pc := 234) C hlk hr (Nat.le_refl _) (Nat.le_refl _) dX7_advance_234 (Or.inr rfl) h
    · replace h := h.2 z41
      refine g_aload_n (pc := 225) C dX7_advance_225 (q := 1) rfl ?_
      refine g_iconst (pc := 226) C dX7_advance_226 (v := 1) rfl ?_
      refine miX7_100 (pc := 227) C k37 h (Nat.le_of_ble_eq_true rfl) (Nat.le_of_ble_eq_true rfl) ⟨Nat.le_refl _, Nat.le_refl _⟩ dX7_advance_227 (fun r42 w43 h => ?_)
      refine g_goto (pc := 230) C dX7_advance_230 (tgt := 234) rfl ?_
      exact g_zret (pc := 234) C hlk hr (Nat.le_refl _) (Nat.le_refl _) dX7_advance_234 h.1 h.2
theorem t_X7_advance_187 (C : xC x p s m c cX7_advance 3 args RX7) (hlk : meth.locks = false) (hr : meth.sig.returnType = some .boolean) {K : Int32 → Wd → Prop}   (a0 : Nat) (w : Wd) (h : j_X7_advance_187 K a0 w) : GW x p l e (rmd 1 0 0) s m args below meth c 3 (QI x K below args s 0 0) 187 [(0, .ref (adr x a0))] [] w 0 0 := by
  refine g_aload_n (pc := 187) C dX7_advance_187 (q := 0) rfl ?_
  obtain ⟨k35, h⟩ := h
  refine gfX7_34 (pc := 188) C k35 dX7_advance_188 ?_
  refine g_iconst (pc := 191) C dX7_advance_191 (v := 1) rfl ?_
  refine g_icmp_ne (pc := 192) C dX7_advance_192 (tgt := 212) rfl (fun z36 => ?_) (fun z36 => ?_)
  · replace h := h.2 z36
    refine g_iconst (pc := 212) C dX7_advance_212 (v := 0) rfl ?_
    exact t_X7_advance_213 C hlk hr  _ _ _ h
  · replace h := h.1 z36
    refine g_aload_n (pc := 195) C dX7_advance_195 (q := 0) rfl ?_
    refine gfX7_31 (pc := 196) C k35 dX7_advance_196 ?_
    refine g_aload_n (pc := 199) C dX7_advance_199 (q := 0) rfl ?_
    refine gfX7_28 (pc := 200) C k35 dX7_advance_200 ?_
    refine g_isub (pc := 203) C dX7_advance_203 ?_
    refine g_iconst (pc := 204) C dX7_advance_204 (v := 3) rfl ?_
    refine g_icmp_le (pc := 205) C dX7_advance_205 (tgt := 212) rfl (fun z44 => ?_) (fun z44 => ?_)
    · replace h := h.1 z44
      refine g_iconst (pc := 212) C dX7_advance_212 (v := 0) rfl ?_
      exact t_X7_advance_213 C hlk hr  _ _ _ h
    · replace h := h.2 z44
      refine g_iconst (pc := 208) C dX7_advance_208 (v := 1) rfl ?_
      refine g_goto (pc := 209) C dX7_advance_209 (tgt := 213) rfl ?_
      exact t_X7_advance_213 C hlk hr  _ _ _ h
theorem t_X7_advance_47 (C : xC x p s m c cX7_advance 3 args RX7) (hlk : meth.locks = false) (hr : meth.sig.returnType = some .boolean) {K : Int32 → Wd → Prop}   (a0 : Nat) (w : Wd) (h : j_X7_advance_47 K a0 w) : GW x p l e (rmd 1 0 0) s m args below meth c 3 (QI x K below args s 0 0) 47 [(0, .ref (adr x a0))] [] w 0 0 := by
  refine g_aload_n (pc := 47) C dX7_advance_47 (q := 0) rfl ?_
  refine g_aload_n (pc := 48) C dX7_advance_48 (q := 0) rfl ?_
  obtain ⟨k12, h⟩ := h
  refine gfX7_28 (pc := 49) C k12 dX7_advance_49 ?_
  refine pfX7_31 (pc := 52) C k12 dX7_advance_52 ?_
  refine g_aload_n (pc := 55) C dX7_advance_55 (q := 0) rfl ?_
  refine g_aload_n (pc := 56) C dX7_advance_56 (q := 0) rfl ?_
  refine g_aload_n (pc := 57) C dX7_advance_57 (q := 0) rfl ?_
  refine gfX7_28 (pc := 58) (w := uI w a0 7 (wI w a0 6)) C k12 dX7_advance_58 ?_
  refine miX7_221 (pc := 61) (w := uI w a0 7 (wI w a0 6)) C k12 h (Nat.le_of_ble_eq_true rfl) (Nat.le_of_ble_eq_true rfl) ⟨Nat.le_refl _, Nat.le_refl _⟩ dX7_advance_61 (fun r13 w14 h => ?_)
  refine miX7_232 (pc := 64) C h (Nat.le_of_ble_eq_true rfl) (Nat.le_of_ble_eq_true rfl) ⟨Nat.le_refl _, Nat.le_refl _⟩ dX7_advance_64 (fun r15 w16 h => ?_)
  obtain ⟨k17, h⟩ := h
  refine pfX7_34 (pc := 67) C k17 dX7_advance_67 ?_
  refine g_aload_n (pc := 70) C dX7_advance_70 (q := 0) rfl ?_
  refine g_iconst (pc := 71) C dX7_advance_71 (v := 0) rfl ?_
  refine pfX7_37 (pc := 72) (w := uI w16 a0 8 r15) C k17 dX7_advance_72 ?_
  refine g_aload_n (pc := 75) C dX7_advance_75 (q := 0) rfl ?_
  refine gfX7_34 (pc := 76) (w := uI (uI w16 a0 8 r15) a0 9 0) C k17 dX7_advance_76 ?_
  refine g_iconst (pc := 79) C dX7_advance_79 (v := 2) rfl ?_
  refine g_icmp_ne (pc := 80) C dX7_advance_80 (tgt := 89) rfl (fun z18 => ?_) (fun z18 => ?_)
  · replace h := h.2 z18
    refine g_aload_n (pc := 89) C dX7_advance_89 (q := 0) rfl ?_
    refine gfX7_34 (pc := 90) (w := uI (uI w16 a0 8 r15) a0 9 0) C k17 dX7_advance_90 ?_
    refine g_iconst (pc := 93) C dX7_advance_93 (v := 1) rfl ?_
    refine g_icmp_ne (pc := 94) C dX7_advance_94 (tgt := 101) rfl (fun z19 => ?_) (fun z19 => ?_)
    · replace h := h.2 z19
      refine g_iconst (pc := 101) C dX7_advance_101 (v := 1) rfl ?_
      refine g_istore_n (pc := 102) C dX7_advance_102 (Nat.le_of_ble_eq_true rfl) (lo' := [(1, .int 1), (0, .ref (adr x a0))]) rfl ?_
      refine g_iconst (pc := 103) C dX7_advance_103 (v := 0) rfl ?_
      refine g_istore_n (pc := 104) C dX7_advance_104 (Nat.le_of_ble_eq_true rfl) (lo' := [(2, .int 0), (1, .int 1), (0, .ref (adr x a0))]) rfl ?_
      obtain ⟨n45, h⟩ := h
      refine g_sub [2, 1, 0] rfl ?_
      refine t_X7_advance_105 C hlk hr ?_ n45 _ _ _ _ h
      · intro b33 w34 h
        exact t_X7_advance_187 C hlk hr  _ _ h
    · replace h := h.1 z19
      refine g_iconst (pc := 97) C dX7_advance_97 (v := 4) rfl ?_
      refine g_goto (pc := 98) C dX7_advance_98 (tgt := 102) rfl ?_
      refine g_istore_n (pc := 102) C dX7_advance_102 (Nat.le_of_ble_eq_true rfl) (lo' := [(1, .int 4), (0, .ref (adr x a0))]) rfl ?_
      refine g_iconst (pc := 103) C dX7_advance_103 (v := 0) rfl ?_
      refine g_istore_n (pc := 104) C dX7_advance_104 (Nat.le_of_ble_eq_true rfl) (lo' := [(2, .int 0), (1, .int 4), (0, .ref (adr x a0))]) rfl ?_
      obtain ⟨n48, h⟩ := h
      refine g_sub [2, 1, 0] rfl ?_
      refine t_X7_advance_105 C hlk hr ?_ n48 _ _ _ _ h
      · intro b46 w47 h
        exact t_X7_advance_187 C hlk hr  _ _ h
  · replace h := h.1 z18
    refine g_sipush (pc := 83) C dX7_advance_83 (v := 900) rfl ?_
    refine g_goto (pc := 86) C dX7_advance_86 (tgt := 102) rfl ?_
    refine g_istore_n (pc := 102) C dX7_advance_102 (Nat.le_of_ble_eq_true rfl) (lo' := [(1, .int 900), (0, .ref (adr x a0))]) rfl ?_
    refine g_iconst (pc := 103) C dX7_advance_103 (v := 0) rfl ?_
    refine g_istore_n (pc := 104) C dX7_advance_104 (Nat.le_of_ble_eq_true rfl) (lo' := [(2, .int 0), (1, .int 900), (0, .ref (adr x a0))]) rfl ?_
    obtain ⟨n51, h⟩ := h
    refine g_sub [2, 1, 0] rfl ?_
    refine t_X7_advance_105 C hlk hr ?_ n51 _ _ _ _ h
    · intro b49 w50 h
      exact t_X7_advance_187 C hlk hr  _ _ h
theorem c_X7_advance {x : xG} {l : Launch} {a0 : Nat} {K : Int32 → Wd → Prop} {w : Wd} (h : w_X7_advance a0 K w) : Met l yX7_advance (xws yX7_advance cX7_advance 3 (some .boolean)) (rmd 1 0 0) (xPc x [.ref (adr x a0)] w) (QcI x K) 0 0 (xA x) := by
  refine xMet (by decide) (Nat.le_of_ble_eq_true rfl) (fun p e s m below meth c C hlk hr _ => ?_)
  show GW x p l e (rmd 1 0 0) s m [.ref (adr x a0)].toArray below meth c 3 (QI x K below [.ref (adr x a0)].toArray s 0 0) 0 [(0, .ref (adr x a0))] [] w 0 0
  refine g_aload_n (pc := 0) C dX7_advance_0 (q := 0) rfl ?_
  refine g_aload_n (pc := 1) C dX7_advance_1 (q := 0) rfl ?_
  obtain ⟨k1, h⟩ := h
  refine gfX7_31 (pc := 2) C k1 dX7_advance_2 ?_
  refine pfX7_28 (pc := 5) C k1 dX7_advance_5 ?_
  refine g_iconst (pc := 8) C dX7_advance_8 (v := 0) rfl ?_
  refine g_istore_n (pc := 9) C dX7_advance_9 (Nat.le_of_ble_eq_true rfl) (lo' := [(1, .int 0), (0, .ref (adr x a0))]) rfl ?_
  obtain ⟨n52, h⟩ := h
  refine g_sub [1, 0] rfl ?_
  refine t_X7_advance_10 C hlk hr ?_ n52 _ _ _ h
  · intro b10 w11 h
    exact t_X7_advance_47 C hlk hr  _ _ h
end ME
