/-! methods: X1_upOf, X1_everSleeps, X1_fromOf, X1_hasHouse, X1_hasWell, X1_joinWells, X1_needOf, X1_pairs, X1_toldShiftOf, X1_toldWaterOf, X2_waterOf, X2_allWater, X2_shiftOf, X2_isAwakeIn, X2_asleepBits, X2_awakeBits, X2_become, X2_beginWith, X2_pourOut, X2_pass, X2_dreamLevel, X2_isAwake, X11_has, X2_isSour, X2_passHour, X2_phaseOf, X2_turnTo, X2_putToSleep, X2_wakeUp, X5_become, X5_beginWith, X5_slot, X5_goBack, X5_remember, X10_cut, X10_layOut, X10_numberAt, X10_put, X4_wokenByYawns, X4_spread, X4_joinTwo, X4_valueOf -/
section ME
variable {x : xG} {p : Program} {l : Launch} {e : Env} {R : Room} {s : State} {m : MethodId} {args : Array Value} {below : List Frame} {meth : Method} {c : Code} {Q : State → Prop} {cc : ByteArray} {nL : Nat} {pc : Nat} {lo : List (Nat × Value)} {st : List Value} {w : Wd} {i j : Nat}
def w_X1_upOf (a0 : Nat) (a1 : Int32) (K : Int32 → Wd → Prop) (w : Wd) : Prop :=
  ((a1 < 0 → K 0 w) ∧ (¬ a1 < 0 → isK w a0 1 ∧ isK w (wR w a0 6) 20 ∧ (((Int32.ofNat (wn w (wR w a0 6))) ≤ a1 → K 0 w) ∧ (¬ (Int32.ofNat (wn w (wR w a0 6))) ≤ a1 → vp_in a1 (wn w (wR w a0 6)) ∧ K (wI w (wR w a0 6) a1.toNatClampNeg) w))))
theorem c_X1_upOf {x : xG} {l : Launch} {a0 : Nat} {a1 : Int32} {K : Int32 → Wd → Prop} {w : Wd} (h : w_X1_upOf a0 a1 K w) : Met l yX1_upOf (xws yX1_upOf cX1_upOf 2 (some .int)) (rmd 0 0 0) (xPc x [.ref (adr x a0), .int a1] w) (QcI x K) 0 0 (xA x) := by
  refine xMet (by decide) (Nat.le_of_ble_eq_true rfl) (fun p e s m below meth c C hlk hr _ => ?_)
  show GW x p l e (rmd 0 0 0) s m [.ref (adr x a0), .int a1].toArray below meth c 2 (QI x K below [.ref (adr x a0), .int a1].toArray s 0 0) 0 [(0, .ref (adr x a0)), (1, .int a1)] [] w 0 0
  refine g_iload_n (pc := 0) C dX1_upOf_0 (q := 1) rfl ?_
  refine g_if_lt (pc := 1) C dX1_upOf_1 (tgt := 22) rfl (fun z1 => ?_) (fun z1 => ?_)
  · replace h := h.1 z1
    refine g_iconst (pc := 22) C dX1_upOf_22 (v := 0) rfl ?_
    exact g_iret (pc := 23) C hlk hr (Nat.le_refl _) (Nat.le_refl _) dX1_upOf_23 h
  · replace h := h.2 z1
    refine g_iload_n (pc := 4) C dX1_upOf_4 (q := 1) rfl ?_
    refine g_aload_n (pc := 5) C dX1_upOf_5 (q := 0) rfl ?_
    obtain ⟨k2, h⟩ := h
    obtain ⟨k3, h⟩ := h
    refine gfX1_34 (pc := 6) C k2 (isK_ne k3) dX1_upOf_6 ?_
    refine g_alen (pc := 9) C k3 (by decide) dX1_upOf_9 ?_
    refine g_icmp_ge (pc := 10) C dX1_upOf_10 (tgt := 22) rfl (fun z4 => ?_) (fun z4 => ?_)
    · replace h := h.1 z4
      refine g_iconst (pc := 22) C dX1_upOf_22 (v := 0) rfl ?_
      exact g_iret (pc := 23) C hlk hr (Nat.le_refl _) (Nat.le_refl _) dX1_upOf_23 h
    · replace h := h.2 z4
      refine g_aload_n (pc := 13) C dX1_upOf_13 (q := 0) rfl ?_
      refine gfX1_34 (pc := 14) C k2 (isK_ne k3) dX1_upOf_14 ?_
      refine g_iload_n (pc := 17) C dX1_upOf_17 (q := 1) rfl ?_
      obtain ⟨k5, h⟩ := h
      refine g_iald (pc := 18) C k3 k5 dX1_upOf_18 ?_
      refine g_goto (pc := 19) C dX1_upOf_19 (tgt := 23) rfl ?_
      exact g_iret (pc := 23) C hlk hr (Nat.le_refl _) (Nat.le_refl _) dX1_upOf_23 h
theorem miX1_55 (C : xC x p s m c cc nL args RX1) {a0 : Nat} {a1 : Int32} {K : Int32 → Wd → Prop} {D MC MS : Nat} (hq : isK w a0 1) (h : w_X1_upOf a0 a1 K w) (hD : 0 + 1 ≤ D) (hW : (st.map fun v => v.category).sum ≤ 8) (hij : i ≤ MC ∧ j ≤ MS) (hd : decode cc pc = .ok (.invokevirtual 55, 3)) (k : ∀ (r : Int32) (u : Wd), K r u → GW x p l e (rmd D MC MS) s m args below meth c nL Q (pc + 3) lo (.int r :: st) u i j) : GW x p l e (rmd D MC MS) s m args below meth c nL Q pc lo (.int a1 :: .ref (adr x a0) :: st) w i j := g_callVi0 C (As := [.int a1]) (ci := 1) (c_X1_upOf h) (x_cwV C 1 LMX1_55 ⟨rfl, by decide, by decide, rfl⟩ hD (by decide)) rfl hq (by decide) rfl rfl hW hd hij k
theorem miX1_59 (C : xC x p s m c cc nL args RX1) {a0 : Nat} {a1 : Int32} {K : Int32 → Wd → Prop} {D MC MS : Nat} (hq : isK w a0 1) (h : w_X1_roundOf a0 a1 K w) (hD : 0 + 1 ≤ D) (hW : (st.map fun v => v.category).sum ≤ 8) (hij : i ≤ MC ∧ j ≤ MS) (hd : decode cc pc = .ok (.invokevirtual 59, 3)) (k : ∀ (r : Int32) (u : Wd), K r u → GW x p l e (rmd D MC MS) s m args below meth c nL Q (pc + 3) lo (.int r :: st) u i j) : GW x p l e (rmd D MC MS) s m args below meth c nL Q pc lo (.int a1 :: .ref (adr x a0) :: st) w i j := g_callVi0 C (As := [.int a1]) (ci := 1) (c_X1_roundOf h) (x_cwV C 1 LMX1_59 ⟨rfl, by decide, by decide, rfl⟩ hD (by decide)) rfl hq (by decide) rfl rfl hW hd hij k
def w_X1_everSleeps (a0 : Nat) (a1 : Int32) (K : Int32 → Wd → Prop) (w : Wd) : Prop :=
  isK w a0 1 ∧ w_X1_upOf a0 a1 (fun r2 w3 => isK w3 a0 1 ∧ w_X1_roundOf a0 a1 (fun r5 w6 => ((r5 ≤ r2 → K 0 w6) ∧ (¬ r5 ≤ r2 → K 1 w6))) w3) w
theorem c_X1_everSleeps {x : xG} {l : Launch} {a0 : Nat} {a1 : Int32} {K : Int32 → Wd → Prop} {w : Wd} (h : w_X1_everSleeps a0 a1 K w) : Met l yX1_everSleeps (xws yX1_everSleeps cX1_everSleeps 2 (some .boolean)) (rmd 1 0 0) (xPc x [.ref (adr x a0), .int a1] w) (QcI x K) 0 0 (xA x) := by
  refine xMet (by decide) (Nat.le_of_ble_eq_true rfl) (fun p e s m below meth c C hlk hr _ => ?_)
  show GW x p l e (rmd 1 0 0) s m [.ref (adr x a0), .int a1].toArray below meth c 2 (QI x K below [.ref (adr x a0), .int a1].toArray s 0 0) 0 [(0, .ref (adr x a0)), (1, .int a1)] [] w 0 0
  refine g_aload_n (pc := 0) C dX1_everSleeps_0 (q := 0) rfl ?_
  refine g_iload_n (pc := 1) C dX1_everSleeps_1 (q := 1) rfl ?_
  obtain ⟨k1, h⟩ := h
  refine miX1_55 (pc := 2) C k1 h (Nat.le_of_ble_eq_true rfl) (Nat.le_of_ble_eq_true rfl) ⟨Nat.le_refl _, Nat.le_refl _⟩ dX1_everSleeps_2 (fun r2 w3 h => ?_)
  refine g_aload_n (pc := 5) C dX1_everSleeps_5 (q := 0) rfl ?_
  refine g_iload_n (pc := 6) C dX1_everSleeps_6 (q := 1) rfl ?_
  obtain ⟨k4, h⟩ := h
  refine miX1_59 (pc := 7) C k4 h (Nat.le_of_ble_eq_true rfl) (Nat.le_of_ble_eq_true rfl) ⟨Nat.le_refl _, Nat.le_refl _⟩ dX1_everSleeps_7 (fun r5 w6 h => ?_)
  refine g_icmp_ge (pc := 10) C dX1_everSleeps_10 (tgt := 17) rfl (fun z7 => ?_) (fun z7 => ?_)
  · replace h := h.1 z7
    refine g_iconst (pc := 17) C dX1_everSleeps_17 (v := 0) rfl ?_
    exact g_zret (pc := 18) C hlk hr (Nat.le_refl _) (Nat.le_refl _) dX1_everSleeps_18 (Or.inl rfl) h
  · replace h := h.2 z7
    refine g_iconst (pc := 13) C dX1_everSleeps_13 (v := 1) rfl ?_
    refine g_goto (pc := 14) C dX1_everSleeps_14 (tgt := 18) rfl ?_
    exact g_zret (pc := 18) C hlk hr (Nat.le_refl _) (Nat.le_refl _) dX1_everSleeps_18 (Or.inr rfl) h
def w_X1_fromOf (a0 : Nat) (a1 : Int32) (K : Int32 → Wd → Prop) (w : Wd) : Prop :=
  ((a1 < 0 → K 0 w) ∧ (¬ a1 < 0 → isK w a0 1 ∧ isK w (wR w a0 12) 20 ∧ (((Int32.ofNat (wn w (wR w a0 12))) ≤ a1 → K 0 w) ∧ (¬ (Int32.ofNat (wn w (wR w a0 12))) ≤ a1 → vp_in a1 (wn w (wR w a0 12)) ∧ K (wI w (wR w a0 12) a1.toNatClampNeg) w))))
theorem c_X1_fromOf {x : xG} {l : Launch} {a0 : Nat} {a1 : Int32} {K : Int32 → Wd → Prop} {w : Wd} (h : w_X1_fromOf a0 a1 K w) : Met l yX1_fromOf (xws yX1_fromOf cX1_fromOf 2 (some .int)) (rmd 0 0 0) (xPc x [.ref (adr x a0), .int a1] w) (QcI x K) 0 0 (xA x) := by
  refine xMet (by decide) (Nat.le_of_ble_eq_true rfl) (fun p e s m below meth c C hlk hr _ => ?_)
  show GW x p l e (rmd 0 0 0) s m [.ref (adr x a0), .int a1].toArray below meth c 2 (QI x K below [.ref (adr x a0), .int a1].toArray s 0 0) 0 [(0, .ref (adr x a0)), (1, .int a1)] [] w 0 0
  refine g_iload_n (pc := 0) C dX1_fromOf_0 (q := 1) rfl ?_
  refine g_if_lt (pc := 1) C dX1_fromOf_1 (tgt := 22) rfl (fun z1 => ?_) (fun z1 => ?_)
  · replace h := h.1 z1
    refine g_iconst (pc := 22) C dX1_fromOf_22 (v := 0) rfl ?_
    exact g_iret (pc := 23) C hlk hr (Nat.le_refl _) (Nat.le_refl _) dX1_fromOf_23 h
  · replace h := h.2 z1
    refine g_iload_n (pc := 4) C dX1_fromOf_4 (q := 1) rfl ?_
    refine g_aload_n (pc := 5) C dX1_fromOf_5 (q := 0) rfl ?_
    obtain ⟨k2, h⟩ := h
    obtain ⟨k3, h⟩ := h
    refine gfX1_52 (pc := 6) C k2 (isK_ne k3) dX1_fromOf_6 ?_
    refine g_alen (pc := 9) C k3 (by decide) dX1_fromOf_9 ?_
    refine g_icmp_ge (pc := 10) C dX1_fromOf_10 (tgt := 22) rfl (fun z4 => ?_) (fun z4 => ?_)
    · replace h := h.1 z4
      refine g_iconst (pc := 22) C dX1_fromOf_22 (v := 0) rfl ?_
      exact g_iret (pc := 23) C hlk hr (Nat.le_refl _) (Nat.le_refl _) dX1_fromOf_23 h
    · replace h := h.2 z4
      refine g_aload_n (pc := 13) C dX1_fromOf_13 (q := 0) rfl ?_
      refine gfX1_52 (pc := 14) C k2 (isK_ne k3) dX1_fromOf_14 ?_
      refine g_iload_n (pc := 17) C dX1_fromOf_17 (q := 1) rfl ?_
      obtain ⟨k5, h⟩ := h
      refine g_iald (pc := 18) C k3 k5 dX1_fromOf_18 ?_
      refine g_goto (pc := 19) C dX1_fromOf_19 (tgt := 23) rfl ?_
      exact g_iret (pc := 23) C hlk hr (Nat.le_refl _) (Nat.le_refl _) dX1_fromOf_23 h
def w_X1_hasHouse (a0 : Nat) (a1 : Int32) (K : Int32 → Wd → Prop) (w : Wd) : Prop :=
  ((a1 < 0 → K 0 w) ∧ (¬ a1 < 0 → isK w a0 1 ∧ (((wI w a0 2) ≤ a1 → K 0 w) ∧ (¬ (wI w a0 2) ≤ a1 → ((6 ≤ a1 → K 0 w) ∧ (¬ 6 ≤ a1 → K 1 w))))))
theorem c_X1_hasHouse {x : xG} {l : Launch} {a0 : Nat} {a1 : Int32} {K : Int32 → Wd → Prop} {w : Wd} (h : w_X1_hasHouse a0 a1 K w) : Met l yX1_hasHouse (xws yX1_hasHouse cX1_hasHouse 2 (some .boolean)) (rmd 0 0 0) (xPc x [.ref (adr x a0), .int a1] w) (QcI x K) 0 0 (xA x) := by
  refine xMet (by decide) (Nat.le_of_ble_eq_true rfl) (fun p e s m below meth c C hlk hr _ => ?_)
  show GW x p l e (rmd 0 0 0) s m [.ref (adr x a0), .int a1].toArray below meth c 2 (QI x K below [.ref (adr x a0), .int a1].toArray s 0 0) 0 [(0, .ref (adr x a0)), (1, .int a1)] [] w 0 0
  refine g_iload_n (pc := 0) C dX1_hasHouse_0 (q := 1) rfl ?_
  refine g_if_lt (pc := 1) C dX1_hasHouse_1 (tgt := 22) rfl (fun z1 => ?_) (fun z1 => ?_)
  · replace h := h.1 z1
    refine g_iconst (pc := 22) C dX1_hasHouse_22 (v := 0) rfl ?_
    exact g_zret (pc := 23) C hlk hr (Nat.le_refl _) (Nat.le_refl _) dX1_hasHouse_23 (Or.inl rfl) h
  · replace h := h.2 z1
    refine g_iload_n (pc := 4) C dX1_hasHouse_4 (q := 1) rfl ?_
    refine g_aload_n (pc := 5) C dX1_hasHouse_5 (q := 0) rfl ?_
    obtain ⟨k2, h⟩ := h
    refine gfX1_18 (pc := 6) C k2 dX1_hasHouse_6 ?_
    refine g_icmp_ge (pc := 9) C dX1_hasHouse_9 (tgt := 22) rfl (fun z3 => ?_) (fun z3 => ?_)
    · replace h := h.1 z3
      refine g_iconst (pc := 22) C dX1_hasHouse_22 (v := 0) rfl ?_
      exact g_zret (pc := 23) C hlk hr (Nat.le_refl _) (Nat.le_refl _) dX1_hasHouse_23 (Or.inl rfl) h
    · replace h := h.2 z3
      refine g_iload_n (pc := 12) C dX1_hasHouse_12 (q := 1) rfl ?_
      refine g_bipush (pc := 13) C dX1_hasHouse_13 (v := 6) rfl ?_
      refine g_icmp_ge (pc := 15) C dX1_hasHouse_15 (tgt := 22) rfl (fun z4 => ?_) (fun z4 => ?_)
      · replace h := h.1 z4
        refine g_iconst (pc := 22) C dX1_hasHouse_22 (v := 0) rfl ?_
        exact g_zret (pc := 23) C hlk hr (Nat.le_refl _) (Nat.le_refl _) dX1_hasHouse_23 (Or.inl rfl) h
      · replace h := h.2 z4
        refine g_iconst (pc := 18) C dX1_hasHouse_18 (v := 1) rfl ?_
        refine g_goto (pc := 19) C dX1_hasHouse_19 (tgt := 23) rfl ?_
        exact g_zret (pc := 23) C hlk hr (Nat.le_refl _) (Nat.le_refl _) dX1_hasHouse_23 (Or.inr rfl) h
def w_X1_hasWell (a0 : Nat) (a1 : Int32) (K : Int32 → Wd → Prop) (w : Wd) : Prop :=
  ((a1 < 0 → K 0 w) ∧ (¬ a1 < 0 → isK w a0 1 ∧ (((wI w a0 1) ≤ a1 → K 0 w) ∧ (¬ (wI w a0 1) ≤ a1 → ((10 ≤ a1 → K 0 w) ∧ (¬ 10 ≤ a1 → K 1 w))))))
theorem c_X1_hasWell {x : xG} {l : Launch} {a0 : Nat} {a1 : Int32} {K : Int32 → Wd → Prop} {w : Wd} (h : w_X1_hasWell a0 a1 K w) : Met l yX1_hasWell (xws yX1_hasWell cX1_hasWell 2 (some .boolean)) (rmd 0 0 0) (xPc x [.ref (adr x a0), .int a1] w) (QcI x K) 0 0 (xA x) := by
  refine xMet (by decide) (Nat.le_of_ble_eq_true rfl) (fun p e s m below meth c C hlk hr _ => ?_)
  show GW x p l e (rmd 0 0 0) s m [.ref (adr x a0), .int a1].toArray below meth c 2 (QI x K below [.ref (adr x a0), .int a1].toArray s 0 0) 0 [(0, .ref (adr x a0)), (1, .int a1)] [] w 0 0
  refine g_iload_n (pc := 0) C dX1_hasWell_0 (q := 1) rfl ?_
  refine g_if_lt (pc := 1) C dX1_hasWell_1 (tgt := 22) rfl (fun z1 => ?_) (fun z1 => ?_)
  · replace h := h.1 z1
    refine g_iconst (pc := 22) C dX1_hasWell_22 (v := 0) rfl ?_
    exact g_zret (pc := 23) C hlk hr (Nat.le_refl _) (Nat.le_refl _) dX1_hasWell_23 (Or.inl rfl) h
  · replace h := h.2 z1
    refine g_iload_n (pc := 4) C dX1_hasWell_4 (q := 1) rfl ?_
    refine g_aload_n (pc := 5) C dX1_hasWell_5 (q := 0) rfl ?_
    obtain ⟨k2, h⟩ := h
    refine gfX1_15 (pc := 6) C k2 dX1_hasWell_6 ?_
    refine g_icmp_ge (pc := 9) C dX1_hasWell_9 (tgt := 22) rfl (fun z3 => ?_) (fun z3 => ?_)
    · replace h := h.1 z3
      refine g_iconst (pc := 22) C dX1_hasWell_22 (v := 0) rfl ?_
      exact g_zret (pc := 23) C hlk hr (Nat.le_refl _) (Nat.le_refl _) dX1_hasWell_23 (Or.inl rfl) h
    · replace h := h.2 z3
      refine g_iload_n (pc := 12) C dX1_hasWell_12 (q := 1) rfl ?_
      refine g_bipush (pc := 13) C dX1_hasWell_13 (v := 10) rfl ?_
      refine g_icmp_ge (pc := 15) C dX1_hasWell_15 (tgt := 22) rfl (fun z4 => ?_) (fun z4 => ?_)
      · replace h := h.1 z4
        refine g_iconst (pc := 22) C dX1_hasWell_22 (v := 0) rfl ?_
        exact g_zret (pc := 23) C hlk hr (Nat.le_refl _) (Nat.le_refl _) dX1_hasWell_23 (Or.inl rfl) h
      · replace h := h.2 z4
        refine g_iconst (pc := 18) C dX1_hasWell_18 (v := 1) rfl ?_
        refine g_goto (pc := 19) C dX1_hasWell_19 (tgt := 23) rfl ?_
        exact g_zret (pc := 23) C hlk hr (Nat.le_refl _) (Nat.le_refl _) dX1_hasWell_23 (Or.inr rfl) h
theorem miX1_70 (C : xC x p s m c cc nL args RX1) {a0 : Nat} {a1 : Int32} {K : Int32 → Wd → Prop} {D MC MS : Nat} (hq : isK w a0 1) (h : w_X1_hasWell a0 a1 K w) (hD : 0 + 1 ≤ D) (hW : (st.map fun v => v.category).sum ≤ 8) (hij : i ≤ MC ∧ j ≤ MS) (hd : decode cc pc = .ok (.invokevirtual 70, 3)) (k : ∀ (r : Int32) (u : Wd), K r u → GW x p l e (rmd D MC MS) s m args below meth c nL Q (pc + 3) lo (.int r :: st) u i j) : GW x p l e (rmd D MC MS) s m args below meth c nL Q pc lo (.int a1 :: .ref (adr x a0) :: st) w i j := g_callVi0 C (As := [.int a1]) (ci := 1) (c_X1_hasWell h) (x_cwV C 1 LMX1_70 ⟨rfl, by decide, by decide, rfl⟩ hD (by decide)) rfl hq (by decide) rfl rfl hW hd hij k
def w_X1_joinWells (a0 : Nat) (a1 : Int32) (a2 : Int32) (K : Wd → Prop) (w : Wd) : Prop :=
  isK w a0 1 ∧ w_X1_hasWell a0 a1 (fun r2 w3 => ((r2 = 0 → K w3) ∧ (¬ r2 = 0 → isK w3 a0 1 ∧ w_X1_hasWell a0 a2 (fun r6 w7 => ((r6 = 0 → K w7) ∧ (¬ r6 = 0 → isK w7 a0 1 ∧ isK w7 (wR w7 a0 10) 20 ∧ vp_in a1 (wn w7 (wR w7 a0 10)) ∧ vp_in a1 (wn w7 (wR w7 a0 10)) ∧ vp_in a2 (wn w7 (wR w7 a0 10)) ∧ vp_in a2 (wn w7 (wR w7 a0 10)) ∧ K (uI (uI w7 (wR w7 a0 10) a1.toNatClampNeg ((wI w7 (wR w7 a0 10) a1.toNatClampNeg) ||| (x_ishl 1 a2))) (wR w7 a0 10) a2.toNatClampNeg ((wI (uI w7 (wR w7 a0 10) a1.toNatClampNeg ((wI w7 (wR w7 a0 10) a1.toNatClampNeg) ||| (x_ishl 1 a2))) (wR w7 a0 10) a2.toNatClampNeg) ||| (x_ishl 1 a1)))))) w3))) w
theorem c_X1_joinWells {x : xG} {l : Launch} {a0 : Nat} {a1 : Int32} {a2 : Int32} {K : Wd → Prop} {w : Wd} (h : w_X1_joinWells a0 a1 a2 K w) : Met l yX1_joinWells (xws yX1_joinWells cX1_joinWells 3 none) (rmd 1 0 0) (xPc x [.ref (adr x a0), .int a1, .int a2] w) (QcV x K) 0 0 (xA x) := by
  refine xMet (by decide) (Nat.le_of_ble_eq_true rfl) (fun p e s m below meth c C hlk hr _ => ?_)
  show GW x p l e (rmd 1 0 0) s m [.ref (adr x a0), .int a1, .int a2].toArray below meth c 3 (QV x K below [.ref (adr x a0), .int a1, .int a2].toArray s 0 0) 0 [(0, .ref (adr x a0)), (1, .int a1), (2, .int a2)] [] w 0 0
  refine g_aload_n (pc := 0) C dX1_joinWells_0 (q := 0) rfl ?_
  refine g_iload_n (pc := 1) C dX1_joinWells_1 (q := 1) rfl ?_
  obtain ⟨k1, h⟩ := h
  refine miX1_70 (pc := 2) C k1 h (Nat.le_of_ble_eq_true rfl) (Nat.le_of_ble_eq_true rfl) ⟨Nat.le_refl _, Nat.le_refl _⟩ dX1_joinWells_2 (fun r2 w3 h => ?_)
  refine g_if_eq (pc := 5) C dX1_joinWells_5 (tgt := 40) rfl (fun z4 => ?_) (fun z4 => ?_)
  · replace h := h.1 z4
    exact g_vret (pc := 40) C hlk hr (Nat.le_refl _) (Nat.le_refl _) dX1_joinWells_40 h
  · replace h := h.2 z4
    refine g_aload_n (pc := 8) C dX1_joinWells_8 (q := 0) rfl ?_
    refine g_iload_n (pc := 9) C dX1_joinWells_9 (q := 2) rfl ?_
    obtain ⟨k5, h⟩ := h
    refine miX1_70 (pc := 10) C k5 h (Nat.le_of_ble_eq_true rfl) (Nat.le_of_ble_eq_true rfl) ⟨Nat.le_refl _, Nat.le_refl _⟩ dX1_joinWells_10 (fun r6 w7 h => ?_)
    refine g_if_eq (pc := 13) C dX1_joinWells_13 (tgt := 40) rfl (fun z8 => ?_) (fun z8 => ?_)
    · replace h := h.1 z8
      exact g_vret (pc := 40) C hlk hr (Nat.le_refl _) (Nat.le_refl _) dX1_joinWells_40 h
    · replace h := h.2 z8
      refine g_aload_n (pc := 16) C dX1_joinWells_16 (q := 0) rfl ?_
      obtain ⟨k9, h⟩ := h
      obtain ⟨k10, h⟩ := h
      refine gfX1_46 (pc := 17) C k9 (isK_ne k10) dX1_joinWells_17 ?_
      refine g_iload_n (pc := 20) C dX1_joinWells_20 (q := 1) rfl ?_
      refine g_dup2 (pc := 21) C dX1_joinWells_21 rfl rfl ?_
      obtain ⟨k11, h⟩ := h
      refine g_iald (pc := 22) C k10 k11 dX1_joinWells_22 ?_
      refine g_iconst (pc := 23) C dX1_joinWells_23 (v := 1) rfl ?_
      refine g_iload_n (pc := 24) C dX1_joinWells_24 (q := 2) rfl ?_
      refine h_ishl (pc := 25) C dX1_joinWells_25 ?_
      refine g_ior (pc := 26) C dX1_joinWells_26 ?_
      obtain ⟨k12, h⟩ := h
      refine g_iast (pc := 27) C k10 k12 dX1_joinWells_27 ?_
      refine g_aload_n (pc := 28) C dX1_joinWells_28 (q := 0) rfl ?_
      refine gfX1_46 (pc := 29) (w := uI w7 (wR w7 a0 10) a1.toNatClampNeg ((wI w7 (wR w7 a0 10) a1.toNatClampNeg) ||| (x_ishl 1 a2))) C k9 (isK_ne k10) dX1_joinWells_29 ?_
      refine g_iload_n (pc := 32) C dX1_joinWells_32 (q := 2) rfl ?_
      refine g_dup2 (pc := 33) C dX1_joinWells_33 rfl rfl ?_
      obtain ⟨k13, h⟩ := h
      refine g_iald (pc := 34) (w := uI w7 (wR w7 a0 10) a1.toNatClampNeg ((wI w7 (wR w7 a0 10) a1.toNatClampNeg) ||| (x_ishl 1 a2))) C k10 k13 dX1_joinWells_34 ?_
      refine g_iconst (pc := 35) C dX1_joinWells_35 (v := 1) rfl ?_
      refine g_iload_n (pc := 36) C dX1_joinWells_36 (q := 1) rfl ?_
      refine h_ishl (pc := 37) C dX1_joinWells_37 ?_
      refine g_ior (pc := 38) C dX1_joinWells_38 ?_
      obtain ⟨k14, h⟩ := h
      refine g_iast (pc := 39) (w := uI w7 (wR w7 a0 10) a1.toNatClampNeg ((wI w7 (wR w7 a0 10) a1.toNatClampNeg) ||| (x_ishl 1 a2))) C k10 k14 dX1_joinWells_39 ?_
      exact g_vret (pc := 40) C hlk hr (Nat.le_refl _) (Nat.le_refl _) dX1_joinWells_40 h
def w_X1_needOf (a0 : Nat) (a1 : Int32) (K : Int32 → Wd → Prop) (w : Wd) : Prop :=
  ((a1 < 0 → K 0 w) ∧ (¬ a1 < 0 → isK w a0 1 ∧ isK w (wR w a0 11) 20 ∧ (((Int32.ofNat (wn w (wR w a0 11))) ≤ a1 → K 0 w) ∧ (¬ (Int32.ofNat (wn w (wR w a0 11))) ≤ a1 → vp_in a1 (wn w (wR w a0 11)) ∧ K (wI w (wR w a0 11) a1.toNatClampNeg) w))))
theorem c_X1_needOf {x : xG} {l : Launch} {a0 : Nat} {a1 : Int32} {K : Int32 → Wd → Prop} {w : Wd} (h : w_X1_needOf a0 a1 K w) : Met l yX1_needOf (xws yX1_needOf cX1_needOf 2 (some .int)) (rmd 0 0 0) (xPc x [.ref (adr x a0), .int a1] w) (QcI x K) 0 0 (xA x) := by
  refine xMet (by decide) (Nat.le_of_ble_eq_true rfl) (fun p e s m below meth c C hlk hr _ => ?_)
  show GW x p l e (rmd 0 0 0) s m [.ref (adr x a0), .int a1].toArray below meth c 2 (QI x K below [.ref (adr x a0), .int a1].toArray s 0 0) 0 [(0, .ref (adr x a0)), (1, .int a1)] [] w 0 0
  refine g_iload_n (pc := 0) C dX1_needOf_0 (q := 1) rfl ?_
  refine g_if_lt (pc := 1) C dX1_needOf_1 (tgt := 22) rfl (fun z1 => ?_) (fun z1 => ?_)
  · replace h := h.1 z1
    refine g_iconst (pc := 22) C dX1_needOf_22 (v := 0) rfl ?_
    exact g_iret (pc := 23) C hlk hr (Nat.le_refl _) (Nat.le_refl _) dX1_needOf_23 h
  · replace h := h.2 z1
    refine g_iload_n (pc := 4) C dX1_needOf_4 (q := 1) rfl ?_
    refine g_aload_n (pc := 5) C dX1_needOf_5 (q := 0) rfl ?_
    obtain ⟨k2, h⟩ := h
    obtain ⟨k3, h⟩ := h
    refine gfX1_49 (pc := 6) C k2 (isK_ne k3) dX1_needOf_6 ?_
    refine g_alen (pc := 9) C k3 (by decide) dX1_needOf_9 ?_
    refine g_icmp_ge (pc := 10) C dX1_needOf_10 (tgt := 22) rfl (fun z4 => ?_) (fun z4 => ?_)
    · replace h := h.1 z4
      refine g_iconst (pc := 22) C dX1_needOf_22 (v := 0) rfl ?_
      exact g_iret (pc := 23) C hlk hr (Nat.le_refl _) (Nat.le_refl _) dX1_needOf_23 h
    · replace h := h.2 z4
      refine g_aload_n (pc := 13) C dX1_needOf_13 (q := 0) rfl ?_
      refine gfX1_49 (pc := 14) C k2 (isK_ne k3) dX1_needOf_14 ?_
      refine g_iload_n (pc := 17) C dX1_needOf_17 (q := 1) rfl ?_
      obtain ⟨k5, h⟩ := h
      refine g_iald (pc := 18) C k3 k5 dX1_needOf_18 ?_
      refine g_goto (pc := 19) C dX1_needOf_19 (tgt := 23) rfl ?_
      exact g_iret (pc := 23) C hlk hr (Nat.le_refl _) (Nat.le_refl _) dX1_needOf_23 h
theorem miX1_62 (C : xC x p s m c cc nL args RX1) {a0 : Nat} {a1 : Int32} {K : Int32 → Wd → Prop} {D MC MS : Nat} (hq : isK w a0 1) (h : w_X1_besideOf a0 a1 K w) (hD : 0 + 1 ≤ D) (hW : (st.map fun v => v.category).sum ≤ 8) (hij : i ≤ MC ∧ j ≤ MS) (hd : decode cc pc = .ok (.invokevirtual 62, 3)) (k : ∀ (r : Int32) (u : Wd), K r u → GW x p l e (rmd D MC MS) s m args below meth c nL Q (pc + 3) lo (.int r :: st) u i j) : GW x p l e (rmd D MC MS) s m args below meth c nL Q pc lo (.int a1 :: .ref (adr x a0) :: st) w i j := g_callVi0 C (As := [.int a1]) (ci := 1) (c_X1_besideOf h) (x_cwV C 1 LMX1_62 ⟨rfl, by decide, by decide, rfl⟩ hD (by decide)) rfl hq (by decide) rfl rfl hW hd hij k
theorem miX1_65 (C : xC x p s m c cc nL args RX1) {a0 : Int32} {K : Int32 → Wd → Prop} {D MC MS : Nat} (h : w_J6_bitCount_0f7a4 a0 K w) (hD : 0 + 1 ≤ D) (hW : (st.map fun v => v.category).sum ≤ 8) (hij : i ≤ MC ∧ j ≤ MS) (hd : decode cc pc = .ok (.invokestatic 65, 3)) (k : ∀ (r : Int32) (u : Wd), K r u → GW x p l e (rmd D MC MS) s m args below meth c nL Q (pc + 3) lo (.int r :: st) u i j) : GW x p l e (rmd D MC MS) s m args below meth c nL Q pc lo (.int a0 :: st) w i j := g_callSi0 C (As := [.int a0]) (c_J6_bitCount_0f7a4 h) (x_cwS C 1 LMX1_65 ⟨by decide, by decide, rfl⟩ hD (by decide)) rfl rfl hW hd hij k
def l_X1_pairs_4  (K : Int32 → Wd → Prop) : Nat → Nat → Int32 → Int32 → Wd → Prop
  | 0, _, _, _, _ => False
  | n + 1, a0, a1, a2, w => isK w a0 1 ∧ (((wI w a0 1) ≤ a2 → K (a1 / 2) w) ∧ (¬ (wI w a0 1) ≤ a2 → w_X1_besideOf a0 a2 (fun r3 w4 => w_J6_bitCount_0f7a4 r3 (fun r5 w6 => l_X1_pairs_4 K n a0 (a1 + r5) (a2 + 1) w6) w4) w))
def w_X1_pairs (a0 : Nat) (K : Int32 → Wd → Prop) (w : Wd) : Prop :=
  ∃ n7, l_X1_pairs_4  K n7 a0 0 0 w
theorem t_X1_pairs_4 (C : xC x p s m c cX1_pairs 3 args RX1) (hlk : meth.locks = false) (hr : meth.sig.returnType = some .int) {K : Int32 → Wd → Prop}   : ∀ (n : Nat) (a0 : Nat) (a1 : Int32) (a2 : Int32) (w : Wd), l_X1_pairs_4 K n a0 a1 a2 w → GW x p l e (rmd 1 0 0) s m args below meth c 3 (QI x K below args s 0 0) 4 [(0, .ref (adr x a0)), (1, .int a1), (2, .int a2)] [] w 0 0 := by
  intro n
  induction n with
  | zero => intro _ _ _ _ h; exact False.elim h
  | succ n ih =>
    intro a0 a1 a2 w h
    refine g_iload_n (pc := 4) C dX1_pairs_4 (q := 2) rfl ?_
    refine g_aload_n (pc := 5) C dX1_pairs_5 (q := 0) rfl ?_
    obtain ⟨k1, h⟩ := h
    refine gfX1_15 (pc := 6) C k1 dX1_pairs_6 ?_
    refine g_icmp_ge (pc := 9) C dX1_pairs_9 (tgt := 29) rfl (fun z2 => ?_) (fun z2 => ?_)
    · replace h := h.1 z2
      refine g_iload_n (pc := 29) C dX1_pairs_29 (q := 1) rfl ?_
      refine g_iconst (pc := 30) C dX1_pairs_30 (v := 2) rfl ?_
      refine g_idiv (pc := 31) C dX1_pairs_31 (by decide) ?_
      exact g_iret (pc := 32) C hlk hr (Nat.le_refl _) (Nat.le_refl _) dX1_pairs_32 h
    · replace h := h.2 z2
      refine g_iload_n (pc := 12) C dX1_pairs_12 (q := 1) rfl ?_
      refine g_aload_n (pc := 13) C dX1_pairs_13 (q := 0) rfl ?_
      refine g_iload_n (pc := 14) C dX1_pairs_14 (q := 2) rfl ?_
      refine miX1_62 (pc := 15) C k1 h (Nat.le_of_ble_eq_true rfl) (Nat.le_of_ble_eq_true rfl) ⟨Nat.le_refl _, Nat.le_refl _⟩ dX1_pairs_15 (fun r3 w4 h => ?_)
      refine miX1_65 (pc := 18) C h (Nat.le_of_ble_eq_true rfl) (Nat.le_of_ble_eq_true rfl) ⟨Nat.le_refl _, Nat.le_refl _⟩ dX1_pairs_18 (fun r5 w6 h => ?_)
      refine g_iadd (pc := 21) C dX1_pairs_21 ?_
      refine g_istore_n (pc := 22) C dX1_pairs_22 (Nat.le_of_ble_eq_true rfl) (lo' := [(1, .int (a1 + r5)), (0, .ref (adr x a0)), (2, .int a2)]) rfl ?_
      refine g_iinc (pc := 23) C dX1_pairs_23 (q := 2) rfl (v2 := a2 + 1) rfl (Nat.le_of_ble_eq_true rfl) (lo' := [(2, .int (a2 + 1)), (1, .int (a1 + r5)), (0, .ref (adr x a0))]) rfl ?_
      refine g_goto (pc := 26) C dX1_pairs_26 (tgt := 4) rfl ?_
      refine g_sub [2, 1, 0] rfl ?_
      exact ih _ _ _ _ h
theorem c_X1_pairs {x : xG} {l : Launch} {a0 : Nat} {K : Int32 → Wd → Prop} {w : Wd} (h : w_X1_pairs a0 K w) : Met l yX1_pairs (xws yX1_pairs cX1_pairs 3 (some .int)) (rmd 1 0 0) (xPc x [.ref (adr x a0)] w) (QcI x K) 0 0 (xA x) := by
  refine xMet (by decide) (Nat.le_of_ble_eq_true rfl) (fun p e s m below meth c C hlk hr _ => ?_)
  show GW x p l e (rmd 1 0 0) s m [.ref (adr x a0)].toArray below meth c 3 (QI x K below [.ref (adr x a0)].toArray s 0 0) 0 [(0, .ref (adr x a0))] [] w 0 0
  refine g_iconst (pc := 0) C dX1_pairs_0 (v := 0) rfl ?_
  refine g_istore_n (pc := 1) C dX1_pairs_1 (Nat.le_of_ble_eq_true rfl) (lo' := [(1, .int 0), (0, .ref (adr x a0))]) rfl ?_
  refine g_iconst (pc := 2) C dX1_pairs_2 (v := 0) rfl ?_
  refine g_istore_n (pc := 3) C dX1_pairs_3 (Nat.le_of_ble_eq_true rfl) (lo' := [(2, .int 0), (1, .int 0), (0, .ref (adr x a0))]) rfl ?_
  obtain ⟨n7, h⟩ := h
  refine g_sub [2, 1, 0] rfl ?_
  refine t_X1_pairs_4 C hlk hr n7 _ _ _ _ h
def w_X1_toldShiftOf (a0 : Nat) (a1 : Int32) (K : Int32 → Wd → Prop) (w : Wd) : Prop :=
  ((a1 < 0 → K 0 w) ∧ (¬ a1 < 0 → isK w a0 1 ∧ isK w (wR w a0 7) 20 ∧ (((Int32.ofNat (wn w (wR w a0 7))) ≤ a1 → K 0 w) ∧ (¬ (Int32.ofNat (wn w (wR w a0 7))) ≤ a1 → vp_in a1 (wn w (wR w a0 7)) ∧ K (wI w (wR w a0 7) a1.toNatClampNeg) w))))
theorem c_X1_toldShiftOf {x : xG} {l : Launch} {a0 : Nat} {a1 : Int32} {K : Int32 → Wd → Prop} {w : Wd} (h : w_X1_toldShiftOf a0 a1 K w) : Met l yX1_toldShiftOf (xws yX1_toldShiftOf cX1_toldShiftOf 2 (some .int)) (rmd 0 0 0) (xPc x [.ref (adr x a0), .int a1] w) (QcI x K) 0 0 (xA x) := by
  refine xMet (by decide) (Nat.le_of_ble_eq_true rfl) (fun p e s m below meth c C hlk hr _ => ?_)
  show GW x p l e (rmd 0 0 0) s m [.ref (adr x a0), .int a1].toArray below meth c 2 (QI x K below [.ref (adr x a0), .int a1].toArray s 0 0) 0 [(0, .ref (adr x a0)), (1, .int a1)] [] w 0 0
  refine g_iload_n (pc := 0) C dX1_toldShiftOf_0 (q := 1) rfl ?_
  refine g_if_lt (pc := 1) C dX1_toldShiftOf_1 (tgt := 22) rfl (fun z1 => ?_) (fun z1 => ?_)
  · replace h := h.1 z1
    refine g_iconst (pc := 22) C dX1_toldShiftOf_22 (v := 0) rfl ?_
    exact g_iret (pc := 23) C hlk hr (Nat.le_refl _) (Nat.le_refl _) dX1_toldShiftOf_23 h
  · replace h := h.2 z1
    refine g_iload_n (pc := 4) C dX1_toldShiftOf_4 (q := 1) rfl ?_
    refine g_aload_n (pc := 5) C dX1_toldShiftOf_5 (q := 0) rfl ?_
    obtain ⟨k2, h⟩ := h
    obtain ⟨k3, h⟩ := h
    refine gfX1_37 (pc := 6) C k2 (isK_ne k3) dX1_toldShiftOf_6 ?_
    refine g_alen (pc := 9) C k3 (by decide) dX1_toldShiftOf_9 ?_
    refine g_icmp_ge (pc := 10) C dX1_toldShiftOf_10 (tgt := 22) rfl (fun z4 => ?_) (fun z4 => ?_)
    · replace h := h.1 z4
      refine g_iconst (pc := 22) C dX1_toldShiftOf_22 (v := 0) rfl ?_
      exact g_iret (pc := 23) C hlk hr (Nat.le_refl _) (Nat.le_refl _) dX1_toldShiftOf_23 h
    · replace h := h.2 z4
      refine g_aload_n (pc := 13) C dX1_toldShiftOf_13 (q := 0) rfl ?_
      refine gfX1_37 (pc := 14) C k2 (isK_ne k3) dX1_toldShiftOf_14 ?_
      refine g_iload_n (pc := 17) C dX1_toldShiftOf_17 (q := 1) rfl ?_
      obtain ⟨k5, h⟩ := h
      refine g_iald (pc := 18) C k3 k5 dX1_toldShiftOf_18 ?_
      refine g_goto (pc := 19) C dX1_toldShiftOf_19 (tgt := 23) rfl ?_
      exact g_iret (pc := 23) C hlk hr (Nat.le_refl _) (Nat.le_refl _) dX1_toldShiftOf_23 h
def w_X1_toldWaterOf (a0 : Nat) (a1 : Int32) (K : Int32 → Wd → Prop) (w : Wd) : Prop :=
  ((a1 < 0 → K 0 w) ∧ (¬ a1 < 0 → isK w a0 1 ∧ isK w (wR w a0 9) 20 ∧ (((Int32.ofNat (wn w (wR w a0 9))) ≤ a1 → K 0 w) ∧ (¬ (Int32.ofNat (wn w (wR w a0 9))) ≤ a1 → vp_in a1 (wn w (wR w a0 9)) ∧ K (wI w (wR w a0 9) a1.toNatClampNeg) w))))
theorem c_X1_toldWaterOf {x : xG} {l : Launch} {a0 : Nat} {a1 : Int32} {K : Int32 → Wd → Prop} {w : Wd} (h : w_X1_toldWaterOf a0 a1 K w) : Met l yX1_toldWaterOf (xws yX1_toldWaterOf cX1_toldWaterOf 2 (some .int)) (rmd 0 0 0) (xPc x [.ref (adr x a0), .int a1] w) (QcI x K) 0 0 (xA x) := by
  refine xMet (by decide) (Nat.le_of_ble_eq_true rfl) (fun p e s m below meth c C hlk hr _ => ?_)
  show GW x p l e (rmd 0 0 0) s m [.ref (adr x a0), .int a1].toArray below meth c 2 (QI x K below [.ref (adr x a0), .int a1].toArray s 0 0) 0 [(0, .ref (adr x a0)), (1, .int a1)] [] w 0 0
  refine g_iload_n (pc := 0) C dX1_toldWaterOf_0 (q := 1) rfl ?_
  refine g_if_lt (pc := 1) C dX1_toldWaterOf_1 (tgt := 22) rfl (fun z1 => ?_) (fun z1 => ?_)
  · replace h := h.1 z1
    refine g_iconst (pc := 22) C dX1_toldWaterOf_22 (v := 0) rfl ?_
    exact g_iret (pc := 23) C hlk hr (Nat.le_refl _) (Nat.le_refl _) dX1_toldWaterOf_23 h
  · replace h := h.2 z1
    refine g_iload_n (pc := 4) C dX1_toldWaterOf_4 (q := 1) rfl ?_
    refine g_aload_n (pc := 5) C dX1_toldWaterOf_5 (q := 0) rfl ?_
    obtain ⟨k2, h⟩ := h
    obtain ⟨k3, h⟩ := h
    refine gfX1_43 (pc := 6) C k2 (isK_ne k3) dX1_toldWaterOf_6 ?_
    refine g_alen (pc := 9) C k3 (by decide) dX1_toldWaterOf_9 ?_
    refine g_icmp_ge (pc := 10) C dX1_toldWaterOf_10 (tgt := 22) rfl (fun z4 => ?_) (fun z4 => ?_)
    · replace h := h.1 z4
      refine g_iconst (pc := 22) C dX1_toldWaterOf_22 (v := 0) rfl ?_
      exact g_iret (pc := 23) C hlk hr (Nat.le_refl _) (Nat.le_refl _) dX1_toldWaterOf_23 h
    · replace h := h.2 z4
      refine g_aload_n (pc := 13) C dX1_toldWaterOf_13 (q := 0) rfl ?_
      refine gfX1_43 (pc := 14) C k2 (isK_ne k3) dX1_toldWaterOf_14 ?_
      refine g_iload_n (pc := 17) C dX1_toldWaterOf_17 (q := 1) rfl ?_
      obtain ⟨k5, h⟩ := h
      refine g_iald (pc := 18) C k3 k5 dX1_toldWaterOf_18 ?_
      refine g_goto (pc := 19) C dX1_toldWaterOf_19 (tgt := 23) rfl ?_
      exact g_iret (pc := 23) C hlk hr (Nat.le_refl _) (Nat.le_refl _) dX1_toldWaterOf_23 h
def w_X2_waterOf (a0 : Nat) (a1 : Int32) (K : Int32 → Wd → Prop) (w : Wd) : Prop :=
  ((a1 < 0 → K 0 w) ∧ (¬ a1 < 0 → isK w a0 2 ∧ isK w (wR w a0 4) 20 ∧ (((Int32.ofNat (wn w (wR w a0 4))) ≤ a1 → K 0 w) ∧ (¬ (Int32.ofNat (wn w (wR w a0 4))) ≤ a1 → vp_in a1 (wn w (wR w a0 4)) ∧ K (wI w (wR w a0 4) a1.toNatClampNeg) w))))
theorem c_X2_waterOf {x : xG} {l : Launch} {a0 : Nat} {a1 : Int32} {K : Int32 → Wd → Prop} {w : Wd} (h : w_X2_waterOf a0 a1 K w) : Met l yX2_waterOf (xws yX2_waterOf cX2_waterOf 2 (some .int)) (rmd 0 0 0) (xPc x [.ref (adr x a0), .int a1] w) (QcI x K) 0 0 (xA x) := by
  refine xMet (by decide) (Nat.le_of_ble_eq_true rfl) (fun p e s m below meth c C hlk hr _ => ?_)
  show GW x p l e (rmd 0 0 0) s m [.ref (adr x a0), .int a1].toArray below meth c 2 (QI x K below [.ref (adr x a0), .int a1].toArray s 0 0) 0 [(0, .ref (adr x a0)), (1, .int a1)] [] w 0 0
  refine g_iload_n (pc := 0) C dX2_waterOf_0 (q := 1) rfl ?_
  refine g_if_lt (pc := 1) C dX2_waterOf_1 (tgt := 22) rfl (fun z1 => ?_) (fun z1 => ?_)
  · replace h := h.1 z1
    refine g_iconst (pc := 22) C dX2_waterOf_22 (v := 0) rfl ?_
    exact g_iret (pc := 23) C hlk hr (Nat.le_refl _) (Nat.le_refl _) dX2_waterOf_23 h
  · replace h := h.2 z1
    refine g_iload_n (pc := 4) C dX2_waterOf_4 (q := 1) rfl ?_
    refine g_aload_n (pc := 5) C dX2_waterOf_5 (q := 0) rfl ?_
    obtain ⟨k2, h⟩ := h
    obtain ⟨k3, h⟩ := h
    refine gfX2_22 (pc := 6) C k2 (isK_ne k3) dX2_waterOf_6 ?_
    refine g_alen (pc := 9) C k3 (by decide) dX2_waterOf_9 ?_
    refine g_icmp_ge (pc := 10) C dX2_waterOf_10 (tgt := 22) rfl (fun z4 => ?_) (fun z4 => ?_)
    · replace h := h.1 z4
      refine g_iconst (pc := 22) C dX2_waterOf_22 (v := 0) rfl ?_
      exact g_iret (pc := 23) C hlk hr (Nat.le_refl _) (Nat.le_refl _) dX2_waterOf_23 h
    · replace h := h.2 z4
      refine g_aload_n (pc := 13) C dX2_waterOf_13 (q := 0) rfl ?_
      refine gfX2_22 (pc := 14) C k2 (isK_ne k3) dX2_waterOf_14 ?_
      refine g_iload_n (pc := 17) C dX2_waterOf_17 (q := 1) rfl ?_
      obtain ⟨k5, h⟩ := h
      refine g_iald (pc := 18) C k3 k5 dX2_waterOf_18 ?_
      refine g_goto (pc := 19) C dX2_waterOf_19 (tgt := 23) rfl ?_
      exact g_iret (pc := 23) C hlk hr (Nat.le_refl _) (Nat.le_refl _) dX2_waterOf_23 h
theorem miX2_63 (C : xC x p s m c cc nL args RX2) {a0 : Nat} {a1 : Int32} {K : Int32 → Wd → Prop} {D MC MS : Nat} (hq : isK w a0 2) (h : w_X2_waterOf a0 a1 K w) (hD : 0 + 1 ≤ D) (hW : (st.map fun v => v.category).sum ≤ 8) (hij : i ≤ MC ∧ j ≤ MS) (hd : decode cc pc = .ok (.invokevirtual 63, 3)) (k : ∀ (r : Int32) (u : Wd), K r u → GW x p l e (rmd D MC MS) s m args below meth c nL Q (pc + 3) lo (.int r :: st) u i j) : GW x p l e (rmd D MC MS) s m args below meth c nL Q pc lo (.int a1 :: .ref (adr x a0) :: st) w i j := g_callVi0 C (As := [.int a1]) (ci := 2) (c_X2_waterOf h) (x_cwV C 1 LMX2_63 ⟨rfl, by decide, by decide, rfl⟩ hD (by decide)) rfl hq (by decide) rfl rfl hW hd hij k
def l_X2_allWater_4  (K : Int32 → Wd → Prop) : Nat → Nat → Int32 → Int32 → Wd → Prop
  | 0, _, _, _, _ => False
  | n + 1, a0, a1, a2, w => isK w a0 2 ∧ isK w (wR w a0 0) 1 ∧ (((wI w (wR w a0 0) 1) ≤ a2 → K a1 w) ∧ (¬ (wI w (wR w a0 0) 1) ≤ a2 → w_X2_waterOf a0 a2 (fun r4 w5 => l_X2_allWater_4 K n a0 (a1 + r4) (a2 + 1) w5) w))
def w_X2_allWater (a0 : Nat) (K : Int32 → Wd → Prop) (w : Wd) : Prop :=
  ∃ n6, l_X2_allWater_4  K n6 a0 0 0 w
theorem t_X2_allWater_4 (C : xC x p s m c cX2_allWater 3 args RX2) (hlk : meth.locks = false) (hr : meth.sig.returnType = some .int) {K : Int32 → Wd → Prop}   : ∀ (n : Nat) (a0 : Nat) (a1 : Int32) (a2 : Int32) (w : Wd), l_X2_allWater_4 K n a0 a1 a2 w → GW x p l e (rmd 1 0 0) s m args below meth c 3 (QI x K below args s 0 0) 4 [(0, .ref (adr x a0)), (1, .int a1), (2, .int a2)] [] w 0 0 := by
  intro n
  induction n with
  | zero => intro _ _ _ _ h; exact False.elim h
  | succ n ih =>
    intro a0 a1 a2 w h
    refine g_iload_n (pc := 4) C dX2_allWater_4 (q := 2) rfl ?_
    refine g_aload_n (pc := 5) C dX2_allWater_5 (q := 0) rfl ?_
    obtain ⟨k1, h⟩ := h
    obtain ⟨k2, h⟩ := h
    refine gfX2_25 (pc := 6) C k1 (isK_ne k2) dX2_allWater_6 ?_
    refine gfX2_60 (pc := 9) C k2 dX2_allWater_9 ?_
    refine g_icmp_ge (pc := 12) C dX2_allWater_12 (tgt := 29) rfl (fun z3 => ?_) (fun z3 => ?_)
    · replace h := h.1 z3
      refine g_iload_n (pc := 29) C dX2_allWater_29 (q := 1) rfl ?_
      exact g_iret (pc := 30) C hlk hr (Nat.le_refl _) (Nat.le_refl _) dX2_allWater_30 h
    · replace h := h.2 z3
      refine g_iload_n (pc := 15) C dX2_allWater_15 (q := 1) rfl ?_
      refine g_aload_n (pc := 16) C dX2_allWater_16 (q := 0) rfl ?_
      refine g_iload_n (pc := 17) C dX2_allWater_17 (q := 2) rfl ?_
      refine miX2_63 (pc := 18) C k1 h (Nat.le_of_ble_eq_true rfl) (Nat.le_of_ble_eq_true rfl) ⟨Nat.le_refl _, Nat.le_refl _⟩ dX2_allWater_18 (fun r4 w5 h => ?_)
      refine g_iadd (pc := 21) C dX2_allWater_21 ?_
      refine g_istore_n (pc := 22) C dX2_allWater_22 (Nat.le_of_ble_eq_true rfl) (lo' := [(1, .int (a1 + r4)), (0, .ref (adr x a0)), (2, .int a2)]) rfl ?_
      refine g_iinc (pc := 23) C dX2_allWater_23 (q := 2) rfl (v2 := a2 + 1) rfl (Nat.le_of_ble_eq_true rfl) (lo' := [(2, .int (a2 + 1)), (1, .int (a1 + r4)), (0, .ref (adr x a0))]) rfl ?_
      refine g_goto (pc := 26) C dX2_allWater_26 (tgt := 4) rfl ?_
      refine g_sub [2, 1, 0] rfl ?_
      exact ih _ _ _ _ h
theorem c_X2_allWater {x : xG} {l : Launch} {a0 : Nat} {K : Int32 → Wd → Prop} {w : Wd} (h : w_X2_allWater a0 K w) : Met l yX2_allWater (xws yX2_allWater cX2_allWater 3 (some .int)) (rmd 1 0 0) (xPc x [.ref (adr x a0)] w) (QcI x K) 0 0 (xA x) := by
  refine xMet (by decide) (Nat.le_of_ble_eq_true rfl) (fun p e s m below meth c C hlk hr _ => ?_)
  show GW x p l e (rmd 1 0 0) s m [.ref (adr x a0)].toArray below meth c 3 (QI x K below [.ref (adr x a0)].toArray s 0 0) 0 [(0, .ref (adr x a0))] [] w 0 0
  refine g_iconst (pc := 0) C dX2_allWater_0 (v := 0) rfl ?_
  refine g_istore_n (pc := 1) C dX2_allWater_1 (Nat.le_of_ble_eq_true rfl) (lo' := [(1, .int 0), (0, .ref (adr x a0))]) rfl ?_
  refine g_iconst (pc := 2) C dX2_allWater_2 (v := 0) rfl ?_
  refine g_istore_n (pc := 3) C dX2_allWater_3 (Nat.le_of_ble_eq_true rfl) (lo' := [(2, .int 0), (1, .int 0), (0, .ref (adr x a0))]) rfl ?_
  obtain ⟨n6, h⟩ := h
  refine g_sub [2, 1, 0] rfl ?_
  refine t_X2_allWater_4 C hlk hr n6 _ _ _ _ h
def w_X2_shiftOf (a0 : Nat) (a1 : Int32) (K : Int32 → Wd → Prop) (w : Wd) : Prop :=
  ((a1 < 0 → K 0 w) ∧ (¬ a1 < 0 → isK w a0 2 ∧ isK w (wR w a0 3) 20 ∧ (((Int32.ofNat (wn w (wR w a0 3))) ≤ a1 → K 0 w) ∧ (¬ (Int32.ofNat (wn w (wR w a0 3))) ≤ a1 → vp_in a1 (wn w (wR w a0 3)) ∧ K (wI w (wR w a0 3) a1.toNatClampNeg) w))))
theorem c_X2_shiftOf {x : xG} {l : Launch} {a0 : Nat} {a1 : Int32} {K : Int32 → Wd → Prop} {w : Wd} (h : w_X2_shiftOf a0 a1 K w) : Met l yX2_shiftOf (xws yX2_shiftOf cX2_shiftOf 2 (some .int)) (rmd 0 0 0) (xPc x [.ref (adr x a0), .int a1] w) (QcI x K) 0 0 (xA x) := by
  refine xMet (by decide) (Nat.le_of_ble_eq_true rfl) (fun p e s m below meth c C hlk hr _ => ?_)
  show GW x p l e (rmd 0 0 0) s m [.ref (adr x a0), .int a1].toArray below meth c 2 (QI x K below [.ref (adr x a0), .int a1].toArray s 0 0) 0 [(0, .ref (adr x a0)), (1, .int a1)] [] w 0 0
  refine g_iload_n (pc := 0) C dX2_shiftOf_0 (q := 1) rfl ?_
  refine g_if_lt (pc := 1) C dX2_shiftOf_1 (tgt := 22) rfl (fun z1 => ?_) (fun z1 => ?_)
  · replace h := h.1 z1
    refine g_iconst (pc := 22) C dX2_shiftOf_22 (v := 0) rfl ?_
    exact g_iret (pc := 23) C hlk hr (Nat.le_refl _) (Nat.le_refl _) dX2_shiftOf_23 h
  · replace h := h.2 z1
    refine g_iload_n (pc := 4) C dX2_shiftOf_4 (q := 1) rfl ?_
    refine g_aload_n (pc := 5) C dX2_shiftOf_5 (q := 0) rfl ?_
    obtain ⟨k2, h⟩ := h
    obtain ⟨k3, h⟩ := h
    refine gfX2_18 (pc := 6) C k2 (isK_ne k3) dX2_shiftOf_6 ?_
    refine g_alen (pc := 9) C k3 (by decide) dX2_shiftOf_9 ?_
    refine g_icmp_ge (pc := 10) C dX2_shiftOf_10 (tgt := 22) rfl (fun z4 => ?_) (fun z4 => ?_)
    · replace h := h.1 z4
      refine g_iconst (pc := 22) C dX2_shiftOf_22 (v := 0) rfl ?_
      exact g_iret (pc := 23) C hlk hr (Nat.le_refl _) (Nat.le_refl _) dX2_shiftOf_23 h
    · replace h := h.2 z4
      refine g_aload_n (pc := 13) C dX2_shiftOf_13 (q := 0) rfl ?_
      refine gfX2_18 (pc := 14) C k2 (isK_ne k3) dX2_shiftOf_14 ?_
      refine g_iload_n (pc := 17) C dX2_shiftOf_17 (q := 1) rfl ?_
      obtain ⟨k5, h⟩ := h
      refine g_iald (pc := 18) C k3 k5 dX2_shiftOf_18 ?_
      refine g_goto (pc := 19) C dX2_shiftOf_19 (tgt := 23) rfl ?_
      exact g_iret (pc := 23) C hlk hr (Nat.le_refl _) (Nat.le_refl _) dX2_shiftOf_23 h
theorem miX2_44 (C : xC x p s m c cc nL args RX2) {a0 : Nat} {a1 : Int32} {K : Int32 → Wd → Prop} {D MC MS : Nat} (hq : isK w a0 1) (h : w_X1_roundOf a0 a1 K w) (hD : 0 + 1 ≤ D) (hW : (st.map fun v => v.category).sum ≤ 8) (hij : i ≤ MC ∧ j ≤ MS) (hd : decode cc pc = .ok (.invokevirtual 44, 3)) (k : ∀ (r : Int32) (u : Wd), K r u → GW x p l e (rmd D MC MS) s m args below meth c nL Q (pc + 3) lo (.int r :: st) u i j) : GW x p l e (rmd D MC MS) s m args below meth c nL Q pc lo (.int a1 :: .ref (adr x a0) :: st) w i j := g_callVi0 C (As := [.int a1]) (ci := 1) (c_X1_roundOf h) (x_cwV C 1 LMX2_44 ⟨rfl, by decide, by decide, rfl⟩ hD (by decide)) rfl hq (by decide) rfl rfl hW hd hij k
theorem miX2_47 (C : xC x p s m c cc nL args RX2) {a0 : Nat} {a1 : Int32} {K : Int32 → Wd → Prop} {D MC MS : Nat} (hq : isK w a0 2) (h : w_X2_shiftOf a0 a1 K w) (hD : 0 + 1 ≤ D) (hW : (st.map fun v => v.category).sum ≤ 8) (hij : i ≤ MC ∧ j ≤ MS) (hd : decode cc pc = .ok (.invokevirtual 47, 3)) (k : ∀ (r : Int32) (u : Wd), K r u → GW x p l e (rmd D MC MS) s m args below meth c nL Q (pc + 3) lo (.int r :: st) u i j) : GW x p l e (rmd D MC MS) s m args below meth c nL Q pc lo (.int a1 :: .ref (adr x a0) :: st) w i j := g_callVi0 C (As := [.int a1]) (ci := 2) (c_X2_shiftOf h) (x_cwV C 1 LMX2_47 ⟨rfl, by decide, by decide, rfl⟩ hD (by decide)) rfl hq (by decide) rfl rfl hW hd hij k
theorem miX2_50 (C : xC x p s m c cc nL args RX2) {a0 : Nat} {a1 : Int32} {K : Int32 → Wd → Prop} {D MC MS : Nat} (hq : isK w a0 1) (h : w_X1_upOf a0 a1 K w) (hD : 0 + 1 ≤ D) (hW : (st.map fun v => v.category).sum ≤ 8) (hij : i ≤ MC ∧ j ≤ MS) (hd : decode cc pc = .ok (.invokevirtual 50, 3)) (k : ∀ (r : Int32) (u : Wd), K r u → GW x p l e (rmd D MC MS) s m args below meth c nL Q (pc + 3) lo (.int r :: st) u i j) : GW x p l e (rmd D MC MS) s m args below meth c nL Q pc lo (.int a1 :: .ref (adr x a0) :: st) w i j := g_callVi0 C (As := [.int a1]) (ci := 1) (c_X1_upOf h) (x_cwV C 1 LMX2_50 ⟨rfl, by decide, by decide, rfl⟩ hD (by decide)) rfl hq (by decide) rfl rfl hW hd hij k
def w_X2_isAwakeIn (a0 : Nat) (a1 : Int32) (a2 : Int32) (K : Int32 → Wd → Prop) (w : Wd) : Prop :=
  isK w a0 2 ∧ isK w (wR w a0 0) 1 ∧ w_X1_roundOf (wR w a0 0) a1 (fun r3 w4 => ((r3 < 1 → K 0 w4) ∧ (¬ r3 < 1 → isK w4 a0 2 ∧ w_X2_shiftOf a0 a1 (fun r7 w8 => ¬ r3 = 0 ∧ isK w8 a0 2 ∧ isK w8 (wR w8 a0 0) 1 ∧ w_X1_upOf (wR w8 a0 0) a1 (fun r12 w13 => ((r12 ≤ (x_irem (((wI w4 a0 1) + a2) + r7) r3) → K 0 w13) ∧ (¬ r12 ≤ (x_irem (((wI w4 a0 1) + a2) + r7) r3) → K 1 w13))) w8) w4))) w
theorem c_X2_isAwakeIn {x : xG} {l : Launch} {a0 : Nat} {a1 : Int32} {a2 : Int32} {K : Int32 → Wd → Prop} {w : Wd} (h : w_X2_isAwakeIn a0 a1 a2 K w) : Met l yX2_isAwakeIn (xws yX2_isAwakeIn cX2_isAwakeIn 4 (some .boolean)) (rmd 1 0 0) (xPc x [.ref (adr x a0), .int a1, .int a2] w) (QcI x K) 0 0 (xA x) := by
  refine xMet (by decide) (Nat.le_of_ble_eq_true rfl) (fun p e s m below meth c C hlk hr _ => ?_)
  show GW x p l e (rmd 1 0 0) s m [.ref (adr x a0), .int a1, .int a2].toArray below meth c 4 (QI x K below [.ref (adr x a0), .int a1, .int a2].toArray s 0 0) 0 [(0, .ref (adr x a0)), (1, .int a1), (2, .int a2)] [] w 0 0
  refine g_aload_n (pc := 0) C dX2_isAwakeIn_0 (q := 0) rfl ?_
  obtain ⟨k1, h⟩ := h
  obtain ⟨k2, h⟩ := h
  refine gfX2_25 (pc := 1) C k1 (isK_ne k2) dX2_isAwakeIn_1 ?_
  refine g_iload_n (pc := 4) C dX2_isAwakeIn_4 (q := 1) rfl ?_
  refine miX2_44 (pc := 5) C k2 h (Nat.le_of_ble_eq_true rfl) (Nat.le_of_ble_eq_true rfl) ⟨Nat.le_refl _, Nat.le_refl _⟩ dX2_isAwakeIn_5 (fun r3 w4 h => ?_)
  refine g_istore_n (pc := 8) C dX2_isAwakeIn_8 (Nat.le_of_ble_eq_true rfl) (lo' := [(3, .int r3), (0, .ref (adr x a0)), (1, .int a1), (2, .int a2)]) rfl ?_
  refine g_iload_n (pc := 9) C dX2_isAwakeIn_9 (q := 0) rfl ?_
  refine g_iconst (pc := 10) C dX2_isAwakeIn_10 (v := 1) rfl ?_
  refine g_icmp_lt (pc := 11) C dX2_isAwakeIn_11 (tgt := 43) rfl (fun z5 => ?_) (fun z5 => ?_)
  · replace h := h.1 z5
    refine g_iconst (pc := 43) C dX2_isAwakeIn_43 (v := 0) rfl ?_
    exact g_zret (pc := 44) C hlk hr (Nat.le_refl _) (Nat.le_refl _) dX2_isAwakeIn_44 (Or.inl rfl) h
  · replace h := h.2 z5
    refine g_aload_n (pc := 14) C dX2_isAwakeIn_14 (q := 1) rfl ?_
    obtain ⟨k6, h⟩ := h
    refine gfX2_9 (pc := 15) C k6 dX2_isAwakeIn_15 ?_
    refine g_iload_n (pc := 18) C dX2_isAwakeIn_18 (q := 3) rfl ?_
    refine g_iadd (pc := 19) C dX2_isAwakeIn_19 ?_
    refine g_aload_n (pc := 20) C dX2_isAwakeIn_20 (q := 1) rfl ?_
    refine g_iload_n (pc := 21) C dX2_isAwakeIn_21 (q := 2) rfl ?_
    refine miX2_47 (pc := 22) C k6 h (Nat.le_of_ble_eq_true rfl) (Nat.le_of_ble_eq_true rfl) ⟨Nat.le_refl _, Nat.le_refl _⟩ dX2_isAwakeIn_22 (fun r7 w8 h => ?_)
    refine g_iadd (pc := 25) C dX2_isAwakeIn_25 ?_
    refine g_iload_n (pc := 26) C dX2_isAwakeIn_26 (q := 0) rfl ?_
    obtain ⟨k9, h⟩ := h
    refine h_irem (pc := 27) C dX2_isAwakeIn_27 k9 ?_
    refine g_aload_n (pc := 28) C dX2_isAwakeIn_28 (q := 1) rfl ?_
    obtain ⟨k10, h⟩ := h
    obtain ⟨k11, h⟩ := h
    refine gfX2_25 (pc := 29) C k10 (isK_ne k11) dX2_isAwakeIn_29 ?_
    refine g_iload_n (pc := 32) C dX2_isAwakeIn_32 (q := 2) rfl ?_
    refine miX2_50 (pc := 33) C k11 h (Nat.le_of_ble_eq_true rfl) (Nat.le_of_ble_eq_true rfl) ⟨Nat.le_refl _, Nat.le_refl _⟩ dX2_isAwakeIn_33 (fun r12 w13 h => ?_)
    refine g_icmp_ge (pc := 36) C dX2_isAwakeIn_36 (tgt := 43) rfl (fun z14 => ?_) (fun z14 => ?_)
    · replace h := h.1 z14
      refine g_iconst (pc := 43) C dX2_isAwakeIn_43 (v := 0) rfl ?_
      exact g_zret (pc := 44) C hlk hr (Nat.le_refl _) (Nat.le_refl _) dX2_isAwakeIn_44 (Or.inl rfl) h
    · replace h := h.2 z14
      refine g_iconst (pc := 39) C dX2_isAwakeIn_39 (v := 1) rfl ?_
      refine g_goto (pc := 40) C dX2_isAwakeIn_40 (tgt := 44) rfl ?_
      exact g_zret (pc := 44) C hlk hr (Nat.le_refl _) (Nat.le_refl _) dX2_isAwakeIn_44 (Or.inr rfl) h
theorem miX2_53 (C : xC x p s m c cc nL args RX2) {a0 : Nat} {a1 : Int32} {a2 : Int32} {K : Int32 → Wd → Prop} {D MC MS : Nat} (hq : isK w a0 2) (h : w_X2_isAwakeIn a0 a1 a2 K w) (hD : 1 + 1 ≤ D) (hW : (st.map fun v => v.category).sum ≤ 8) (hij : i ≤ MC ∧ j ≤ MS) (hd : decode cc pc = .ok (.invokevirtual 53, 3)) (k : ∀ (r : Int32) (u : Wd), K r u → GW x p l e (rmd D MC MS) s m args below meth c nL Q (pc + 3) lo (.int r :: st) u i j) : GW x p l e (rmd D MC MS) s m args below meth c nL Q pc lo (.int a2 :: .int a1 :: .ref (adr x a0) :: st) w i j := g_callVi0 C (As := [.int a1, .int a2]) (ci := 2) (c_X2_isAwakeIn h) (x_cwV C 2 LMX2_53 ⟨rfl, by decide, by decide, rfl⟩ hD (by decide)) rfl hq (by decide) rfl rfl hW hd hij k
def l_X2_asleepBits_4  (K : Int32 → Wd → Prop) : Nat → Nat → Int32 → Int32 → Wd → Prop
  | 0, _, _, _, _ => False
  | n + 1, a0, a1, a2, w => isK w a0 2 ∧ isK w (wR w a0 0) 1 ∧ (((wI w (wR w a0 0) 1) ≤ a2 → K a1 w) ∧ (¬ (wI w (wR w a0 0) 1) ≤ a2 → w_X2_isAwakeIn a0 a2 0 (fun r4 w5 => ((r4 = 0 → l_X2_asleepBits_4 K n a0 (a1 ||| (x_ishl 1 a2)) (a2 + 1) w5) ∧ (¬ r4 = 0 → l_X2_asleepBits_4 K n a0 a1 (a2 + 1) w5))) w))
def w_X2_asleepBits (a0 : Nat) (K : Int32 → Wd → Prop) (w : Wd) : Prop :=
  ∃ n7, l_X2_asleepBits_4  K n7 a0 0 0 w
theorem t_X2_asleepBits_4 (C : xC x p s m c cX2_asleepBits 3 args RX2) (hlk : meth.locks = false) (hr : meth.sig.returnType = some .int) {K : Int32 → Wd → Prop}   : ∀ (n : Nat) (a0 : Nat) (a1 : Int32) (a2 : Int32) (w : Wd), l_X2_asleepBits_4 K n a0 a1 a2 w → GW x p l e (rmd 2 0 0) s m args below meth c 3 (QI x K below args s 0 0) 4 [(0, .ref (adr x a0)), (1, .int a1), (2, .int a2)] [] w 0 0 := by
  intro n
  induction n with
  | zero => intro _ _ _ _ h; exact False.elim h
  | succ n ih =>
    intro a0 a1 a2 w h
    refine g_iload_n (pc := 4) C dX2_asleepBits_4 (q := 2) rfl ?_
    refine g_aload_n (pc := 5) C dX2_asleepBits_5 (q := 0) rfl ?_
    obtain ⟨k1, h⟩ := h
    obtain ⟨k2, h⟩ := h
    refine gfX2_25 (pc := 6) C k1 (isK_ne k2) dX2_asleepBits_6 ?_
    refine gfX2_60 (pc := 9) C k2 dX2_asleepBits_9 ?_
    refine g_icmp_ge (pc := 12) C dX2_asleepBits_12 (tgt := 36) rfl (fun z3 => ?_) (fun z3 => ?_)
    · replace h := h.1 z3
      refine g_iload_n (pc := 36) C dX2_asleepBits_36 (q := 1) rfl ?_
      exact g_iret (pc := 37) C hlk hr (Nat.le_refl _) (Nat.le_refl _) dX2_asleepBits_37 h
    · replace h := h.2 z3
      refine g_aload_n (pc := 15) C dX2_asleepBits_15 (q := 0) rfl ?_
      refine g_iload_n (pc := 16) C dX2_asleepBits_16 (q := 2) rfl ?_
      refine g_iconst (pc := 17) C dX2_asleepBits_17 (v := 0) rfl ?_
      refine miX2_53 (pc := 18) C k1 h (Nat.le_of_ble_eq_true rfl) (Nat.le_of_ble_eq_true rfl) ⟨Nat.le_refl _, Nat.le_refl _⟩ dX2_asleepBits_18 (fun r4 w5 h => ?_)
      refine g_if_ne (pc := 21) C dX2_asleepBits_21 (tgt := 30) rfl (fun z6 => ?_) (fun z6 => ?_)
      · replace h := h.2 z6
        refine g_iinc (pc := 30) C dX2_asleepBits_30 (q := 2) rfl (v2 := a2 + 1) rfl (Nat.le_of_ble_eq_true rfl) (lo' := [(2, .int (a2 + 1)), (0, .ref (adr x a0)), (1, .int a1)]) rfl ?_
        refine g_goto (pc := 33) C dX2_asleepBits_33 (tgt := 4) rfl ?_
        refine g_sub [1, 2, 0] rfl ?_
        exact ih _ _ _ _ h
      · replace h := h.1 z6
        refine g_iload_n (pc := 24) C dX2_asleepBits_24 (q := 1) rfl ?_
        refine g_iconst (pc := 25) C dX2_asleepBits_25 (v := 1) rfl ?_
        refine g_iload_n (pc := 26) C dX2_asleepBits_26 (q := 2) rfl ?_
        refine h_ishl (pc := 27) C dX2_asleepBits_27 ?_
        refine g_ior (pc := 28) C dX2_asleepBits_28 ?_
        refine g_istore_n (pc := 29) C dX2_asleepBits_29 (Nat.le_of_ble_eq_true rfl) (lo' := [(1, .int (a1 ||| (x_ishl 1 a2))), (0, .ref (adr x a0)), (2, .int a2)]) rfl ?_
        refine g_iinc (pc := 30) C dX2_asleepBits_30 (q := 2) rfl (v2 := a2 + 1) rfl (Nat.le_of_ble_eq_true rfl) (lo' := [(2, .int (a2 + 1)), (1, .int (a1 ||| (x_ishl 1 a2))), (0, .ref (adr x a0))]) rfl ?_
        refine g_goto (pc := 33) C dX2_asleepBits_33 (tgt := 4) rfl ?_
        refine g_sub [2, 1, 0] rfl ?_
        exact ih _ _ _ _ h
theorem c_X2_asleepBits {x : xG} {l : Launch} {a0 : Nat} {K : Int32 → Wd → Prop} {w : Wd} (h : w_X2_asleepBits a0 K w) : Met l yX2_asleepBits (xws yX2_asleepBits cX2_asleepBits 3 (some .int)) (rmd 2 0 0) (xPc x [.ref (adr x a0)] w) (QcI x K) 0 0 (xA x) := by
  refine xMet (by decide) (Nat.le_of_ble_eq_true rfl) (fun p e s m below meth c C hlk hr _ => ?_)
  show GW x p l e (rmd 2 0 0) s m [.ref (adr x a0)].toArray below meth c 3 (QI x K below [.ref (adr x a0)].toArray s 0 0) 0 [(0, .ref (adr x a0))] [] w 0 0
  refine g_iconst (pc := 0) C dX2_asleepBits_0 (v := 0) rfl ?_
  refine g_istore_n (pc := 1) C dX2_asleepBits_1 (Nat.le_of_ble_eq_true rfl) (lo' := [(1, .int 0), (0, .ref (adr x a0))]) rfl ?_
  refine g_iconst (pc := 2) C dX2_asleepBits_2 (v := 0) rfl ?_
  refine g_istore_n (pc := 3) C dX2_asleepBits_3 (Nat.le_of_ble_eq_true rfl) (lo' := [(2, .int 0), (1, .int 0), (0, .ref (adr x a0))]) rfl ?_
  obtain ⟨n7, h⟩ := h
  refine g_sub [2, 1, 0] rfl ?_
  refine t_X2_asleepBits_4 C hlk hr n7 _ _ _ _ h
def l_X2_awakeBits_4  (K : Int32 → Wd → Prop) : Nat → Nat → Int32 → Int32 → Wd → Prop
  | 0, _, _, _, _ => False
  | n + 1, a0, a1, a2, w => isK w a0 2 ∧ isK w (wR w a0 0) 1 ∧ (((wI w (wR w a0 0) 1) ≤ a2 → K a1 w) ∧ (¬ (wI w (wR w a0 0) 1) ≤ a2 → w_X2_isAwakeIn a0 a2 0 (fun r4 w5 => ((r4 = 0 → l_X2_awakeBits_4 K n a0 a1 (a2 + 1) w5) ∧ (¬ r4 = 0 → l_X2_awakeBits_4 K n a0 (a1 ||| (x_ishl 1 a2)) (a2 + 1) w5))) w))
def w_X2_awakeBits (a0 : Nat) (K : Int32 → Wd → Prop) (w : Wd) : Prop :=
  ∃ n7, l_X2_awakeBits_4  K n7 a0 0 0 w
theorem t_X2_awakeBits_4 (C : xC x p s m c cX2_awakeBits 3 args RX2) (hlk : meth.locks = false) (hr : meth.sig.returnType = some .int) {K : Int32 → Wd → Prop}   : ∀ (n : Nat) (a0 : Nat) (a1 : Int32) (a2 : Int32) (w : Wd), l_X2_awakeBits_4 K n a0 a1 a2 w → GW x p l e (rmd 2 0 0) s m args below meth c 3 (QI x K below args s 0 0) 4 [(0, .ref (adr x a0)), (1, .int a1), (2, .int a2)] [] w 0 0 := by
  intro n
  induction n with
  | zero => intro _ _ _ _ h; exact False.elim h
  | succ n ih =>
    intro a0 a1 a2 w h
    refine g_iload_n (pc := 4) C dX2_awakeBits_4 (q := 2) rfl ?_
    refine g_aload_n (pc := 5) C dX2_awakeBits_5 (q := 0) rfl ?_
    obtain ⟨k1, h⟩ := h
    obtain ⟨k2, h⟩ := h
    refine gfX2_25 (pc := 6) C k1 (isK_ne k2) dX2_awakeBits_6 ?_
    refine gfX2_60 (pc := 9) C k2 dX2_awakeBits_9 ?_
    refine g_icmp_ge (pc := 12) C dX2_awakeBits_12 (tgt := 36) rfl (fun z3 => ?_) (fun z3 => ?_)
    · replace h := h.1 z3
      refine g_iload_n (pc := 36) C dX2_awakeBits_36 (q := 1) rfl ?_
      exact g_iret (pc := 37) C hlk hr (Nat.le_refl _) (Nat.le_refl _) dX2_awakeBits_37 h
    · replace h := h.2 z3
      refine g_aload_n (pc := 15) C dX2_awakeBits_15 (q := 0) rfl ?_
      refine g_iload_n (pc := 16) C dX2_awakeBits_16 (q := 2) rfl ?_
      refine g_iconst (pc := 17) C dX2_awakeBits_17 (v := 0) rfl ?_
      refine miX2_53 (pc := 18) C k1 h (Nat.le_of_ble_eq_true rfl) (Nat.le_of_ble_eq_true rfl) ⟨Nat.le_refl _, Nat.le_refl _⟩ dX2_awakeBits_18 (fun r4 w5 h => ?_)
      refine g_if_eq (pc := 21) C dX2_awakeBits_21 (tgt := 30) rfl (fun z6 => ?_) (fun z6 => ?_)
      · replace h := h.1 z6
        refine g_iinc (pc := 30) C dX2_awakeBits_30 (q := 2) rfl (v2 := a2 + 1) rfl (Nat.le_of_ble_eq_true rfl) (lo' := [(2, .int (a2 + 1)), (0, .ref (adr x a0)), (1, .int a1)]) rfl ?_
        refine g_goto (pc := 33) C dX2_awakeBits_33 (tgt := 4) rfl ?_
        refine g_sub [1, 2, 0] rfl ?_
        exact ih _ _ _ _ h
      · replace h := h.2 z6
        refine g_iload_n (pc := 24) C dX2_awakeBits_24 (q := 1) rfl ?_
        refine g_iconst (pc := 25) C dX2_awakeBits_25 (v := 1) rfl ?_
        refine g_iload_n (pc := 26) C dX2_awakeBits_26 (q := 2) rfl ?_
        refine h_ishl (pc := 27) C dX2_awakeBits_27 ?_
        refine g_ior (pc := 28) C dX2_awakeBits_28 ?_
        refine g_istore_n (pc := 29) C dX2_awakeBits_29 (Nat.le_of_ble_eq_true rfl) (lo' := [(1, .int (a1 ||| (x_ishl 1 a2))), (0, .ref (adr x a0)), (2, .int a2)]) rfl ?_
        refine g_iinc (pc := 30) C dX2_awakeBits_30 (q := 2) rfl (v2 := a2 + 1) rfl (Nat.le_of_ble_eq_true rfl) (lo' := [(2, .int (a2 + 1)), (1, .int (a1 ||| (x_ishl 1 a2))), (0, .ref (adr x a0))]) rfl ?_
        refine g_goto (pc := 33) C dX2_awakeBits_33 (tgt := 4) rfl ?_
        refine g_sub [2, 1, 0] rfl ?_
        exact ih _ _ _ _ h
theorem c_X2_awakeBits {x : xG} {l : Launch} {a0 : Nat} {K : Int32 → Wd → Prop} {w : Wd} (h : w_X2_awakeBits a0 K w) : Met l yX2_awakeBits (xws yX2_awakeBits cX2_awakeBits 3 (some .int)) (rmd 2 0 0) (xPc x [.ref (adr x a0)] w) (QcI x K) 0 0 (xA x) := by
  refine xMet (by decide) (Nat.le_of_ble_eq_true rfl) (fun p e s m below meth c C hlk hr _ => ?_)
  show GW x p l e (rmd 2 0 0) s m [.ref (adr x a0)].toArray below meth c 3 (QI x K below [.ref (adr x a0)].toArray s 0 0) 0 [(0, .ref (adr x a0))] [] w 0 0
  refine g_iconst (pc := 0) C dX2_awakeBits_0 (v := 0) rfl ?_
  refine g_istore_n (pc := 1) C dX2_awakeBits_1 (Nat.le_of_ble_eq_true rfl) (lo' := [(1, .int 0), (0, .ref (adr x a0))]) rfl ?_
  refine g_iconst (pc := 2) C dX2_awakeBits_2 (v := 0) rfl ?_
  refine g_istore_n (pc := 3) C dX2_awakeBits_3 (Nat.le_of_ble_eq_true rfl) (lo' := [(2, .int 0), (1, .int 0), (0, .ref (adr x a0))]) rfl ?_
  obtain ⟨n7, h⟩ := h
  refine g_sub [2, 1, 0] rfl ?_
  refine t_X2_awakeBits_4 C hlk hr n7 _ _ _ _ h
def l_X2_become_26  (K : Wd → Prop) : Nat → Nat → Nat → Int32 → Wd → Prop
  | 0, _, _, _, _ => False
  | n + 1, a0, a1, a2, w => ((10 ≤ a2 → K w) ∧ (¬ 10 ≤ a2 → isK w a0 2 ∧ isK w (wR w a0 3) 20 ∧ isK w a1 2 ∧ isK w (wR w a1 3) 20 ∧ vp_in a2 (wn w (wR w a1 3)) ∧ vp_in a2 (wn w (wR w a0 3)) ∧ isK w (wR w a0 4) 20 ∧ isK w (wR w a1 4) 20 ∧ vp_in a2 (wn w (wR w a1 4)) ∧ vp_in a2 (wn w (wR w a0 4)) ∧ l_X2_become_26 K n a0 a1 (a2 + 1) (uI (uI w (wR w a0 3) a2.toNatClampNeg (wI w (wR w a1 3) a2.toNatClampNeg)) (wR w a0 4) a2.toNatClampNeg (wI (uI w (wR w a0 3) a2.toNatClampNeg (wI w (wR w a1 3) a2.toNatClampNeg)) (wR w a1 4) a2.toNatClampNeg))))
def w_X2_become (a0 : Nat) (a1 : Nat) (K : Wd → Prop) (w : Wd) : Prop :=
  isK w a1 2 ∧ isK w (wR w a1 0) 1 ∧ isK w a0 2 ∧ ∃ n15, l_X2_become_26  K n15 a0 a1 0 (uI (uI (uR w a0 0 (wR w a1 0)) a0 1 (wI (uR w a0 0 (wR w a1 0)) a1 1)) a0 2 (wI (uI (uR w a0 0 (wR w a1 0)) a0 1 (wI (uR w a0 0 (wR w a1 0)) a1 1)) a1 2))
theorem t_X2_become_26 (C : xC x p s m c cX2_become 3 args RX2) (hlk : meth.locks = false) (hr : meth.sig.returnType = none) {K : Wd → Prop}   : ∀ (n : Nat) (a0 : Nat) (a1 : Nat) (a2 : Int32) (w : Wd), l_X2_become_26 K n a0 a1 a2 w → GW x p l e (rmd 0 0 0) s m args below meth c 3 (QV x K below args s 0 0) 26 [(0, .ref (adr x a0)), (1, .ref (adr x a1)), (2, .int a2)] [] w 0 0 := by
  intro n
  induction n with
  | zero => intro _ _ _ _ h; exact False.elim h
  | succ n ih =>
    intro a0 a1 a2 w h
    refine g_iload_n (pc := 26) C dX2_become_26 (q := 2) rfl ?_
    refine g_bipush (pc := 27) C dX2_become_27 (v := 10) rfl ?_
    refine g_icmp_ge (pc := 29) C dX2_become_29 (tgt := 62) rfl (fun z4 => ?_) (fun z4 => ?_)
    · replace h := h.1 z4
      exact g_vret (pc := 62) C hlk hr (Nat.le_refl _) (Nat.le_refl _) dX2_become_62 h
    · replace h := h.2 z4
      refine g_aload_n (pc := 32) C dX2_become_32 (q := 0) rfl ?_
      obtain ⟨k5, h⟩ := h
      obtain ⟨k6, h⟩ := h
      refine gfX2_18 (pc := 33) C k5 (isK_ne k6) dX2_become_33 ?_
      refine g_iload_n (pc := 36) C dX2_become_36 (q := 2) rfl ?_
      refine g_aload_n (pc := 37) C dX2_become_37 (q := 1) rfl ?_
      obtain ⟨k7, h⟩ := h
      obtain ⟨k8, h⟩ := h
      refine gfX2_18 (pc := 38) C k7 (isK_ne k8) dX2_become_38 ?_
      refine g_iload_n (pc := 41) C dX2_become_41 (q := 2) rfl ?_
      obtain ⟨k9, h⟩ := h
      refine g_iald (pc := 42) C k8 k9 dX2_become_42 ?_
      obtain ⟨k10, h⟩ := h
      refine g_iast (pc := 43) C k6 k10 dX2_become_43 ?_
      refine g_aload_n (pc := 44) C dX2_become_44 (q := 0) rfl ?_
      obtain ⟨k11, h⟩ := h
      refine gfX2_22 (pc := 45) (w := uI w (wR w a0 3) a2.toNatClampNeg (wI w (wR w a1 3) a2.toNatClampNeg)) C k5 (isK_ne k11) dX2_become_45 ?_
      refine g_iload_n (pc := 48) C dX2_become_48 (q := 2) rfl ?_
      refine g_aload_n (pc := 49) C dX2_become_49 (q := 1) rfl ?_
      obtain ⟨k12, h⟩ := h
      refine gfX2_22 (pc := 50) (w := uI w (wR w a0 3) a2.toNatClampNeg (wI w (wR w a1 3) a2.toNatClampNeg)) C k7 (isK_ne k12) dX2_become_50 ?_
      refine g_iload_n (pc := 53) C dX2_become_53 (q := 2) rfl ?_
      obtain ⟨k13, h⟩ := h
      refine g_iald (pc := 54) (w := uI w (wR w a0 3) a2.toNatClampNeg (wI w (wR w a1 3) a2.toNatClampNeg)) C k12 k13 dX2_become_54 ?_
      obtain ⟨k14, h⟩ := h
      refine g_iast (pc := 55) (w := uI w (wR w a0 3) a2.toNatClampNeg (wI w (wR w a1 3) a2.toNatClampNeg)) C k11 k14 dX2_become_55 ?_
      refine g_iinc (pc := 56) C dX2_become_56 (q := 2) rfl (v2 := a2 + 1) rfl (Nat.le_of_ble_eq_true rfl) (lo' := [(2, .int (a2 + 1)), (0, .ref (adr x a0)), (1, .ref (adr x a1))]) rfl ?_
      refine g_goto (pc := 59) C dX2_become_59 (tgt := 26) rfl ?_
      refine g_sub [1, 2, 0] rfl ?_
      exact ih _ _ _ _ h
theorem c_X2_become {x : xG} {l : Launch} {a0 : Nat} {a1 : Nat} {K : Wd → Prop} {w : Wd} (h : w_X2_become a0 a1 K w) : Met l yX2_become (xws yX2_become cX2_become 3 none) (rmd 0 0 0) (xPc x [.ref (adr x a0), .ref (adr x a1)] w) (QcV x K) 0 0 (xA x) := by
  refine xMet (by decide) (Nat.le_of_ble_eq_true rfl) (fun p e s m below meth c C hlk hr _ => ?_)
  show GW x p l e (rmd 0 0 0) s m [.ref (adr x a0), .ref (adr x a1)].toArray below meth c 3 (QV x K below [.ref (adr x a0), .ref (adr x a1)].toArray s 0 0) 0 [(0, .ref (adr x a0)), (1, .ref (adr x a1))] [] w 0 0
  refine g_aload_n (pc := 0) C dX2_become_0 (q := 0) rfl ?_
  refine g_aload_n (pc := 1) C dX2_become_1 (q := 1) rfl ?_
  obtain ⟨k1, h⟩ := h
  obtain ⟨k2, h⟩ := h
  refine gfX2_25 (pc := 2) C k1 (isK_ne k2) dX2_become_2 ?_
  obtain ⟨k3, h⟩ := h
  refine pfX2_25 (pc := 5) C k3 (isK_ne k2) dX2_become_5 ?_
  refine g_aload_n (pc := 8) C dX2_become_8 (q := 0) rfl ?_
  refine g_aload_n (pc := 9) C dX2_become_9 (q := 1) rfl ?_
  refine gfX2_9 (pc := 10) (w := uR w a0 0 (wR w a1 0)) C k1 dX2_become_10 ?_
  refine pfX2_9 (pc := 13) (w := uR w a0 0 (wR w a1 0)) C k3 dX2_become_13 ?_
  refine g_aload_n (pc := 16) C dX2_become_16 (q := 0) rfl ?_
  refine g_aload_n (pc := 17) C dX2_become_17 (q := 1) rfl ?_
  refine gfX2_15 (pc := 18) (w := uI (uR w a0 0 (wR w a1 0)) a0 1 (wI (uR w a0 0 (wR w a1 0)) a1 1)) C k1 dX2_become_18 ?_
  refine pfX2_15 (pc := 21) (w := uI (uR w a0 0 (wR w a1 0)) a0 1 (wI (uR w a0 0 (wR w a1 0)) a1 1)) C k3 dX2_become_21 ?_
  refine g_iconst (pc := 24) C dX2_become_24 (v := 0) rfl ?_
  refine g_istore_n (pc := 25) C dX2_become_25 (Nat.le_of_ble_eq_true rfl) (lo' := [(2, .int 0), (0, .ref (adr x a0)), (1, .ref (adr x a1))]) rfl ?_
  obtain ⟨n15, h⟩ := h
  refine g_sub [1, 2, 0] rfl ?_
  refine t_X2_become_26 C hlk hr n15 _ _ _ _ h
theorem miX2_34 (C : xC x p s m c cc nL args RX2) {a0 : Nat} {a1 : Int32} {K : Int32 → Wd → Prop} {D MC MS : Nat} (hq : isK w a0 1) (h : w_X1_toldShiftOf a0 a1 K w) (hD : 0 + 1 ≤ D) (hW : (st.map fun v => v.category).sum ≤ 8) (hij : i ≤ MC ∧ j ≤ MS) (hd : decode cc pc = .ok (.invokevirtual 34, 3)) (k : ∀ (r : Int32) (u : Wd), K r u → GW x p l e (rmd D MC MS) s m args below meth c nL Q (pc + 3) lo (.int r :: st) u i j) : GW x p l e (rmd D MC MS) s m args below meth c nL Q pc lo (.int a1 :: .ref (adr x a0) :: st) w i j := g_callVi0 C (As := [.int a1]) (ci := 1) (c_X1_toldShiftOf h) (x_cwV C 1 LMX2_34 ⟨rfl, by decide, by decide, rfl⟩ hD (by decide)) rfl hq (by decide) rfl rfl hW hd hij k
theorem miX2_38 (C : xC x p s m c cc nL args RX2) {a0 : Nat} {a1 : Int32} {K : Int32 → Wd → Prop} {D MC MS : Nat} (hq : isK w a0 1) (h : w_X1_toldWaterOf a0 a1 K w) (hD : 0 + 1 ≤ D) (hW : (st.map fun v => v.category).sum ≤ 8) (hij : i ≤ MC ∧ j ≤ MS) (hd : decode cc pc = .ok (.invokevirtual 38, 3)) (k : ∀ (r : Int32) (u : Wd), K r u → GW x p l e (rmd D MC MS) s m args below meth c nL Q (pc + 3) lo (.int r :: st) u i j) : GW x p l e (rmd D MC MS) s m args below meth c nL Q pc lo (.int a1 :: .ref (adr x a0) :: st) w i j := g_callVi0 C (As := [.int a1]) (ci := 1) (c_X1_toldWaterOf h) (x_cwV C 1 LMX2_38 ⟨rfl, by decide, by decide, rfl⟩ hD (by decide)) rfl hq (by decide) rfl rfl hW hd hij k
def l_X2_beginWith_20  (K : Wd → Prop) : Nat → Nat → Nat → Int32 → Wd → Prop
  | 0, _, _, _, _ => False
  | n + 1, a0, a1, a2, w => ((10 ≤ a2 → K w) ∧ (¬ 10 ≤ a2 → isK w a0 2 ∧ isK w (wR w a0 3) 20 ∧ isK w a1 1 ∧ w_X1_toldShiftOf a1 a2 (fun r8 w9 => isK w9 (wR w a0 3) 20 ∧ vp_in a2 (wn w9 (wR w a0 3)) ∧ isK w9 a0 2 ∧ isK w9 (wR w9 a0 4) 20 ∧ isK w9 a1 1 ∧ w_X1_toldWaterOf a1 a2 (fun r15 w16 => isK w16 (wR w9 a0 4) 20 ∧ vp_in a2 (wn w16 (wR w9 a0 4)) ∧ l_X2_beginWith_20 K n a0 a1 (a2 + 1) (uI w16 (wR w9 a0 4) a2.toNatClampNeg r15)) (uI w9 (wR w a0 3) a2.toNatClampNeg r8)) w))
def w_X2_beginWith (a0 : Nat) (a1 : Nat) (K : Wd → Prop) (w : Wd) : Prop :=
  isK w a0 2 ∧ a1 ≠ 0 ∧ isK w a1 1 ∧ ∃ n19, l_X2_beginWith_20  K n19 a0 a1 0 (uI (uI (uR w a0 0 a1) a0 1 (wI (uR w a0 0 a1) a1 3)) a0 2 0)
theorem t_X2_beginWith_20 (C : xC x p s m c cX2_beginWith 3 args RX2) (hlk : meth.locks = false) (hr : meth.sig.returnType = none) {K : Wd → Prop}   : ∀ (n : Nat) (a0 : Nat) (a1 : Nat) (a2 : Int32) (w : Wd), l_X2_beginWith_20 K n a0 a1 a2 w → GW x p l e (rmd 1 0 0) s m args below meth c 3 (QV x K below args s 0 0) 20 [(0, .ref (adr x a0)), (1, .ref (adr x a1)), (2, .int a2)] [] w 0 0 := by
  intro n
  induction n with
  | zero => intro _ _ _ _ h; exact False.elim h
  | succ n ih =>
    intro a0 a1 a2 w h
    refine g_iload_n (pc := 20) C dX2_beginWith_20 (q := 2) rfl ?_
    refine g_bipush (pc := 21) C dX2_beginWith_21 (v := 10) rfl ?_
    refine g_icmp_ge (pc := 23) C dX2_beginWith_23 (tgt := 54) rfl (fun z4 => ?_) (fun z4 => ?_)
    · replace h := h.1 z4
      exact g_vret (pc := 54) C hlk hr (Nat.le_refl _) (Nat.le_refl _) dX2_beginWith_54 h
    · replace h := h.2 z4
      refine g_aload_n (pc := 26) C dX2_beginWith_26 (q := 0) rfl ?_
      obtain ⟨k5, h⟩ := h
      obtain ⟨k6, h⟩ := h
      refine gfX2_18 (pc := 27) C k5 (isK_ne k6) dX2_beginWith_27 ?_
      refine g_iload_n (pc := 30) C dX2_beginWith_30 (q := 2) rfl ?_
      refine g_aload_n (pc := 31) C dX2_beginWith_31 (q := 1) rfl ?_
      refine g_iload_n (pc := 32) C dX2_beginWith_32 (q := 2) rfl ?_
      obtain ⟨k7, h⟩ := h
      refine miX2_34 (pc := 33) C k7 h (Nat.le_of_ble_eq_true rfl) (Nat.le_of_ble_eq_true rfl) ⟨Nat.le_refl _, Nat.le_refl _⟩ dX2_beginWith_33 (fun r8 w9 h => ?_)
      obtain ⟨k10, h⟩ := h
      obtain ⟨k11, h⟩ := h
      refine g_iast (pc := 36) C k10 k11 dX2_beginWith_36 ?_
      refine g_aload_n (pc := 37) C dX2_beginWith_37 (q := 0) rfl ?_
      obtain ⟨k12, h⟩ := h
      obtain ⟨k13, h⟩ := h
      refine gfX2_22 (pc := 38) (w := uI w9 (wR w a0 3) a2.toNatClampNeg r8) C k12 (isK_ne k13) dX2_beginWith_38 ?_
      refine g_iload_n (pc := 41) C dX2_beginWith_41 (q := 2) rfl ?_
      refine g_aload_n (pc := 42) C dX2_beginWith_42 (q := 1) rfl ?_
      refine g_iload_n (pc := 43) C dX2_beginWith_43 (q := 2) rfl ?_
      obtain ⟨k14, h⟩ := h
      refine miX2_38 (pc := 44) (w := uI w9 (wR w a0 3) a2.toNatClampNeg r8) C k14 h (Nat.le_of_ble_eq_true rfl) (Nat.le_of_ble_eq_true rfl) ⟨Nat.le_refl _, Nat.le_refl _⟩ dX2_beginWith_44 (fun r15 w16 h => ?_)
      obtain ⟨k17, h⟩ := h
      obtain ⟨k18, h⟩ := h
      refine g_iast (pc := 47) C k17 k18 dX2_beginWith_47 ?_
      refine g_iinc (pc := 48) C dX2_beginWith_48 (q := 2) rfl (v2 := a2 + 1) rfl (Nat.le_of_ble_eq_true rfl) (lo' := [(2, .int (a2 + 1)), (0, .ref (adr x a0)), (1, .ref (adr x a1))]) rfl ?_
      refine g_goto (pc := 51) C dX2_beginWith_51 (tgt := 20) rfl ?_
      refine g_sub [1, 2, 0] rfl ?_
      exact ih _ _ _ _ h
theorem c_X2_beginWith {x : xG} {l : Launch} {a0 : Nat} {a1 : Nat} {K : Wd → Prop} {w : Wd} (h : w_X2_beginWith a0 a1 K w) : Met l yX2_beginWith (xws yX2_beginWith cX2_beginWith 3 none) (rmd 1 0 0) (xPc x [.ref (adr x a0), .ref (adr x a1)] w) (QcV x K) 0 0 (xA x) := by
  refine xMet (by decide) (Nat.le_of_ble_eq_true rfl) (fun p e s m below meth c C hlk hr _ => ?_)
  show GW x p l e (rmd 1 0 0) s m [.ref (adr x a0), .ref (adr x a1)].toArray below meth c 3 (QV x K below [.ref (adr x a0), .ref (adr x a1)].toArray s 0 0) 0 [(0, .ref (adr x a0)), (1, .ref (adr x a1))] [] w 0 0
  refine g_aload_n (pc := 0) C dX2_beginWith_0 (q := 0) rfl ?_
  refine g_aload_n (pc := 1) C dX2_beginWith_1 (q := 1) rfl ?_
  obtain ⟨k1, h⟩ := h
  obtain ⟨k2, h⟩ := h
  refine pfX2_25 (pc := 2) C k1 k2 dX2_beginWith_2 ?_
  refine g_aload_n (pc := 5) C dX2_beginWith_5 (q := 0) rfl ?_
  refine g_aload_n (pc := 6) C dX2_beginWith_6 (q := 1) rfl ?_
  obtain ⟨k3, h⟩ := h
  refine gfX2_29 (pc := 7) (w := uR w a0 0 a1) C k3 dX2_beginWith_7 ?_
  refine pfX2_9 (pc := 10) (w := uR w a0 0 a1) C k1 dX2_beginWith_10 ?_
  refine g_aload_n (pc := 13) C dX2_beginWith_13 (q := 0) rfl ?_
  refine g_iconst (pc := 14) C dX2_beginWith_14 (v := 0) rfl ?_
  refine pfX2_15 (pc := 15) (w := uI (uR w a0 0 a1) a0 1 (wI (uR w a0 0 a1) a1 3)) C k1 dX2_beginWith_15 ?_
  refine g_iconst (pc := 18) C dX2_beginWith_18 (v := 0) rfl ?_
  refine g_istore_n (pc := 19) C dX2_beginWith_19 (Nat.le_of_ble_eq_true rfl) (lo' := [(2, .int 0), (0, .ref (adr x a0)), (1, .ref (adr x a1))]) rfl ?_
  obtain ⟨n19, h⟩ := h
  refine g_sub [1, 2, 0] rfl ?_
  refine t_X2_beginWith_20 C hlk hr n19 _ _ _ _ h
def w_X2_pourOut (a0 : Nat) (a1 : Int32) (a2 : Int32) (K : Wd → Prop) (w : Wd) : Prop :=
  ((a1 < 0 → K w) ∧ (¬ a1 < 0 → isK w a0 2 ∧ isK w (wR w a0 4) 20 ∧ (((Int32.ofNat (wn w (wR w a0 4))) ≤ a1 → K w) ∧ (¬ (Int32.ofNat (wn w (wR w a0 4))) ≤ a1 → vp_in a1 (wn w (wR w a0 4)) ∧ vp_in a1 (wn w (wR w a0 4)) ∧ K (uI w (wR w a0 4) a1.toNatClampNeg ((wI w (wR w a0 4) a1.toNatClampNeg) - a2))))))
theorem c_X2_pourOut {x : xG} {l : Launch} {a0 : Nat} {a1 : Int32} {a2 : Int32} {K : Wd → Prop} {w : Wd} (h : w_X2_pourOut a0 a1 a2 K w) : Met l yX2_pourOut (xws yX2_pourOut cX2_pourOut 3 none) (rmd 0 0 0) (xPc x [.ref (adr x a0), .int a1, .int a2] w) (QcV x K) 0 0 (xA x) := by
  refine xMet (by decide) (Nat.le_of_ble_eq_true rfl) (fun p e s m below meth c C hlk hr _ => ?_)
  show GW x p l e (rmd 0 0 0) s m [.ref (adr x a0), .int a1, .int a2].toArray below meth c 3 (QV x K below [.ref (adr x a0), .int a1, .int a2].toArray s 0 0) 0 [(0, .ref (adr x a0)), (1, .int a1), (2, .int a2)] [] w 0 0
  refine g_iload_n (pc := 0) C dX2_pourOut_0 (q := 1) rfl ?_
  refine g_if_lt (pc := 1) C dX2_pourOut_1 (tgt := 23) rfl (fun z1 => ?_) (fun z1 => ?_)
  · replace h := h.1 z1
    exact g_vret (pc := 23) C hlk hr (Nat.le_refl _) (Nat.le_refl _) dX2_pourOut_23 h
  · replace h := h.2 z1
    refine g_iload_n (pc := 4) C dX2_pourOut_4 (q := 1) rfl ?_
    refine g_aload_n (pc := 5) C dX2_pourOut_5 (q := 0) rfl ?_
    obtain ⟨k2, h⟩ := h
    obtain ⟨k3, h⟩ := h
    refine gfX2_22 (pc := 6) C k2 (isK_ne k3) dX2_pourOut_6 ?_
    refine g_alen (pc := 9) C k3 (by decide) dX2_pourOut_9 ?_
    refine g_icmp_ge (pc := 10) C dX2_pourOut_10 (tgt := 23) rfl (fun z4 => ?_) (fun z4 => ?_)
    · replace h := h.1 z4
      exact g_vret (pc := 23) C hlk hr (Nat.le_refl _) (Nat.le_refl _) dX2_pourOut_23 h
    · replace h := h.2 z4
      refine g_aload_n (pc := 13) C dX2_pourOut_13 (q := 0) rfl ?_
      refine gfX2_22 (pc := 14) C k2 (isK_ne k3) dX2_pourOut_14 ?_
      refine g_iload_n (pc := 17) C dX2_pourOut_17 (q := 1) rfl ?_
      refine g_dup2 (pc := 18) C dX2_pourOut_18 rfl rfl ?_
      obtain ⟨k5, h⟩ := h
      refine g_iald (pc := 19) C k3 k5 dX2_pourOut_19 ?_
      refine g_iload_n (pc := 20) C dX2_pourOut_20 (q := 2) rfl ?_
      refine g_isub (pc := 21) C dX2_pourOut_21 ?_
      obtain ⟨k6, h⟩ := h
      refine g_iast (pc := 22) C k3 k6 dX2_pourOut_22 ?_
      exact g_vret (pc := 23) C hlk hr (Nat.le_refl _) (Nat.le_refl _) dX2_pourOut_23 h
theorem miX2_80 (C : xC x p s m c cc nL args RX2) {a0 : Nat} {a1 : Int32} {K : Int32 → Wd → Prop} {D MC MS : Nat} (hq : isK w a0 1) (h : w_X1_deepOf a0 a1 K w) (hD : 0 + 1 ≤ D) (hW : (st.map fun v => v.category).sum ≤ 8) (hij : i ≤ MC ∧ j ≤ MS) (hd : decode cc pc = .ok (.invokevirtual 80, 3)) (k : ∀ (r : Int32) (u : Wd), K r u → GW x p l e (rmd D MC MS) s m args below meth c nL Q (pc + 3) lo (.int r :: st) u i j) : GW x p l e (rmd D MC MS) s m args below meth c nL Q pc lo (.int a1 :: .ref (adr x a0) :: st) w i j := g_callVi0 C (As := [.int a1]) (ci := 1) (c_X1_deepOf h) (x_cwV C 1 LMX2_80 ⟨rfl, by decide, by decide, rfl⟩ hD (by decide)) rfl hq (by decide) rfl rfl hW hd hij k
theorem miX2_83 (C : xC x p s m c cc nL args RX2) {a0 : Nat} {a1 : Int32} {a2 : Int32} {K : Wd → Prop} {D MC MS : Nat} (hq : isK w a0 2) (h : w_X2_pourOut a0 a1 a2 K w) (hD : 0 + 1 ≤ D) (hW : (st.map fun v => v.category).sum ≤ 8) (hij : i ≤ MC ∧ j ≤ MS) (hd : decode cc pc = .ok (.invokevirtual 83, 3)) (k : ∀ (u : Wd), K u → GW x p l e (rmd D MC MS) s m args below meth c nL Q (pc + 3) lo st u i j) : GW x p l e (rmd D MC MS) s m args below meth c nL Q pc lo (.int a2 :: .int a1 :: .ref (adr x a0) :: st) w i j := g_callVv0 C (As := [.int a1, .int a2]) (ci := 2) (c_X2_pourOut h) (x_cwV C 2 LMX2_83 ⟨rfl, by decide, by decide, rfl⟩ hD (by decide)) rfl hq (by decide) rfl rfl hW hd hij k
def w_X2_pass (a0 : Nat) (a1 : Int32) (a2 : Int32) (K : Wd → Prop) (w : Wd) : Prop :=
  isK w a0 2 ∧ w_X2_waterOf a0 a2 (fun r2 w3 => isK w3 a0 2 ∧ isK w3 (wR w3 a0 0) 1 ∧ w_X1_deepOf (wR w3 a0 0) a2 (fun r6 w7 => ((r6 ≤ r2 → K w7) ∧ (¬ r6 ≤ r2 → isK w7 a0 2 ∧ w_X2_pourOut a0 a1 1 (fun w10 => isK w10 a0 2 ∧ w_X2_pourOut a0 a2 (-1) (fun w12 => K w12) w10) w7))) w3) w
theorem c_X2_pass {x : xG} {l : Launch} {a0 : Nat} {a1 : Int32} {a2 : Int32} {K : Wd → Prop} {w : Wd} (h : w_X2_pass a0 a1 a2 K w) : Met l yX2_pass (xws yX2_pass cX2_pass 3 none) (rmd 1 0 0) (xPc x [.ref (adr x a0), .int a1, .int a2] w) (QcV x K) 0 0 (xA x) := by
  refine xMet (by decide) (Nat.le_of_ble_eq_true rfl) (fun p e s m below meth c C hlk hr _ => ?_)
  show GW x p l e (rmd 1 0 0) s m [.ref (adr x a0), .int a1, .int a2].toArray below meth c 3 (QV x K below [.ref (adr x a0), .int a1, .int a2].toArray s 0 0) 0 [(0, .ref (adr x a0)), (1, .int a1), (2, .int a2)] [] w 0 0
  refine g_aload_n (pc := 0) C dX2_pass_0 (q := 0) rfl ?_
  refine g_iload_n (pc := 1) C dX2_pass_1 (q := 2) rfl ?_
  obtain ⟨k1, h⟩ := h
  refine miX2_63 (pc := 2) C k1 h (Nat.le_of_ble_eq_true rfl) (Nat.le_of_ble_eq_true rfl) ⟨Nat.le_refl _, Nat.le_refl _⟩ dX2_pass_2 (fun r2 w3 h => ?_)
  refine g_aload_n (pc := 5) C dX2_pass_5 (q := 0) rfl ?_
  obtain ⟨k4, h⟩ := h
  obtain ⟨k5, h⟩ := h
  refine gfX2_25 (pc := 6) C k4 (isK_ne k5) dX2_pass_6 ?_
  refine g_iload_n (pc := 9) C dX2_pass_9 (q := 2) rfl ?_
  refine miX2_80 (pc := 10) C k5 h (Nat.le_of_ble_eq_true rfl) (Nat.le_of_ble_eq_true rfl) ⟨Nat.le_refl _, Nat.le_refl _⟩ dX2_pass_10 (fun r6 w7 h => ?_)
  refine g_icmp_ge (pc := 13) C dX2_pass_13 (tgt := 28) rfl (fun z8 => ?_) (fun z8 => ?_)
  · replace h := h.1 z8
    exact g_vret (pc := 28) C hlk hr (Nat.le_refl _) (Nat.le_refl _) dX2_pass_28 h
  · replace h := h.2 z8
    refine g_aload_n (pc := 16) C dX2_pass_16 (q := 0) rfl ?_
    refine g_iload_n (pc := 17) C dX2_pass_17 (q := 1) rfl ?_
    refine g_iconst (pc := 18) C dX2_pass_18 (v := 1) rfl ?_
    obtain ⟨k9, h⟩ := h
    refine miX2_83 (pc := 19) C k9 h (Nat.le_of_ble_eq_true rfl) (Nat.le_of_ble_eq_true rfl) ⟨Nat.le_refl _, Nat.le_refl _⟩ dX2_pass_19 (fun w10 h => ?_)
    refine g_aload_n (pc := 22) C dX2_pass_22 (q := 0) rfl ?_
    refine g_iload_n (pc := 23) C dX2_pass_23 (q := 2) rfl ?_
    refine g_iconst (pc := 24) C dX2_pass_24 (v := (-1)) rfl ?_
    obtain ⟨k11, h⟩ := h
    refine miX2_83 (pc := 25) C k11 h (Nat.le_of_ble_eq_true rfl) (Nat.le_of_ble_eq_true rfl) ⟨Nat.le_refl _, Nat.le_refl _⟩ dX2_pass_25 (fun w12 h => ?_)
    exact g_vret (pc := 28) C hlk hr (Nat.le_refl _) (Nat.le_refl _) dX2_pass_28 h
theorem miX2_92 (C : xC x p s m c cc nL args RX2) {a0 : Nat} {a1 : Int32} {a2 : Int32} {K : Wd → Prop} {D MC MS : Nat} (hq : isK w a0 2) (h : w_X2_pass a0 a1 a2 K w) (hD : 1 + 1 ≤ D) (hW : (st.map fun v => v.category).sum ≤ 8) (hij : i ≤ MC ∧ j ≤ MS) (hd : decode cc pc = .ok (.invokevirtual 92, 3)) (k : ∀ (u : Wd), K u → GW x p l e (rmd D MC MS) s m args below meth c nL Q (pc + 3) lo st u i j) : GW x p l e (rmd D MC MS) s m args below meth c nL Q pc lo (.int a2 :: .int a1 :: .ref (adr x a0) :: st) w i j := g_callVv0 C (As := [.int a1, .int a2]) (ci := 2) (c_X2_pass h) (x_cwV C 2 LMX2_92 ⟨rfl, by decide, by decide, rfl⟩ hD (by decide)) rfl hq (by decide) rfl rfl hW hd hij k
def w_X2_dreamLevel (a0 : Nat) (a1 : Int32) (a2 : Int32) (K : Wd → Prop) (w : Wd) : Prop :=
  isK w a0 2 ∧ w_X2_waterOf a0 a1 (fun r2 w3 => isK w3 a0 2 ∧ w_X2_waterOf a0 a2 (fun r5 w6 => (((r2 - r5) < 2 → (((-2) < (r2 - r5) → K w6) ∧ (¬ (-2) < (r2 - r5) → isK w6 a0 2 ∧ w_X2_pass a0 a2 a1 (fun w10 => K w10) w6))) ∧ (¬ (r2 - r5) < 2 → isK w6 a0 2 ∧ w_X2_pass a0 a1 a2 (fun w12 => K w12) w6))) w3) w
theorem c_X2_dreamLevel {x : xG} {l : Launch} {a0 : Nat} {a1 : Int32} {a2 : Int32} {K : Wd → Prop} {w : Wd} (h : w_X2_dreamLevel a0 a1 a2 K w) : Met l yX2_dreamLevel (xws yX2_dreamLevel cX2_dreamLevel 4 none) (rmd 2 0 0) (xPc x [.ref (adr x a0), .int a1, .int a2] w) (QcV x K) 0 0 (xA x) := by
  refine xMet (by decide) (Nat.le_of_ble_eq_true rfl) (fun p e s m below meth c C hlk hr _ => ?_)
  show GW x p l e (rmd 2 0 0) s m [.ref (adr x a0), .int a1, .int a2].toArray below meth c 4 (QV x K below [.ref (adr x a0), .int a1, .int a2].toArray s 0 0) 0 [(0, .ref (adr x a0)), (1, .int a1), (2, .int a2)] [] w 0 0
  refine g_aload_n (pc := 0) C dX2_dreamLevel_0 (q := 0) rfl ?_
  refine g_iload_n (pc := 1) C dX2_dreamLevel_1 (q := 1) rfl ?_
  obtain ⟨k1, h⟩ := h
  refine miX2_63 (pc := 2) C k1 h (Nat.le_of_ble_eq_true rfl) (Nat.le_of_ble_eq_true rfl) ⟨Nat.le_refl _, Nat.le_refl _⟩ dX2_dreamLevel_2 (fun r2 w3 h => ?_)
  refine g_aload_n (pc := 5) C dX2_dreamLevel_5 (q := 0) rfl ?_
  refine g_iload_n (pc := 6) C dX2_dreamLevel_6 (q := 2) rfl ?_
  obtain ⟨k4, h⟩ := h
  refine miX2_63 (pc := 7) C k4 h (Nat.le_of_ble_eq_true rfl) (Nat.le_of_ble_eq_true rfl) ⟨Nat.le_refl _, Nat.le_refl _⟩ dX2_dreamLevel_7 (fun r5 w6 h => ?_)
  refine g_isub (pc := 10) C dX2_dreamLevel_10 ?_
  refine g_istore_n (pc := 11) C dX2_dreamLevel_11 (Nat.le_of_ble_eq_true rfl) (lo' := [(3, .int (r2 - r5)), (0, .ref (adr x a0)), (1, .int a1), (2, .int a2)]) rfl ?_
  refine g_iload_n (pc := 12) C dX2_dreamLevel_12 (q := 0) rfl ?_
  refine g_iconst (pc := 13) C dX2_dreamLevel_13 (v := 2) rfl ?_
  refine g_icmp_lt (pc := 14) C dX2_dreamLevel_14 (tgt := 26) rfl (fun z7 => ?_) (fun z7 => ?_)
  · replace h := h.1 z7
    refine g_iload_n (pc := 26) C dX2_dreamLevel_26 (q := 0) rfl ?_
    refine g_bipush (pc := 27) C dX2_dreamLevel_27 (v := (-2)) rfl ?_
    refine g_icmp_gt (pc := 29) C dX2_dreamLevel_29 (tgt := 38) rfl (fun z8 => ?_) (fun z8 => ?_)
    · replace h := h.1 z8
      exact g_vret (pc := 38) C hlk hr (Nat.le_refl _) (Nat.le_refl _) dX2_dreamLevel_38 h
    · replace h := h.2 z8
      refine g_aload_n (pc := 32) C dX2_dreamLevel_32 (q := 1) rfl ?_
      refine g_iload_n (pc := 33) C dX2_dreamLevel_33 (q := 3) rfl ?_
      refine g_iload_n (pc := 34) C dX2_dreamLevel_34 (q := 2) rfl ?_
      obtain ⟨k9, h⟩ := h
      refine miX2_92 (pc := 35) C k9 h (Nat.le_of_ble_eq_true rfl) (Nat.le_of_ble_eq_true rfl) ⟨Nat.le_refl _, Nat.le_refl _⟩ dX2_dreamLevel_35 (fun w10 h => ?_)
      exact g_vret (pc := 38) C hlk hr (Nat.le_refl _) (Nat.le_refl _) dX2_dreamLevel_38 h
  · replace h := h.2 z7
    refine g_aload_n (pc := 17) C dX2_dreamLevel_17 (q := 1) rfl ?_
    refine g_iload_n (pc := 18) C dX2_dreamLevel_18 (q := 2) rfl ?_
    refine g_iload_n (pc := 19) C dX2_dreamLevel_19 (q := 3) rfl ?_
    obtain ⟨k11, h⟩ := h
    refine miX2_92 (pc := 20) C k11 h (Nat.le_of_ble_eq_true rfl) (Nat.le_of_ble_eq_true rfl) ⟨Nat.le_refl _, Nat.le_refl _⟩ dX2_dreamLevel_20 (fun w12 h => ?_)
    refine g_goto (pc := 23) C dX2_dreamLevel_23 (tgt := 38) rfl ?_
    exact g_vret (pc := 38) C hlk hr (Nat.le_refl _) (Nat.le_refl _) dX2_dreamLevel_38 h
def w_X2_isAwake (a0 : Nat) (a1 : Int32) (K : Int32 → Wd → Prop) (w : Wd) : Prop :=
  isK w a0 2 ∧ w_X2_isAwakeIn a0 a1 0 (fun r2 w3 => (r2 = 0 ∨ r2 = 1) ∧ K r2 w3) w
theorem c_X2_isAwake {x : xG} {l : Launch} {a0 : Nat} {a1 : Int32} {K : Int32 → Wd → Prop} {w : Wd} (h : w_X2_isAwake a0 a1 K w) : Met l yX2_isAwake (xws yX2_isAwake cX2_isAwake 2 (some .boolean)) (rmd 2 0 0) (xPc x [.ref (adr x a0), .int a1] w) (QcI x K) 0 0 (xA x) := by
  refine xMet (by decide) (Nat.le_of_ble_eq_true rfl) (fun p e s m below meth c C hlk hr _ => ?_)
  show GW x p l e (rmd 2 0 0) s m [.ref (adr x a0), .int a1].toArray below meth c 2 (QI x K below [.ref (adr x a0), .int a1].toArray s 0 0) 0 [(0, .ref (adr x a0)), (1, .int a1)] [] w 0 0
  refine g_aload_n (pc := 0) C dX2_isAwake_0 (q := 0) rfl ?_
  refine g_iload_n (pc := 1) C dX2_isAwake_1 (q := 1) rfl ?_
  refine g_iconst (pc := 2) C dX2_isAwake_2 (v := 0) rfl ?_
  obtain ⟨k1, h⟩ := h
  refine miX2_53 (pc := 3) C k1 h (Nat.le_of_ble_eq_true rfl) (Nat.le_of_ble_eq_true rfl) ⟨Nat.le_refl _, Nat.le_refl _⟩ dX2_isAwake_3 (fun r2 w3 h => ?_)
  exact g_zret (pc := 6) C hlk hr (Nat.le_refl _) (Nat.le_refl _) dX2_isAwake_6 h.1 h.2
def w_X11_has (a0 : Int32) (a1 : Int32) (K : Int32 → Wd → Prop) (w : Wd) : Prop :=
  ((a1 < 0 → K 0 w) ∧ (¬ a1 < 0 → ((32 ≤ a1 → K 0 w) ∧ (¬ 32 ≤ a1 → ((((x_ishr a0 a1) &&& 1) = 0 → K 0 w) ∧ (¬ ((x_ishr a0 a1) &&& 1) = 0 → K 1 w))))))
theorem c_X11_has {x : xG} {l : Launch} {a0 : Int32} {a1 : Int32} {K : Int32 → Wd → Prop} {w : Wd} (h : w_X11_has a0 a1 K w) : Met l yX11_has (xws yX11_has cX11_has 2 (some .boolean)) (rmd 0 0 0) (xPc x [.int a0, .int a1] w) (QcI x K) 0 0 (xA x) := by
  refine xMet (by decide) (Nat.le_of_ble_eq_true rfl) (fun p e s m below meth c C hlk hr _ => ?_)
  show GW x p l e (rmd 0 0 0) s m [.int a0, .int a1].toArray below meth c 2 (QI x K below [.int a0, .int a1].toArray s 0 0) 0 [(0, .int a0), (1, .int a1)] [] w 0 0
  refine g_iload_n (pc := 0) C dX11_has_0 (q := 1) rfl ?_
  refine g_if_lt (pc := 1) C dX11_has_1 (tgt := 22) rfl (fun z1 => ?_) (fun z1 => ?_)
  · replace h := h.1 z1
    refine g_iconst (pc := 22) C dX11_has_22 (v := 0) rfl ?_
    exact g_zret (pc := 23) C hlk hr (Nat.le_refl _) (Nat.le_refl _) dX11_has_23 (Or.inl rfl) h
  · replace h := h.2 z1
    refine g_iload_n (pc := 4) C dX11_has_4 (q := 1) rfl ?_
    refine g_bipush (pc := 5) C dX11_has_5 (v := 32) rfl ?_
    refine g_icmp_ge (pc := 7) C dX11_has_7 (tgt := 22) rfl (fun z2 => ?_) (fun z2 => ?_)
    · replace h := h.1 z2
      refine g_iconst (pc := 22) C dX11_has_22 (v := 0) rfl ?_
      exact g_zret (pc := 23) C hlk hr (Nat.le_refl _) (Nat.le_refl _) dX11_has_23 (Or.inl rfl) h
    · replace h := h.2 z2
      refine g_iload_n (pc := 10) C dX11_has_10 (q := 0) rfl ?_
      refine g_iload_n (pc := 11) C dX11_has_11 (q := 1) rfl ?_
      refine h_ishr (pc := 12) C dX11_has_12 ?_
      refine g_iconst (pc := 13) C dX11_has_13 (v := 1) rfl ?_
      refine g_iand (pc := 14) C dX11_has_14 ?_
      refine g_if_eq (pc := 15) C dX11_has_15 (tgt := 22) rfl (fun z3 => ?_) (fun z3 => ?_)
      · replace h := h.1 z3
        refine g_iconst (pc := 22) C dX11_has_22 (v := 0) rfl ?_
        exact g_zret (pc := 23) C hlk hr (Nat.le_refl _) (Nat.le_refl _) dX11_has_23 (Or.inl rfl) h
      · replace h := h.2 z3
        refine g_iconst (pc := 18) C dX11_has_18 (v := 1) rfl ?_
        refine g_goto (pc := 19) C dX11_has_19 (tgt := 23) rfl ?_
        exact g_zret (pc := 23) C hlk hr (Nat.le_refl _) (Nat.le_refl _) dX11_has_23 (Or.inr rfl) h
theorem miX2_57 (C : xC x p s m c cc nL args RX2) {a0 : Int32} {a1 : Int32} {K : Int32 → Wd → Prop} {D MC MS : Nat} (h : w_X11_has a0 a1 K w) (hD : 0 + 1 ≤ D) (hW : (st.map fun v => v.category).sum ≤ 8) (hij : i ≤ MC ∧ j ≤ MS) (hd : decode cc pc = .ok (.invokestatic 57, 3)) (k : ∀ (r : Int32) (u : Wd), K r u → GW x p l e (rmd D MC MS) s m args below meth c nL Q (pc + 3) lo (.int r :: st) u i j) : GW x p l e (rmd D MC MS) s m args below meth c nL Q pc lo (.int a1 :: .int a0 :: st) w i j := g_callNi0 C (As := [.int a0, .int a1]) (c_X11_has h) (x_cwN C 2 LKX11_has LNX2_57 LSX11_has LIX11 ⟨by decide, by decide, rfl⟩ hD (by decide)) rfl rfl hW hd hij k
def w_X2_isSour (a0 : Nat) (a1 : Int32) (K : Int32 → Wd → Prop) (w : Wd) : Prop :=
  isK w a0 2 ∧ w_X11_has (wI w a0 2) a1 (fun r2 w3 => (r2 = 0 ∨ r2 = 1) ∧ K r2 w3) w
theorem c_X2_isSour {x : xG} {l : Launch} {a0 : Nat} {a1 : Int32} {K : Int32 → Wd → Prop} {w : Wd} (h : w_X2_isSour a0 a1 K w) : Met l yX2_isSour (xws yX2_isSour cX2_isSour 2 (some .boolean)) (rmd 1 0 0) (xPc x [.ref (adr x a0), .int a1] w) (QcI x K) 0 0 (xA x) := by
  refine xMet (by decide) (Nat.le_of_ble_eq_true rfl) (fun p e s m below meth c C hlk hr _ => ?_)
  show GW x p l e (rmd 1 0 0) s m [.ref (adr x a0), .int a1].toArray below meth c 2 (QI x K below [.ref (adr x a0), .int a1].toArray s 0 0) 0 [(0, .ref (adr x a0)), (1, .int a1)] [] w 0 0
  refine g_aload_n (pc := 0) C dX2_isSour_0 (q := 0) rfl ?_
  obtain ⟨k1, h⟩ := h
  refine gfX2_15 (pc := 1) C k1 dX2_isSour_1 ?_
  refine g_iload_n (pc := 4) C dX2_isSour_4 (q := 1) rfl ?_
  refine miX2_57 (pc := 5) C h (Nat.le_of_ble_eq_true rfl) (Nat.le_of_ble_eq_true rfl) ⟨Nat.le_refl _, Nat.le_refl _⟩ dX2_isSour_5 (fun r2 w3 h => ?_)
  exact g_zret (pc := 8) C hlk hr (Nat.le_refl _) (Nat.le_refl _) dX2_isSour_8 h.1 h.2
theorem miX2_76 (C : xC x p s m c cc nL args RX2) {a0 : Nat} {K : Int32 → Wd → Prop} {D MC MS : Nat} (hq : isK w a0 2) (h : w_X2_asleepBits a0 K w) (hD : 2 + 1 ≤ D) (hW : (st.map fun v => v.category).sum ≤ 8) (hij : i ≤ MC ∧ j ≤ MS) (hd : decode cc pc = .ok (.invokevirtual 76, 3)) (k : ∀ (r : Int32) (u : Wd), K r u → GW x p l e (rmd D MC MS) s m args below meth c nL Q (pc + 3) lo (.int r :: st) u i j) : GW x p l e (rmd D MC MS) s m args below meth c nL Q pc lo (.ref (adr x a0) :: st) w i j := g_callVi0 C (As := []) (ci := 2) (c_X2_asleepBits h) (x_cwV C 0 LMX2_76 ⟨rfl, by decide, by decide, rfl⟩ hD (by decide)) rfl hq (by decide) rfl rfl hW hd hij k
theorem miX2_86 (C : xC x p s m c cc nL args RX2) {a0 : Nat} {a1 : Int32} {K : Int32 → Wd → Prop} {D MC MS : Nat} (hq : isK w a0 1) (h : w_X1_besideOf a0 a1 K w) (hD : 0 + 1 ≤ D) (hW : (st.map fun v => v.category).sum ≤ 8) (hij : i ≤ MC ∧ j ≤ MS) (hd : decode cc pc = .ok (.invokevirtual 86, 3)) (k : ∀ (r : Int32) (u : Wd), K r u → GW x p l e (rmd D MC MS) s m args below meth c nL Q (pc + 3) lo (.int r :: st) u i j) : GW x p l e (rmd D MC MS) s m args below meth c nL Q pc lo (.int a1 :: .ref (adr x a0) :: st) w i j := g_callVi0 C (As := [.int a1]) (ci := 1) (c_X1_besideOf h) (x_cwV C 1 LMX2_86 ⟨rfl, by decide, by decide, rfl⟩ hD (by decide)) rfl hq (by decide) rfl rfl hW hd hij k
theorem miX2_89 (C : xC x p s m c cc nL args RX2) {a0 : Nat} {a1 : Int32} {a2 : Int32} {K : Wd → Prop} {D MC MS : Nat} (hq : isK w a0 2) (h : w_X2_dreamLevel a0 a1 a2 K w) (hD : 2 + 1 ≤ D) (hW : (st.map fun v => v.category).sum ≤ 8) (hij : i ≤ MC ∧ j ≤ MS) (hd : decode cc pc = .ok (.invokevirtual 89, 3)) (k : ∀ (u : Wd), K u → GW x p l e (rmd D MC MS) s m args below meth c nL Q (pc + 3) lo st u i j) : GW x p l e (rmd D MC MS) s m args below meth c nL Q pc lo (.int a2 :: .int a1 :: .ref (adr x a0) :: st) w i j := g_callVv0 C (As := [.int a1, .int a2]) (ci := 2) (c_X2_dreamLevel h) (x_cwV C 2 LMX2_89 ⟨rfl, by decide, by decide, rfl⟩ hD (by decide)) rfl hq (by decide) rfl rfl hW hd hij k
def l_X2_passHour_7 (E54 : Nat → Int32 → Wd → Prop) (K : Wd → Prop) : Nat → Nat → Int32 → Int32 → Wd → Prop
  | 0, _, _, _, _ => False
  | n + 1, a0, a1, a2, w => isK w a0 2 ∧ isK w (wR w a0 0) 1 ∧ (((wI w (wR w a0 0) 1) ≤ a2 → E54 a0 a1 w) ∧ (¬ (wI w (wR w a0 0) 1) ≤ a2 → w_X11_has a1 a2 (fun r7 w8 => ((r7 = 0 → l_X2_passHour_7 E54 K n a0 a1 (a2 + 1) w8) ∧ (¬ r7 = 0 → isK w8 a0 2 ∧ w_X2_waterOf a0 a2 (fun r11 w12 => isK w12 a0 2 ∧ isK w12 (wR w12 a0 0) 1 ∧ w_X1_deepOf (wR w12 a0 0) a2 (fun r15 w16 => ((r15 ≤ r11 → l_X2_passHour_7 E54 K n a0 a1 (a2 + 1) w16) ∧ (¬ r15 ≤ r11 → isK w16 a0 2 ∧ w_X2_pourOut a0 a2 (-1) (fun w19 => l_X2_passHour_7 E54 K n a0 a1 (a2 + 1) w19) w16))) w12) w8))) w))
def l_X2_passHour_95 (E129 : Nat → Int32 → Int32 → Wd → Prop) (K : Wd → Prop) : Nat → Nat → Int32 → Int32 → Int32 → Int32 → Wd → Prop
  | 0, _, _, _, _, _, _ => False
  | n + 1, a0, a1, a2, a3, a4, w => isK w a0 2 ∧ isK w (wR w a0 0) 1 ∧ (((wI w (wR w a0 0) 1) ≤ a4 → E129 a0 a1 a2 w) ∧ (¬ (wI w (wR w a0 0) 1) ≤ a4 → w_X11_has a3 a4 (fun r32 w33 => ((r32 = 0 → l_X2_passHour_95 E129 K n a0 a1 a2 a3 (a4 + 1) w33) ∧ (¬ r32 = 0 → isK w33 a0 2 ∧ w_X2_dreamLevel a0 a2 a4 (fun w36 => l_X2_passHour_95 E129 K n a0 a1 a2 a3 (a4 + 1) w36) w33))) w))
def l_X2_passHour_56 (E135 : Nat → Wd → Prop) (K : Wd → Prop) : Nat → Nat → Int32 → Int32 → Wd → Prop
  | 0, _, _, _, _ => False
  | n + 1, a0, a1, a2, w => isK w a0 2 ∧ isK w (wR w a0 0) 1 ∧ (((wI w (wR w a0 0) 1) ≤ a2 → E135 a0 w) ∧ (¬ (wI w (wR w a0 0) 1) ≤ a2 → w_X11_has a1 a2 (fun r26 w27 => ((r26 = 0 → ∃ n41, l_X2_passHour_95 (fun b37 b38 b39 w40 => l_X2_passHour_56 E135 K n b37 b38 (b39 + 1) w40) K n41 a0 a1 a2 0 (a2 + 1) w27) ∧ (¬ r26 = 0 → isK w27 a0 2 ∧ isK w27 (wR w27 a0 0) 1 ∧ w_X1_besideOf (wR w27 a0 0) a2 (fun r44 w45 => ∃ n50, l_X2_passHour_95 (fun b46 b47 b48 w49 => l_X2_passHour_56 E135 K n b46 b47 (b48 + 1) w49) K n50 a0 a1 a2 (r44 &&& a1) (a2 + 1) w45) w27))) w))
def w_X2_passHour (a0 : Nat) (K : Wd → Prop) (w : Wd) : Prop :=
  isK w a0 2 ∧ w_X2_asleepBits a0 (fun r2 w3 => ∃ n58, l_X2_passHour_7 (fun b20 b21 w22 => ∃ n57, l_X2_passHour_56 (fun b51 w52 => isK w52 b51 2 ∧ w_X2_asleepBits b51 (fun r54 w55 => isK w55 b51 2 ∧ K (uI w55 b51 2 ((wI (uI w52 b51 1 ((wI w52 b51 1) + 1)) b51 2) &&& (r54 ^^^ (-1))))) (uI w52 b51 1 ((wI w52 b51 1) + 1))) K n57 b20 b21 0 w22) K n58 a0 r2 0 w3) w
theorem t_X2_passHour_7 (C : xC x p s m c cX2_passHour 5 args RX2) (hlk : meth.locks = false) (hr : meth.sig.returnType = none) {K : Wd → Prop} {E54 : Nat → Int32 → Wd → Prop} (hE54 : ∀ (b0 : Nat) (b1 : Int32) (w : Wd), E54 b0 b1 w → GW x p l e (rmd 3 0 0) s m args below meth c 5 (QV x K below args s 0 0) 54 [(0, .ref (adr x b0)), (1, .int b1)] [] w 0 0) : ∀ (n : Nat) (a0 : Nat) (a1 : Int32) (a2 : Int32) (w : Wd), l_X2_passHour_7 E54 K n a0 a1 a2 w → GW x p l e (rmd 3 0 0) s m args below meth c 5 (QV x K below args s 0 0) 7 [(0, .ref (adr x a0)), (1, .int a1), (2, .int a2)] [] w 0 0 := by
  intro n
  induction n with
  | zero => intro _ _ _ _ h; exact False.elim h
  | succ n ih =>
    intro a0 a1 a2 w h
    refine g_iload_n (pc := 7) C dX2_passHour_7 (q := 2) rfl ?_
    refine g_aload_n (pc := 8) C dX2_passHour_8 (q := 0) rfl ?_
    obtain ⟨k4, h⟩ := h
    obtain ⟨k5, h⟩ := h
    refine gfX2_25 (pc := 9) C k4 (isK_ne k5) dX2_passHour_9 ?_
    refine gfX2_60 (pc := 12) C k5 dX2_passHour_12 ?_
    refine g_icmp_ge (pc := 15) C dX2_passHour_15 (tgt := 54) rfl (fun z6 => ?_) (fun z6 => ?_)
    · replace h := h.1 z6
      refine g_sub [0, 1] rfl ?_
      exact hE54 _ _ _ h
    · replace h := h.2 z6
      refine g_iload_n (pc := 18) C dX2_passHour_18 (q := 1) rfl ?_
      refine g_iload_n (pc := 19) C dX2_passHour_19 (q := 2) rfl ?_
      refine miX2_57 (pc := 20) C h (Nat.le_of_ble_eq_true rfl) (Nat.le_of_ble_eq_true rfl) ⟨Nat.le_refl _, Nat.le_refl _⟩ dX2_passHour_20 (fun r7 w8 h => ?_)
      refine g_if_eq (pc := 23) C dX2_passHour_23 (tgt := 48) rfl (fun z9 => ?_) (fun z9 => ?_)
      · replace h := h.1 z9
        refine g_iinc (pc := 48) C dX2_passHour_48 (q := 2) rfl (v2 := a2 + 1) rfl (Nat.le_of_ble_eq_true rfl) (lo' := [(2, .int (a2 + 1)), (0, .ref (adr x a0)), (1, .int a1)]) rfl ?_
        refine g_goto (pc := 51) C dX2_passHour_51 (tgt := 7) rfl ?_
        refine g_sub [1, 2, 0] rfl ?_
        exact ih _ _ _ _ h
      · replace h := h.2 z9
        refine g_aload_n (pc := 26) C dX2_passHour_26 (q := 0) rfl ?_
        refine g_iload_n (pc := 27) C dX2_passHour_27 (q := 2) rfl ?_
        obtain ⟨k10, h⟩ := h
        refine miX2_63 (pc := 28) C k10 h (Nat.le_of_ble_eq_true rfl) (Nat.le_of_ble_eq_true rfl) ⟨Nat.le_refl _, Nat.le_refl _⟩ dX2_passHour_28 (fun r11 w12 h => ?_)
        refine g_aload_n (pc := 31) C dX2_passHour_31 (q := 0) rfl ?_
        obtain ⟨k13, h⟩ := h
        obtain ⟨k14, h⟩ := h
        refine gfX2_25 (pc := 32) C k13 (isK_ne k14) dX2_passHour_32 ?_
        refine g_iload_n (pc := 35) C dX2_passHour_35 (q := 2) rfl ?_
        refine miX2_80 (pc := 36) C k14 h (Nat.le_of_ble_eq_true rfl) (Nat.le_of_ble_eq_true rfl) ⟨Nat.le_refl _, Nat.le_refl _⟩ dX2_passHour_36 (fun r15 w16 h => ?_)
        refine g_icmp_ge (pc := 39) C dX2_passHour_39 (tgt := 48) rfl (fun z17 => ?_) (fun z17 => ?_)
        · replace h := h.1 z17
          refine g_iinc (pc := 48) C dX2_passHour_48 (q := 2) rfl (v2 := a2 + 1) rfl (Nat.le_of_ble_eq_true rfl) (lo' := [(2, .int (a2 + 1)), (0, .ref (adr x a0)), (1, .int a1)]) rfl ?_
          refine g_goto (pc := 51) C dX2_passHour_51 (tgt := 7) rfl ?_
          refine g_sub [1, 2, 0] rfl ?_
          exact ih _ _ _ _ h
        · replace h := h.2 z17
          refine g_aload_n (pc := 42) C dX2_passHour_42 (q := 0) rfl ?_
          refine g_iload_n (pc := 43) C dX2_passHour_43 (q := 2) rfl ?_
          refine g_iconst (pc := 44) C dX2_passHour_44 (v := (-1)) rfl ?_
          obtain ⟨k18, h⟩ := h
          refine miX2_83 (pc := 45) C k18 h (Nat.le_of_ble_eq_true rfl) (Nat.le_of_ble_eq_true rfl) ⟨Nat.le_refl _, Nat.le_refl _⟩ dX2_passHour_45 (fun w19 h => ?_)
          refine g_iinc (pc := 48) C dX2_passHour_48 (q := 2) rfl (v2 := a2 + 1) rfl (Nat.le_of_ble_eq_true rfl) (lo' := [(2, .int (a2 + 1)), (0, .ref (adr x a0)), (1, .int a1)]) rfl ?_
          refine g_goto (pc := 51) C dX2_passHour_51 (tgt := 7) rfl ?_
          refine g_sub [1, 2, 0] rfl ?_
          exact ih _ _ _ _ h
theorem t_X2_passHour_95 (C : xC x p s m c cX2_passHour 5 args RX2) (hlk : meth.locks = false) (hr : meth.sig.returnType = none) {K : Wd → Prop} {E129 : Nat → Int32 → Int32 → Wd → Prop} (hE129 : ∀ (b0 : Nat) (b1 : Int32) (b2 : Int32) (w : Wd), E129 b0 b1 b2 w → GW x p l e (rmd 3 0 0) s m args below meth c 5 (QV x K below args s 0 0) 129 [(0, .ref (adr x b0)), (1, .int b1), (2, .int b2)] [] w 0 0) : ∀ (n : Nat) (a0 : Nat) (a1 : Int32) (a2 : Int32) (a3 : Int32) (a4 : Int32) (w : Wd), l_X2_passHour_95 E129 K n a0 a1 a2 a3 a4 w → GW x p l e (rmd 3 0 0) s m args below meth c 5 (QV x K below args s 0 0) 95 [(0, .ref (adr x a0)), (1, .int a1), (2, .int a2), (3, .int a3), (4, .int a4)] [] w 0 0 := by
  intro n
  induction n with
  | zero => intro _ _ _ _ _ _ h; exact False.elim h
  | succ n ih =>
    intro a0 a1 a2 a3 a4 w h
    refine g_iload (pc := 95) C dX2_passHour_95 (q := 4) rfl ?_
    refine g_aload_n (pc := 97) C dX2_passHour_97 (q := 0) rfl ?_
    obtain ⟨k29, h⟩ := h
    obtain ⟨k30, h⟩ := h
    refine gfX2_25 (pc := 98) C k29 (isK_ne k30) dX2_passHour_98 ?_
    refine gfX2_60 (pc := 101) C k30 dX2_passHour_101 ?_
    refine g_icmp_ge (pc := 104) C dX2_passHour_104 (tgt := 129) rfl (fun z31 => ?_) (fun z31 => ?_)
    · replace h := h.1 z31
      refine g_sub [0, 1, 2] rfl ?_
      exact hE129 _ _ _ _ h
    · replace h := h.2 z31
      refine g_iload_n (pc := 107) C dX2_passHour_107 (q := 3) rfl ?_
      refine g_iload (pc := 108) C dX2_passHour_108 (q := 4) rfl ?_
      refine miX2_57 (pc := 110) C h (Nat.le_of_ble_eq_true rfl) (Nat.le_of_ble_eq_true rfl) ⟨Nat.le_refl _, Nat.le_refl _⟩ dX2_passHour_110 (fun r32 w33 h => ?_)
      refine g_if_eq (pc := 113) C dX2_passHour_113 (tgt := 123) rfl (fun z34 => ?_) (fun z34 => ?_)
      · replace h := h.1 z34
        refine g_iinc (pc := 123) C dX2_passHour_123 (q := 4) rfl (v2 := a4 + 1) rfl (Nat.le_of_ble_eq_true rfl) (lo' := [(4, .int (a4 + 1)), (0, .ref (adr x a0)), (1, .int a1), (2, .int a2), (3, .int a3)]) rfl ?_
        refine g_goto (pc := 126) C dX2_passHour_126 (tgt := 95) rfl ?_
        refine g_sub [1, 2, 3, 4, 0] rfl ?_
        exact ih _ _ _ _ _ _ h
      · replace h := h.2 z34
        refine g_aload_n (pc := 116) C dX2_passHour_116 (q := 0) rfl ?_
        refine g_iload_n (pc := 117) C dX2_passHour_117 (q := 2) rfl ?_
        refine g_iload (pc := 118) C dX2_passHour_118 (q := 4) rfl ?_
        obtain ⟨k35, h⟩ := h
        refine miX2_89 (pc := 120) C k35 h (Nat.le_of_ble_eq_true rfl) (Nat.le_of_ble_eq_true rfl) ⟨Nat.le_refl _, Nat.le_refl _⟩ dX2_passHour_120 (fun w36 h => ?_)
        refine g_iinc (pc := 123) C dX2_passHour_123 (q := 4) rfl (v2 := a4 + 1) rfl (Nat.le_of_ble_eq_true rfl) (lo' := [(4, .int (a4 + 1)), (0, .ref (adr x a0)), (1, .int a1), (2, .int a2), (3, .int a3)]) rfl ?_
        refine g_goto (pc := 126) C dX2_passHour_126 (tgt := 95) rfl ?_
        refine g_sub [1, 2, 3, 4, 0] rfl ?_
        exact ih _ _ _ _ _ _ h
theorem t_X2_passHour_56 (C : xC x p s m c cX2_passHour 5 args RX2) (hlk : meth.locks = false) (hr : meth.sig.returnType = none) {K : Wd → Prop} {E135 : Nat → Wd → Prop} (hE135 : ∀ (b0 : Nat) (w : Wd), E135 b0 w → GW x p l e (rmd 3 0 0) s m args below meth c 5 (QV x K below args s 0 0) 135 [(0, .ref (adr x b0))] [] w 0 0) : ∀ (n : Nat) (a0 : Nat) (a1 : Int32) (a2 : Int32) (w : Wd), l_X2_passHour_56 E135 K n a0 a1 a2 w → GW x p l e (rmd 3 0 0) s m args below meth c 5 (QV x K below args s 0 0) 56 [(0, .ref (adr x a0)), (1, .int a1), (2, .int a2)] [] w 0 0 := by
  intro n
  induction n with
  | zero => intro _ _ _ _ h; exact False.elim h
  | succ n ih =>
    intro a0 a1 a2 w h
    refine g_iload_n (pc := 56) C dX2_passHour_56 (q := 2) rfl ?_
    refine g_aload_n (pc := 57) C dX2_passHour_57 (q := 0) rfl ?_
    obtain ⟨k23, h⟩ := h
    obtain ⟨k24, h⟩ := h
    refine gfX2_25 (pc := 58) C k23 (isK_ne k24) dX2_passHour_58 ?_
    refine gfX2_60 (pc := 61) C k24 dX2_passHour_61 ?_
    refine g_icmp_ge (pc := 64) C dX2_passHour_64 (tgt := 135) rfl (fun z25 => ?_) (fun z25 => ?_)
    · replace h := h.1 z25
      refine g_sub [0] rfl ?_
      exact hE135 _ _ h
    · replace h := h.2 z25
      refine g_iload_n (pc := 67) C dX2_passHour_67 (q := 1) rfl ?_
      refine g_iload_n (pc := 68) C dX2_passHour_68 (q := 2) rfl ?_
      refine miX2_57 (pc := 69) C h (Nat.le_of_ble_eq_true rfl) (Nat.le_of_ble_eq_true rfl) ⟨Nat.le_refl _, Nat.le_refl _⟩ dX2_passHour_69 (fun r26 w27 h => ?_)
      refine g_if_eq (pc := 72) C dX2_passHour_72 (tgt := 88) rfl (fun z28 => ?_) (fun z28 => ?_)
      · replace h := h.1 z28
        refine g_iconst (pc := 88) C dX2_passHour_88 (v := 0) rfl ?_
        refine g_istore_n (pc := 89) C dX2_passHour_89 (Nat.le_of_ble_eq_true rfl) (lo' := [(3, .int 0), (0, .ref (adr x a0)), (1, .int a1), (2, .int a2)]) rfl ?_
        refine g_iload_n (pc := 90) C dX2_passHour_90 (q := 3) rfl ?_
        refine g_iconst (pc := 91) C dX2_passHour_91 (v := 1) rfl ?_
        refine g_iadd (pc := 92) C dX2_passHour_92 ?_
        refine g_istore (pc := 93) C dX2_passHour_93 (Nat.le_of_ble_eq_true rfl) (lo' := [(4, .int (a2 + 1)), (3, .int 0), (0, .ref (adr x a0)), (1, .int a1), (2, .int a2)]) rfl ?_
        obtain ⟨n41, h⟩ := h
        refine g_sub [2, 3, 4, 1, 0] rfl ?_
        refine t_X2_passHour_95 C hlk hr ?_ n41 _ _ _ _ _ _ h
        · intro b37 b38 b39 w40 h
          refine g_iinc (pc := 129) C dX2_passHour_129 (q := 2) rfl (v2 := b39 + 1) rfl (Nat.le_of_ble_eq_true rfl) (lo' := [(2, .int (b39 + 1)), (0, .ref (adr x b37)), (1, .int b38)]) rfl ?_
          refine g_goto (pc := 132) C dX2_passHour_132 (tgt := 56) rfl ?_
          refine g_sub [1, 2, 0] rfl ?_
          exact ih _ _ _ _ h
      · replace h := h.2 z28
        refine g_aload_n (pc := 75) C dX2_passHour_75 (q := 0) rfl ?_
        obtain ⟨k42, h⟩ := h
        obtain ⟨k43, h⟩ := h
        refine gfX2_25 (pc := 76) C k42 (isK_ne k43) dX2_passHour_76 ?_
        refine g_iload_n (pc := 79) C dX2_passHour_79 (q := 2) rfl ?_
        refine miX2_86 (pc := 80) C k43 h (Nat.le_of_ble_eq_true rfl) (Nat.le_of_ble_eq_true rfl) ⟨Nat.le_refl _, Nat.le_refl _⟩ dX2_passHour_80 (fun r44 w45 h => ?_)
        refine g_iload_n (pc := 83) C dX2_passHour_83 (q := 1) rfl ?_
        refine g_iand (pc := 84) C dX2_passHour_84 ?_
        refine g_goto (pc := 85) C dX2_passHour_85 (tgt := 89) rfl ?_
        refine g_istore_n (pc := 89) C dX2_passHour_89 (Nat.le_of_ble_eq_true rfl) (lo' := [(3, .int (r44 &&& a1)), (0, .ref (adr x a0)), (1, .int a1), (2, .int a2)]) rfl ?_
        refine g_iload_n (pc := 90) C dX2_passHour_90 (q := 3) rfl ?_
        refine g_iconst (pc := 91) C dX2_passHour_91 (v := 1) rfl ?_
        refine g_iadd (pc := 92) C dX2_passHour_92 ?_
        refine g_istore (pc := 93) C dX2_passHour_93 (Nat.le_of_ble_eq_true rfl) (lo' := [(4, .int (a2 + 1)), (3, .int (r44 &&& a1)), (0, .ref (adr x a0)), (1, .int a1), (2, .int a2)]) rfl ?_
        obtain ⟨n50, h⟩ := h
        refine g_sub [2, 3, 4, 1, 0] rfl ?_
        refine t_X2_passHour_95 C hlk hr ?_ n50 _ _ _ _ _ _ h
        · intro b46 b47 b48 w49 h
          refine g_iinc (pc := 129) C dX2_passHour_129 (q := 2) rfl (v2 := b48 + 1) rfl (Nat.le_of_ble_eq_true rfl) (lo' := [(2, .int (b48 + 1)), (0, .ref (adr x b46)), (1, .int b47)]) rfl ?_
          refine g_goto (pc := 132) C dX2_passHour_132 (tgt := 56) rfl ?_
          refine g_sub [1, 2, 0] rfl ?_
          exact ih _ _ _ _ h
theorem c_X2_passHour {x : xG} {l : Launch} {a0 : Nat} {K : Wd → Prop} {w : Wd} (h : w_X2_passHour a0 K w) : Met l yX2_passHour (xws yX2_passHour cX2_passHour 5 none) (rmd 3 0 0) (xPc x [.ref (adr x a0)] w) (QcV x K) 0 0 (xA x) := by
  refine xMet (by decide) (Nat.le_of_ble_eq_true rfl) (fun p e s m below meth c C hlk hr _ => ?_)
  show GW x p l e (rmd 3 0 0) s m [.ref (adr x a0)].toArray below meth c 5 (QV x K below [.ref (adr x a0)].toArray s 0 0) 0 [(0, .ref (adr x a0))] [] w 0 0
  refine g_aload_n (pc := 0) C dX2_passHour_0 (q := 0) rfl ?_
  obtain ⟨k1, h⟩ := h
  refine miX2_76 (pc := 1) C k1 h (Nat.le_of_ble_eq_true rfl) (Nat.le_of_ble_eq_true rfl) ⟨Nat.le_refl _, Nat.le_refl _⟩ dX2_passHour_1 (fun r2 w3 h => ?_)
  refine g_istore_n (pc := 4) C dX2_passHour_4 (Nat.le_of_ble_eq_true rfl) (lo' := [(1, .int r2), (0, .ref (adr x a0))]) rfl ?_
  refine g_iconst (pc := 5) C dX2_passHour_5 (v := 0) rfl ?_
  refine g_istore_n (pc := 6) C dX2_passHour_6 (Nat.le_of_ble_eq_true rfl) (lo' := [(2, .int 0), (1, .int r2), (0, .ref (adr x a0))]) rfl ?_
  obtain ⟨n58, h⟩ := h
  refine g_sub [2, 1, 0] rfl ?_
  refine t_X2_passHour_7 C hlk hr ?_ n58 _ _ _ _ h
  · intro b20 b21 w22 h
    refine g_iconst (pc := 54) C dX2_passHour_54 (v := 0) rfl ?_
    refine g_istore_n (pc := 55) C dX2_passHour_55 (Nat.le_of_ble_eq_true rfl) (lo' := [(2, .int 0), (0, .ref (adr x b20)), (1, .int b21)]) rfl ?_
    obtain ⟨n57, h⟩ := h
    refine g_sub [1, 2, 0] rfl ?_
    refine t_X2_passHour_56 C hlk hr ?_ n57 _ _ _ _ h
    · intro b51 w52 h
      refine g_aload_n (pc := 135) C dX2_passHour_135 (q := 0) rfl ?_
      refine g_dup (pc := 136) C dX2_passHour_136 rfl ?_
      obtain ⟨k53, h⟩ := h
      refine gfX2_9 (pc := 137) C k53 dX2_passHour_137 ?_
      refine g_iconst (pc := 140) C dX2_passHour_140 (v := 1) rfl ?_
      refine g_iadd (pc := 141) C dX2_passHour_141 ?_
      refine pfX2_9 (pc := 142) C k53 dX2_passHour_142 ?_
      refine g_aload_n (pc := 145) C dX2_passHour_145 (q := 0) rfl ?_
      refine g_dup (pc := 146) C dX2_passHour_146 rfl ?_
      refine gfX2_15 (pc := 147) (w := uI w52 b51 1 ((wI w52 b51 1) + 1)) C k53 dX2_passHour_147 ?_
      refine g_aload_n (pc := 150) C dX2_passHour_150 (q := 0) rfl ?_
      refine miX2_76 (pc := 151) (w := uI w52 b51 1 ((wI w52 b51 1) + 1)) C k53 h (Nat.le_of_ble_eq_true rfl) (Nat.le_of_ble_eq_true rfl) ⟨Nat.le_refl _, Nat.le_refl _⟩ dX2_passHour_151 (fun r54 w55 h => ?_)
      refine g_iconst (pc := 154) C dX2_passHour_154 (v := (-1)) rfl ?_
      refine g_ixor (pc := 155) C dX2_passHour_155 ?_
      refine g_iand (pc := 156) C dX2_passHour_156 ?_
      obtain ⟨k56, h⟩ := h
      refine pfX2_15 (pc := 157) C k56 dX2_passHour_157 ?_
      exact g_vret (pc := 160) C hlk hr (Nat.le_refl _) (Nat.le_refl _) dX2_passHour_160 h
def w_X2_phaseOf (a0 : Nat) (a1 : Int32) (K : Int32 → Wd → Prop) (w : Wd) : Prop :=
  ((a1 < 0 → K 0 w) ∧ (¬ a1 < 0 → isK w a0 2 ∧ isK w (wR w a0 3) 20 ∧ (((Int32.ofNat (wn w (wR w a0 3))) ≤ a1 → K 0 w) ∧ (¬ (Int32.ofNat (wn w (wR w a0 3))) ≤ a1 → isK w (wR w a0 0) 1 ∧ isK w (wR w (wR w a0 0) 5) 20 ∧ (((Int32.ofNat (wn w (wR w (wR w a0 0) 5))) ≤ a1 → K 0 w) ∧ (¬ (Int32.ofNat (wn w (wR w (wR w a0 0) 5))) ≤ a1 → vp_in a1 (wn w (wR w (wR w a0 0) 5)) ∧ ((1 ≤ (wI w (wR w (wR w a0 0) 5) a1.toNatClampNeg) → vp_in a1 (wn w (wR w a0 3)) ∧ vp_in a1 (wn w (wR w (wR w a0 0) 5)) ∧ ¬ (wI w (wR w (wR w a0 0) 5) a1.toNatClampNeg) = 0 ∧ K (x_irem ((wI w a0 1) + (wI w (wR w a0 3) a1.toNatClampNeg)) (wI w (wR w (wR w a0 0) 5) a1.toNatClampNeg)) w) ∧ (¬ 1 ≤ (wI w (wR w (wR w a0 0) 5) a1.toNatClampNeg) → K 0 w))))))))
theorem c_X2_phaseOf {x : xG} {l : Launch} {a0 : Nat} {a1 : Int32} {K : Int32 → Wd → Prop} {w : Wd} (h : w_X2_phaseOf a0 a1 K w) : Met l yX2_phaseOf (xws yX2_phaseOf cX2_phaseOf 2 (some .int)) (rmd 0 0 0) (xPc x [.ref (adr x a0), .int a1] w) (QcI x K) 0 0 (xA x) := by
  refine xMet (by decide) (Nat.le_of_ble_eq_true rfl) (fun p e s m below meth c C hlk hr _ => ?_)
  show GW x p l e (rmd 0 0 0) s m [.ref (adr x a0), .int a1].toArray below meth c 2 (QI x K below [.ref (adr x a0), .int a1].toArray s 0 0) 0 [(0, .ref (adr x a0)), (1, .int a1)] [] w 0 0
  refine g_iload_n (pc := 0) C dX2_phaseOf_0 (q := 1) rfl ?_
  refine g_if_lt (pc := 1) C dX2_phaseOf_1 (tgt := 38) rfl (fun z1 => ?_) (fun z1 => ?_)
  · replace h := h.1 z1
    refine g_iconst (pc := 38) C dX2_phaseOf_38 (v := 0) rfl ?_
    exact g_iret (pc := 39) C hlk hr (Nat.le_refl _) (Nat.le_refl _) dX2_phaseOf_39 h
  · replace h := h.2 z1
    refine g_iload_n (pc := 4) C dX2_phaseOf_4 (q := 1) rfl ?_
    refine g_aload_n (pc := 5) C dX2_phaseOf_5 (q := 0) rfl ?_
    obtain ⟨k2, h⟩ := h
    obtain ⟨k3, h⟩ := h
    refine gfX2_18 (pc := 6) C k2 (isK_ne k3) dX2_phaseOf_6 ?_
    refine g_alen (pc := 9) C k3 (by decide) dX2_phaseOf_9 ?_
    refine g_icmp_ge (pc := 10) C dX2_phaseOf_10 (tgt := 38) rfl (fun z4 => ?_) (fun z4 => ?_)
    · replace h := h.1 z4
      refine g_iconst (pc := 38) C dX2_phaseOf_38 (v := 0) rfl ?_
      exact g_iret (pc := 39) C hlk hr (Nat.le_refl _) (Nat.le_refl _) dX2_phaseOf_39 h
    · replace h := h.2 z4
      refine g_iload_n (pc := 13) C dX2_phaseOf_13 (q := 1) rfl ?_
      refine g_aload_n (pc := 14) C dX2_phaseOf_14 (q := 0) rfl ?_
      obtain ⟨k5, h⟩ := h
      refine gfX2_25 (pc := 15) C k2 (isK_ne k5) dX2_phaseOf_15 ?_
      obtain ⟨k6, h⟩ := h
      refine gfX2_41 (pc := 18) C k5 (isK_ne k6) dX2_phaseOf_18 ?_
      refine g_alen (pc := 21) C k6 (by decide) dX2_phaseOf_21 ?_
      refine g_icmp_ge (pc := 22) C dX2_phaseOf_22 (tgt := 38) rfl (fun z7 => ?_) (fun z7 => ?_)
      · replace h := h.1 z7
        refine g_iconst (pc := 38) C dX2_phaseOf_38 (v := 0) rfl ?_
        exact g_iret (pc := 39) C hlk hr (Nat.le_refl _) (Nat.le_refl _) dX2_phaseOf_39 h
      · replace h := h.2 z7
        refine g_aload_n (pc := 25) C dX2_phaseOf_25 (q := 0) rfl ?_
        refine gfX2_25 (pc := 26) C k2 (isK_ne k5) dX2_phaseOf_26 ?_
        refine gfX2_41 (pc := 29) C k5 (isK_ne k6) dX2_phaseOf_29 ?_
        refine g_iload_n (pc := 32) C dX2_phaseOf_32 (q := 1) rfl ?_
        obtain ⟨k8, h⟩ := h
        refine g_iald (pc := 33) C k6 k8 dX2_phaseOf_33 ?_
        refine g_iconst (pc := 34) C dX2_phaseOf_34 (v := 1) rfl ?_
        refine g_icmp_ge (pc := 35) C dX2_phaseOf_35 (tgt := 40) rfl (fun z9 => ?_) (fun z9 => ?_)
        · replace h := h.1 z9
          refine g_aload_n (pc := 40) C dX2_phaseOf_40 (q := 0) rfl ?_
          refine gfX2_9 (pc := 41) C k2 dX2_phaseOf_41 ?_
          refine g_aload_n (pc := 44) C dX2_phaseOf_44 (q := 0) rfl ?_
          refine gfX2_18 (pc := 45) C k2 (isK_ne k3) dX2_phaseOf_45 ?_
          refine g_iload_n (pc := 48) C dX2_phaseOf_48 (q := 1) rfl ?_
          obtain ⟨k10, h⟩ := h
          refine g_iald (pc := 49) C k3 k10 dX2_phaseOf_49 ?_
          refine g_iadd (pc := 50) C dX2_phaseOf_50 ?_
          refine g_aload_n (pc := 51) C dX2_phaseOf_51 (q := 0) rfl ?_
          refine gfX2_25 (pc := 52) C k2 (isK_ne k5) dX2_phaseOf_52 ?_
          refine gfX2_41 (pc := 55) C k5 (isK_ne k6) dX2_phaseOf_55 ?_
          refine g_iload_n (pc := 58) C dX2_phaseOf_58 (q := 1) rfl ?_
          obtain ⟨k11, h⟩ := h
          refine g_iald (pc := 59) C k6 k11 dX2_phaseOf_59 ?_
          obtain ⟨k12, h⟩ := h
          refine h_irem (pc := 60) C dX2_phaseOf_60 k12 ?_
          exact g_iret (pc := 61) C hlk hr (Nat.le_refl _) (Nat.le_refl _) dX2_phaseOf_61 h
        · replace h := h.2 z9
          refine g_iconst (pc := 38) C dX2_phaseOf_38 (v := 0) rfl ?_
          exact g_iret (pc := 39) C hlk hr (Nat.le_refl _) (Nat.le_refl _) dX2_phaseOf_39 h
theorem miX2_70 (C : xC x p s m c cc nL args RX2) {a0 : Int32} {a1 : Int32} {K : Int32 → Wd → Prop} {D MC MS : Nat} (h : w_J9_floorMod_7cf53 a0 a1 K w) (hD : 0 + 1 ≤ D) (hW : (st.map fun v => v.category).sum ≤ 8) (hij : i ≤ MC ∧ j ≤ MS) (hd : decode cc pc = .ok (.invokestatic 70, 3)) (k : ∀ (r : Int32) (u : Wd), K r u → GW x p l e (rmd D MC MS) s m args below meth c nL Q (pc + 3) lo (.int r :: st) u i j) : GW x p l e (rmd D MC MS) s m args below meth c nL Q pc lo (.int a1 :: .int a0 :: st) w i j := g_callSi0 C (As := [.int a0, .int a1]) (c_J9_floorMod_7cf53 h) (x_cwS C 2 LMX2_70 ⟨by decide, by decide, rfl⟩ hD (by decide)) rfl rfl hW hd hij k
def w_X2_turnTo (a0 : Nat) (a1 : Int32) (a2 : Int32) (K : Wd → Prop) (w : Wd) : Prop :=
  isK w a0 2 ∧ isK w (wR w a0 0) 1 ∧ w_X1_roundOf (wR w a0 0) a1 (fun r3 w4 => ((r3 < 1 → K w4) ∧ (¬ r3 < 1 → ((a1 < 0 → K w4) ∧ (¬ a1 < 0 → isK w4 a0 2 ∧ isK w4 (wR w4 a0 3) 20 ∧ (((Int32.ofNat (wn w4 (wR w4 a0 3))) ≤ a1 → K w4) ∧ (¬ (Int32.ofNat (wn w4 (wR w4 a0 3))) ≤ a1 → w_J9_floorMod_7cf53 (a2 - (wI w4 a0 1)) r3 (fun r10 w11 => isK w11 (wR w4 a0 3) 20 ∧ vp_in a1 (wn w11 (wR w4 a0 3)) ∧ K (uI w11 (wR w4 a0 3) a1.toNatClampNeg r10)) w4))))))) w
theorem c_X2_turnTo {x : xG} {l : Launch} {a0 : Nat} {a1 : Int32} {a2 : Int32} {K : Wd → Prop} {w : Wd} (h : w_X2_turnTo a0 a1 a2 K w) : Met l yX2_turnTo (xws yX2_turnTo cX2_turnTo 4 none) (rmd 1 0 0) (xPc x [.ref (adr x a0), .int a1, .int a2] w) (QcV x K) 0 0 (xA x) := by
  refine xMet (by decide) (Nat.le_of_ble_eq_true rfl) (fun p e s m below meth c C hlk hr _ => ?_)
  show GW x p l e (rmd 1 0 0) s m [.ref (adr x a0), .int a1, .int a2].toArray below meth c 4 (QV x K below [.ref (adr x a0), .int a1, .int a2].toArray s 0 0) 0 [(0, .ref (adr x a0)), (1, .int a1), (2, .int a2)] [] w 0 0
  refine g_aload_n (pc := 0) C dX2_turnTo_0 (q := 0) rfl ?_
  obtain ⟨k1, h⟩ := h
  obtain ⟨k2, h⟩ := h
  refine gfX2_25 (pc := 1) C k1 (isK_ne k2) dX2_turnTo_1 ?_
  refine g_iload_n (pc := 4) C dX2_turnTo_4 (q := 1) rfl ?_
  refine miX2_44 (pc := 5) C k2 h (Nat.le_of_ble_eq_true rfl) (Nat.le_of_ble_eq_true rfl) ⟨Nat.le_refl _, Nat.le_refl _⟩ dX2_turnTo_5 (fun r3 w4 h => ?_)
  refine g_istore_n (pc := 8) C dX2_turnTo_8 (Nat.le_of_ble_eq_true rfl) (lo' := [(3, .int r3), (0, .ref (adr x a0)), (1, .int a1), (2, .int a2)]) rfl ?_
  refine g_iload_n (pc := 9) C dX2_turnTo_9 (q := 0) rfl ?_
  refine g_iconst (pc := 10) C dX2_turnTo_10 (v := 1) rfl ?_
  refine g_icmp_lt (pc := 11) C dX2_turnTo_11 (tgt := 43) rfl (fun z5 => ?_) (fun z5 => ?_)
  · replace h := h.1 z5
    exact g_vret (pc := 43) C hlk hr (Nat.le_refl _) (Nat.le_refl _) dX2_turnTo_43 h
  · replace h := h.2 z5
    refine g_iload_n (pc := 14) C dX2_turnTo_14 (q := 2) rfl ?_
    refine g_if_lt (pc := 15) C dX2_turnTo_15 (tgt := 43) rfl (fun z6 => ?_) (fun z6 => ?_)
    · replace h := h.1 z6
      exact g_vret (pc := 43) C hlk hr (Nat.le_refl _) (Nat.le_refl _) dX2_turnTo_43 h
    · replace h := h.2 z6
      refine g_iload_n (pc := 18) C dX2_turnTo_18 (q := 2) rfl ?_
      refine g_aload_n (pc := 19) C dX2_turnTo_19 (q := 1) rfl ?_
      obtain ⟨k7, h⟩ := h
      obtain ⟨k8, h⟩ := h
      refine gfX2_18 (pc := 20) C k7 (isK_ne k8) dX2_turnTo_20 ?_
      refine g_alen (pc := 23) C k8 (by decide) dX2_turnTo_23 ?_
      refine g_icmp_ge (pc := 24) C dX2_turnTo_24 (tgt := 43) rfl (fun z9 => ?_) (fun z9 => ?_)
      · replace h := h.1 z9
        exact g_vret (pc := 43) C hlk hr (Nat.le_refl _) (Nat.le_refl _) dX2_turnTo_43 h
      · replace h := h.2 z9
        refine g_aload_n (pc := 27) C dX2_turnTo_27 (q := 1) rfl ?_
        refine gfX2_18 (pc := 28) C k7 (isK_ne k8) dX2_turnTo_28 ?_
        refine g_iload_n (pc := 31) C dX2_turnTo_31 (q := 2) rfl ?_
        refine g_iload_n (pc := 32) C dX2_turnTo_32 (q := 3) rfl ?_
        refine g_aload_n (pc := 33) C dX2_turnTo_33 (q := 1) rfl ?_
        refine gfX2_9 (pc := 34) C k7 dX2_turnTo_34 ?_
        refine g_isub (pc := 37) C dX2_turnTo_37 ?_
        refine g_iload_n (pc := 38) C dX2_turnTo_38 (q := 0) rfl ?_
        refine miX2_70 (pc := 39) C h (Nat.le_of_ble_eq_true rfl) (Nat.le_of_ble_eq_true rfl) ⟨Nat.le_refl _, Nat.le_refl _⟩ dX2_turnTo_39 (fun r10 w11 h => ?_)
        obtain ⟨k12, h⟩ := h
        obtain ⟨k13, h⟩ := h
        refine g_iast (pc := 42) C k12 k13 dX2_turnTo_42 ?_
        exact g_vret (pc := 43) C hlk hr (Nat.le_refl _) (Nat.le_refl _) dX2_turnTo_43 h
theorem miX2_66 (C : xC x p s m c cc nL args RX2) {a0 : Nat} {a1 : Int32} {a2 : Int32} {K : Wd → Prop} {D MC MS : Nat} (hq : isK w a0 2) (h : w_X2_turnTo a0 a1 a2 K w) (hD : 1 + 1 ≤ D) (hW : (st.map fun v => v.category).sum ≤ 8) (hij : i ≤ MC ∧ j ≤ MS) (hd : decode cc pc = .ok (.invokevirtual 66, 3)) (k : ∀ (u : Wd), K u → GW x p l e (rmd D MC MS) s m args below meth c nL Q (pc + 3) lo st u i j) : GW x p l e (rmd D MC MS) s m args below meth c nL Q pc lo (.int a2 :: .int a1 :: .ref (adr x a0) :: st) w i j := g_callVv0 C (As := [.int a1, .int a2]) (ci := 2) (c_X2_turnTo h) (x_cwV C 2 LMX2_66 ⟨rfl, by decide, by decide, rfl⟩ hD (by decide)) rfl hq (by decide) rfl rfl hW hd hij k
def w_X2_putToSleep (a0 : Nat) (a1 : Int32) (K : Wd → Prop) (w : Wd) : Prop :=
  isK w a0 2 ∧ isK w (wR w a0 0) 1 ∧ w_X1_upOf (wR w a0 0) a1 (fun r3 w4 => isK w4 a0 2 ∧ w_X2_turnTo a0 a1 r3 (fun w6 => K w6) w4) w
theorem c_X2_putToSleep {x : xG} {l : Launch} {a0 : Nat} {a1 : Int32} {K : Wd → Prop} {w : Wd} (h : w_X2_putToSleep a0 a1 K w) : Met l yX2_putToSleep (xws yX2_putToSleep cX2_putToSleep 2 none) (rmd 2 0 0) (xPc x [.ref (adr x a0), .int a1] w) (QcV x K) 0 0 (xA x) := by
  refine xMet (by decide) (Nat.le_of_ble_eq_true rfl) (fun p e s m below meth c C hlk hr _ => ?_)
  show GW x p l e (rmd 2 0 0) s m [.ref (adr x a0), .int a1].toArray below meth c 2 (QV x K below [.ref (adr x a0), .int a1].toArray s 0 0) 0 [(0, .ref (adr x a0)), (1, .int a1)] [] w 0 0
  refine g_aload_n (pc := 0) C dX2_putToSleep_0 (q := 0) rfl ?_
  refine g_iload_n (pc := 1) C dX2_putToSleep_1 (q := 1) rfl ?_
  refine g_aload_n (pc := 2) C dX2_putToSleep_2 (q := 0) rfl ?_
  obtain ⟨k1, h⟩ := h
  obtain ⟨k2, h⟩ := h
  refine gfX2_25 (pc := 3) C k1 (isK_ne k2) dX2_putToSleep_3 ?_
  refine g_iload_n (pc := 6) C dX2_putToSleep_6 (q := 1) rfl ?_
  refine miX2_50 (pc := 7) C k2 h (Nat.le_of_ble_eq_true rfl) (Nat.le_of_ble_eq_true rfl) ⟨Nat.le_refl _, Nat.le_refl _⟩ dX2_putToSleep_7 (fun r3 w4 h => ?_)
  obtain ⟨k5, h⟩ := h
  refine miX2_66 (pc := 10) C k5 h (Nat.le_of_ble_eq_true rfl) (Nat.le_of_ble_eq_true rfl) ⟨Nat.le_refl _, Nat.le_refl _⟩ dX2_putToSleep_10 (fun w6 h => ?_)
  exact g_vret (pc := 13) C hlk hr (Nat.le_refl _) (Nat.le_refl _) dX2_putToSleep_13 h
def w_X2_wakeUp (a0 : Nat) (a1 : Int32) (K : Wd → Prop) (w : Wd) : Prop :=
  isK w a0 2 ∧ w_X2_turnTo a0 a1 0 (fun w2 => K w2) w
theorem c_X2_wakeUp {x : xG} {l : Launch} {a0 : Nat} {a1 : Int32} {K : Wd → Prop} {w : Wd} (h : w_X2_wakeUp a0 a1 K w) : Met l yX2_wakeUp (xws yX2_wakeUp cX2_wakeUp 2 none) (rmd 2 0 0) (xPc x [.ref (adr x a0), .int a1] w) (QcV x K) 0 0 (xA x) := by
  refine xMet (by decide) (Nat.le_of_ble_eq_true rfl) (fun p e s m below meth c C hlk hr _ => ?_)
  show GW x p l e (rmd 2 0 0) s m [.ref (adr x a0), .int a1].toArray below meth c 2 (QV x K below [.ref (adr x a0), .int a1].toArray s 0 0) 0 [(0, .ref (adr x a0)), (1, .int a1)] [] w 0 0
  refine g_aload_n (pc := 0) C dX2_wakeUp_0 (q := 0) rfl ?_
  refine g_iload_n (pc := 1) C dX2_wakeUp_1 (q := 1) rfl ?_
  refine g_iconst (pc := 2) C dX2_wakeUp_2 (v := 0) rfl ?_
  obtain ⟨k1, h⟩ := h
  refine miX2_66 (pc := 3) C k1 h (Nat.le_of_ble_eq_true rfl) (Nat.le_of_ble_eq_true rfl) ⟨Nat.le_refl _, Nat.le_refl _⟩ dX2_wakeUp_3 (fun w2 h => ?_)
  exact g_vret (pc := 6) C hlk hr (Nat.le_refl _) (Nat.le_refl _) dX2_wakeUp_6 h
theorem miX5_38 (C : xC x p s m c cc nL args RX5) {a0 : Nat} {a1 : Nat} {K : Wd → Prop} {D MC MS : Nat} (hq : isK w a0 2) (h : w_X2_become a0 a1 K w) (hD : 0 + 1 ≤ D) (hW : (st.map fun v => v.category).sum ≤ 8) (hij : i ≤ MC ∧ j ≤ MS) (hd : decode cc pc = .ok (.invokevirtual 38, 3)) (k : ∀ (u : Wd), K u → GW x p l e (rmd D MC MS) s m args below meth c nL Q (pc + 3) lo st u i j) : GW x p l e (rmd D MC MS) s m args below meth c nL Q pc lo (.ref (adr x a1) :: .ref (adr x a0) :: st) w i j := g_callVv0 C (As := [.ref (adr x a1)]) (ci := 2) (c_X2_become h) (x_cwV C 1 LMX5_38 ⟨rfl, by decide, by decide, rfl⟩ hD (by decide)) rfl hq (by decide) rfl rfl hW hd hij k
def l_X5_become_29  (K : Wd → Prop) : Nat → Nat → Nat → Int32 → Wd → Prop
  | 0, _, _, _, _ => False
  | n + 1, a0, a1, a2, w => ((10 ≤ a2 → K w) ∧ (¬ 10 ≤ a2 → isK w a0 5 ∧ isK w (wR w a0 4) 24 ∧ vp_in a2 (wn w (wR w a0 4)) ∧ isK w (wR w (wR w a0 4) a2.toNatClampNeg) 2 ∧ isK w a1 5 ∧ isK w (wR w a1 4) 24 ∧ vp_in a2 (wn w (wR w a1 4)) ∧ isK w (wR w (wR w a1 4) a2.toNatClampNeg) 2 ∧ w_X2_become (wR w (wR w a0 4) a2.toNatClampNeg) (wR w (wR w a1 4) a2.toNatClampNeg) (fun w17 => l_X5_become_29 K n a0 a1 (a2 + 1) w17) w))
def w_X5_become (a0 : Nat) (a1 : Nat) (K : Wd → Prop) (w : Wd) : Prop :=
  isK w a0 5 ∧ isK w (wR w a0 0) 2 ∧ isK w a1 5 ∧ isK w (wR w a1 0) 2 ∧ w_X2_become (wR w a0 0) (wR w a1 0) (fun w5 => isK w5 a1 5 ∧ isK w5 a0 5 ∧ ∃ n18, l_X5_become_29  K n18 a0 a1 0 (uI (uI w5 a0 2 (wI w5 a1 2)) a0 3 (wI (uI w5 a0 2 (wI w5 a1 2)) a1 3))) w
theorem t_X5_become_29 (C : xC x p s m c cX5_become 3 args RX5) (hlk : meth.locks = false) (hr : meth.sig.returnType = none) {K : Wd → Prop}   : ∀ (n : Nat) (a0 : Nat) (a1 : Nat) (a2 : Int32) (w : Wd), l_X5_become_29 K n a0 a1 a2 w → GW x p l e (rmd 1 0 0) s m args below meth c 3 (QV x K below args s 0 0) 29 [(0, .ref (adr x a0)), (1, .ref (adr x a1)), (2, .int a2)] [] w 0 0 := by
  intro n
  induction n with
  | zero => intro _ _ _ _ h; exact False.elim h
  | succ n ih =>
    intro a0 a1 a2 w h
    refine g_iload_n (pc := 29) C dX5_become_29 (q := 2) rfl ?_
    refine g_bipush (pc := 30) C dX5_become_30 (v := 10) rfl ?_
    refine g_icmp_ge (pc := 32) C dX5_become_32 (tgt := 56) rfl (fun z8 => ?_) (fun z8 => ?_)
    · replace h := h.1 z8
      exact g_vret (pc := 56) C hlk hr (Nat.le_refl _) (Nat.le_refl _) dX5_become_56 h
    · replace h := h.2 z8
      refine g_aload_n (pc := 35) C dX5_become_35 (q := 0) rfl ?_
      obtain ⟨k9, h⟩ := h
      obtain ⟨k10, h⟩ := h
      refine gfX5_24 (pc := 36) C k9 (isK_ne k10) dX5_become_36 ?_
      refine g_iload_n (pc := 39) C dX5_become_39 (q := 2) rfl ?_
      obtain ⟨k11, h⟩ := h
      obtain ⟨k12, h⟩ := h
      refine g_aald (pc := 40) C (t := 4) k10 (Nat.le_of_ble_eq_true rfl) (Nat.le_of_ble_eq_true rfl) rfl k11 (isK_ne k12) dX5_become_40 ?_
      refine g_aload_n (pc := 41) C dX5_become_41 (q := 1) rfl ?_
      obtain ⟨k13, h⟩ := h
      obtain ⟨k14, h⟩ := h
      refine gfX5_24 (pc := 42) C k13 (isK_ne k14) dX5_become_42 ?_
      refine g_iload_n (pc := 45) C dX5_become_45 (q := 2) rfl ?_
      obtain ⟨k15, h⟩ := h
      obtain ⟨k16, h⟩ := h
      refine g_aald (pc := 46) C (t := 4) k14 (Nat.le_of_ble_eq_true rfl) (Nat.le_of_ble_eq_true rfl) rfl k15 (isK_ne k16) dX5_become_46 ?_
      refine miX5_38 (pc := 47) C k12 h (Nat.le_of_ble_eq_true rfl) (Nat.le_of_ble_eq_true rfl) ⟨Nat.le_refl _, Nat.le_refl _⟩ dX5_become_47 (fun w17 h => ?_)
      refine g_iinc (pc := 50) C dX5_become_50 (q := 2) rfl (v2 := a2 + 1) rfl (Nat.le_of_ble_eq_true rfl) (lo' := [(2, .int (a2 + 1)), (0, .ref (adr x a0)), (1, .ref (adr x a1))]) rfl ?_
      refine g_goto (pc := 53) C dX5_become_53 (tgt := 29) rfl ?_
      refine g_sub [1, 2, 0] rfl ?_
      exact ih _ _ _ _ h
theorem c_X5_become {x : xG} {l : Launch} {a0 : Nat} {a1 : Nat} {K : Wd → Prop} {w : Wd} (h : w_X5_become a0 a1 K w) : Met l yX5_become (xws yX5_become cX5_become 3 none) (rmd 1 0 0) (xPc x [.ref (adr x a0), .ref (adr x a1)] w) (QcV x K) 0 0 (xA x) := by
  refine xMet (by decide) (Nat.le_of_ble_eq_true rfl) (fun p e s m below meth c C hlk hr _ => ?_)
  show GW x p l e (rmd 1 0 0) s m [.ref (adr x a0), .ref (adr x a1)].toArray below meth c 3 (QV x K below [.ref (adr x a0), .ref (adr x a1)].toArray s 0 0) 0 [(0, .ref (adr x a0)), (1, .ref (adr x a1))] [] w 0 0
  refine g_aload_n (pc := 0) C dX5_become_0 (q := 0) rfl ?_
  obtain ⟨k1, h⟩ := h
  obtain ⟨k2, h⟩ := h
  refine gfX5_31 (pc := 1) C k1 (isK_ne k2) dX5_become_1 ?_
  refine g_aload_n (pc := 4) C dX5_become_4 (q := 1) rfl ?_
  obtain ⟨k3, h⟩ := h
  obtain ⟨k4, h⟩ := h
  refine gfX5_31 (pc := 5) C k3 (isK_ne k4) dX5_become_5 ?_
  refine miX5_38 (pc := 8) C k2 h (Nat.le_of_ble_eq_true rfl) (Nat.le_of_ble_eq_true rfl) ⟨Nat.le_refl _, Nat.le_refl _⟩ dX5_become_8 (fun w5 h => ?_)
  refine g_aload_n (pc := 11) C dX5_become_11 (q := 0) rfl ?_
  refine g_aload_n (pc := 12) C dX5_become_12 (q := 1) rfl ?_
  obtain ⟨k6, h⟩ := h
  refine gfX5_15 (pc := 13) C k6 dX5_become_13 ?_
  obtain ⟨k7, h⟩ := h
  refine pfX5_15 (pc := 16) C k7 dX5_become_16 ?_
  refine g_aload_n (pc := 19) C dX5_become_19 (q := 0) rfl ?_
  refine g_aload_n (pc := 20) C dX5_become_20 (q := 1) rfl ?_
  refine gfX5_19 (pc := 21) (w := uI w5 a0 2 (wI w5 a1 2)) C k6 dX5_become_21 ?_
  refine pfX5_19 (pc := 24) (w := uI w5 a0 2 (wI w5 a1 2)) C k7 dX5_become_24 ?_
  refine g_iconst (pc := 27) C dX5_become_27 (v := 0) rfl ?_
  refine g_istore_n (pc := 28) C dX5_become_28 (Nat.le_of_ble_eq_true rfl) (lo' := [(2, .int 0), (0, .ref (adr x a0)), (1, .ref (adr x a1))]) rfl ?_
  obtain ⟨n18, h⟩ := h
  refine g_sub [1, 2, 0] rfl ?_
  refine t_X5_become_29 C hlk hr n18 _ _ _ _ h
theorem miX5_35 (C : xC x p s m c cc nL args RX5) {a0 : Nat} {a1 : Nat} {K : Wd → Prop} {D MC MS : Nat} (hq : isK w a0 2) (h : w_X2_beginWith a0 a1 K w) (hD : 1 + 1 ≤ D) (hW : (st.map fun v => v.category).sum ≤ 8) (hij : i ≤ MC ∧ j ≤ MS) (hd : decode cc pc = .ok (.invokevirtual 35, 3)) (k : ∀ (u : Wd), K u → GW x p l e (rmd D MC MS) s m args below meth c nL Q (pc + 3) lo st u i j) : GW x p l e (rmd D MC MS) s m args below meth c nL Q pc lo (.ref (adr x a1) :: .ref (adr x a0) :: st) w i j := g_callVv0 C (As := [.ref (adr x a1)]) (ci := 2) (c_X2_beginWith h) (x_cwV C 1 LMX5_35 ⟨rfl, by decide, by decide, rfl⟩ hD (by decide)) rfl hq (by decide) rfl rfl hW hd hij k
def w_X5_beginWith (a0 : Nat) (a1 : Nat) (K : Wd → Prop) (w : Wd) : Prop :=
  isK w a0 5 ∧ isK w (wR w a0 0) 2 ∧ w_X2_beginWith (wR w a0 0) a1 (fun w3 => isK w3 a0 5 ∧ K (uI w3 a0 2 0)) w
theorem c_X5_beginWith {x : xG} {l : Launch} {a0 : Nat} {a1 : Nat} {K : Wd → Prop} {w : Wd} (h : w_X5_beginWith a0 a1 K w) : Met l yX5_beginWith (xws yX5_beginWith cX5_beginWith 2 none) (rmd 2 0 0) (xPc x [.ref (adr x a0), .ref (adr x a1)] w) (QcV x K) 0 0 (xA x) := by
  refine xMet (by decide) (Nat.le_of_ble_eq_true rfl) (fun p e s m below meth c C hlk hr _ => ?_)
  show GW x p l e (rmd 2 0 0) s m [.ref (adr x a0), .ref (adr x a1)].toArray below meth c 2 (QV x K below [.ref (adr x a0), .ref (adr x a1)].toArray s 0 0) 0 [(0, .ref (adr x a0)), (1, .ref (adr x a1))] [] w 0 0
  refine g_aload_n (pc := 0) C dX5_beginWith_0 (q := 0) rfl ?_
  obtain ⟨k1, h⟩ := h
  obtain ⟨k2, h⟩ := h
  refine gfX5_31 (pc := 1) C k1 (isK_ne k2) dX5_beginWith_1 ?_
  refine g_aload_n (pc := 4) C dX5_beginWith_4 (q := 1) rfl ?_
  refine miX5_35 (pc := 5) C k2 h (Nat.le_of_ble_eq_true rfl) (Nat.le_of_ble_eq_true rfl) ⟨Nat.le_refl _, Nat.le_refl _⟩ dX5_beginWith_5 (fun w3 h => ?_)
  refine g_aload_n (pc := 8) C dX5_beginWith_8 (q := 0) rfl ?_
  refine g_iconst (pc := 9) C dX5_beginWith_9 (v := 0) rfl ?_
  obtain ⟨k4, h⟩ := h
  refine pfX5_15 (pc := 10) C k4 dX5_beginWith_10 ?_
  exact g_vret (pc := 13) C hlk hr (Nat.le_refl _) (Nat.le_refl _) dX5_beginWith_13 h
theorem miX5_46 (C : xC x p s m c cc nL args RX5) {a0 : Int32} {a1 : Int32} {K : Int32 → Wd → Prop} {D MC MS : Nat} (h : w_J9_floorMod_7cf53 a0 a1 K w) (hD : 0 + 1 ≤ D) (hW : (st.map fun v => v.category).sum ≤ 8) (hij : i ≤ MC ∧ j ≤ MS) (hd : decode cc pc = .ok (.invokestatic 46, 3)) (k : ∀ (r : Int32) (u : Wd), K r u → GW x p l e (rmd D MC MS) s m args below meth c nL Q (pc + 3) lo (.int r :: st) u i j) : GW x p l e (rmd D MC MS) s m args below meth c nL Q pc lo (.int a1 :: .int a0 :: st) w i j := g_callSi0 C (As := [.int a0, .int a1]) (c_J9_floorMod_7cf53 h) (x_cwS C 2 LMX5_46 ⟨by decide, by decide, rfl⟩ hD (by decide)) rfl rfl hW hd hij k
def w_X5_slot (a0 : Nat) (a1 : Int32) (K : Int32 → Wd → Prop) (w : Wd) : Prop :=
  isK w a0 5 ∧ w_J9_floorMod_7cf53 ((wI w a0 3) + a1) 10 (fun r2 w3 => K r2 w3) w
theorem c_X5_slot {x : xG} {l : Launch} {a0 : Nat} {a1 : Int32} {K : Int32 → Wd → Prop} {w : Wd} (h : w_X5_slot a0 a1 K w) : Met l yX5_slot (xws yX5_slot cX5_slot 2 (some .int)) (rmd 1 0 0) (xPc x [.ref (adr x a0), .int a1] w) (QcI x K) 0 0 (xA x) := by
  refine xMet (by decide) (Nat.le_of_ble_eq_true rfl) (fun p e s m below meth c C hlk hr _ => ?_)
  show GW x p l e (rmd 1 0 0) s m [.ref (adr x a0), .int a1].toArray below meth c 2 (QI x K below [.ref (adr x a0), .int a1].toArray s 0 0) 0 [(0, .ref (adr x a0)), (1, .int a1)] [] w 0 0
  refine g_aload_n (pc := 0) C dX5_slot_0 (q := 0) rfl ?_
  obtain ⟨k1, h⟩ := h
  refine gfX5_19 (pc := 1) C k1 dX5_slot_1 ?_
  refine g_iload_n (pc := 4) C dX5_slot_4 (q := 1) rfl ?_
  refine g_iadd (pc := 5) C dX5_slot_5 ?_
  refine g_bipush (pc := 6) C dX5_slot_6 (v := 10) rfl ?_
  refine miX5_46 (pc := 8) C h (Nat.le_of_ble_eq_true rfl) (Nat.le_of_ble_eq_true rfl) ⟨Nat.le_refl _, Nat.le_refl _⟩ dX5_slot_8 (fun r2 w3 h => ?_)
  exact g_iret (pc := 11) C hlk hr (Nat.le_refl _) (Nat.le_refl _) dX5_slot_11 h
theorem miX5_42 (C : xC x p s m c cc nL args RX5) {a0 : Nat} {a1 : Int32} {K : Int32 → Wd → Prop} {D MC MS : Nat} (hq : isK w a0 5) (h : w_X5_slot a0 a1 K w) (hD : 1 + 1 ≤ D) (hW : (st.map fun v => v.category).sum ≤ 8) (hij : i ≤ MC ∧ j ≤ MS) (hd : decode cc pc = .ok (.invokevirtual 42, 3)) (k : ∀ (r : Int32) (u : Wd), K r u → GW x p l e (rmd D MC MS) s m args below meth c nL Q (pc + 3) lo (.int r :: st) u i j) : GW x p l e (rmd D MC MS) s m args below meth c nL Q pc lo (.int a1 :: .ref (adr x a0) :: st) w i j := g_callVi0 C (As := [.int a1]) (ci := 5) (c_X5_slot h) (x_cwV C 1 LMX5_42 ⟨rfl, by decide, by decide, rfl⟩ hD (by decide)) rfl hq (by decide) rfl rfl hW hd hij k
def w_X5_goBack (a0 : Nat) (a1 : Int32) (K : Wd → Prop) (w : Wd) : Prop :=
  ((a1 < 1 → K w) ∧ (¬ a1 < 1 → isK w a0 5 ∧ (((wI w a0 2) < a1 → K w) ∧ (¬ (wI w a0 2) < a1 → isK w (wR w a0 0) 2 ∧ isK w (wR w a0 4) 24 ∧ w_X5_slot a0 (wI (uI w a0 2 ((wI w a0 2) - a1)) a0 2) (fun r6 w7 => isK w7 (wR w a0 4) 24 ∧ vp_in r6 (wn w7 (wR w a0 4)) ∧ isK w7 (wR w7 (wR w a0 4) r6.toNatClampNeg) 2 ∧ isK w7 (wR w a0 0) 2 ∧ w_X2_become (wR w a0 0) (wR w7 (wR w a0 4) r6.toNatClampNeg) (fun w12 => K w12) w7) (uI w a0 2 ((wI w a0 2) - a1))))))
theorem c_X5_goBack {x : xG} {l : Launch} {a0 : Nat} {a1 : Int32} {K : Wd → Prop} {w : Wd} (h : w_X5_goBack a0 a1 K w) : Met l yX5_goBack (xws yX5_goBack cX5_goBack 2 none) (rmd 2 0 0) (xPc x [.ref (adr x a0), .int a1] w) (QcV x K) 0 0 (xA x) := by
  refine xMet (by decide) (Nat.le_of_ble_eq_true rfl) (fun p e s m below meth c C hlk hr _ => ?_)
  show GW x p l e (rmd 2 0 0) s m [.ref (adr x a0), .int a1].toArray below meth c 2 (QV x K below [.ref (adr x a0), .int a1].toArray s 0 0) 0 [(0, .ref (adr x a0)), (1, .int a1)] [] w 0 0
  refine g_iload_n (pc := 0) C dX5_goBack_0 (q := 1) rfl ?_
  refine g_iconst (pc := 1) C dX5_goBack_1 (v := 1) rfl ?_
  refine g_icmp_lt (pc := 2) C dX5_goBack_2 (tgt := 43) rfl (fun z1 => ?_) (fun z1 => ?_)
  · replace h := h.1 z1
    exact g_vret (pc := 43) C hlk hr (Nat.le_refl _) (Nat.le_refl _) dX5_goBack_43 h
  · replace h := h.2 z1
    refine g_iload_n (pc := 5) C dX5_goBack_5 (q := 1) rfl ?_
    refine g_aload_n (pc := 6) C dX5_goBack_6 (q := 0) rfl ?_
    obtain ⟨k2, h⟩ := h
    refine gfX5_15 (pc := 7) C k2 dX5_goBack_7 ?_
    refine g_icmp_gt (pc := 10) C dX5_goBack_10 (tgt := 43) rfl (fun z3 => ?_) (fun z3 => ?_)
    · replace h := h.1 z3
      exact g_vret (pc := 43) C hlk hr (Nat.le_refl _) (Nat.le_refl _) dX5_goBack_43 h
    · replace h := h.2 z3
      refine g_aload_n (pc := 13) C dX5_goBack_13 (q := 0) rfl ?_
      refine g_dup (pc := 14) C dX5_goBack_14 rfl ?_
      refine gfX5_15 (pc := 15) C k2 dX5_goBack_15 ?_
      refine g_iload_n (pc := 18) C dX5_goBack_18 (q := 1) rfl ?_
      refine g_isub (pc := 19) C dX5_goBack_19 ?_
      refine pfX5_15 (pc := 20) C k2 dX5_goBack_20 ?_
      refine g_aload_n (pc := 23) C dX5_goBack_23 (q := 0) rfl ?_
      obtain ⟨k4, h⟩ := h
      refine gfX5_31 (pc := 24) (w := uI w a0 2 ((wI w a0 2) - a1)) C k2 (isK_ne k4) dX5_goBack_24 ?_
      refine g_aload_n (pc := 27) C dX5_goBack_27 (q := 0) rfl ?_
      obtain ⟨k5, h⟩ := h
      refine gfX5_24 (pc := 28) (w := uI w a0 2 ((wI w a0 2) - a1)) C k2 (isK_ne k5) dX5_goBack_28 ?_
      refine g_aload_n (pc := 31) C dX5_goBack_31 (q := 0) rfl ?_
      refine g_aload_n (pc := 32) C dX5_goBack_32 (q := 0) rfl ?_
      refine gfX5_15 (pc := 33) (w := uI w a0 2 ((wI w a0 2) - a1)) C k2 dX5_goBack_33 ?_
      refine miX5_42 (pc := 36) (w := uI w a0 2 ((wI w a0 2) - a1)) C k2 h (Nat.le_of_ble_eq_true rfl) (Nat.le_of_ble_eq_true rfl) ⟨Nat.le_refl _, Nat.le_refl _⟩ dX5_goBack_36 (fun r6 w7 h => ?_)
      obtain ⟨k8, h⟩ := h
      obtain ⟨k9, h⟩ := h
      obtain ⟨k10, h⟩ := h
      refine g_aald (pc := 39) C (t := 4) k8 (Nat.le_of_ble_eq_true rfl) (Nat.le_of_ble_eq_true rfl) rfl k9 (isK_ne k10) dX5_goBack_39 ?_
      obtain ⟨k11, h⟩ := h
      refine miX5_38 (pc := 40) C k11 h (Nat.le_of_ble_eq_true rfl) (Nat.le_of_ble_eq_true rfl) ⟨Nat.le_refl _, Nat.le_refl _⟩ dX5_goBack_40 (fun w12 h => ?_)
      exact g_vret (pc := 43) C hlk hr (Nat.le_refl _) (Nat.le_refl _) dX5_goBack_43 h
def j_X5_remember_24  (K : Wd → Prop) (a0 : Nat) (w : Wd) : Prop :=
  isK w a0 5 ∧ isK w (wR w a0 4) 24 ∧ w_X5_slot a0 (wI w a0 2) (fun r5 w6 => isK w6 (wR w a0 4) 24 ∧ vp_in r5 (wn w6 (wR w a0 4)) ∧ isK w6 (wR w6 (wR w a0 4) r5.toNatClampNeg) 2 ∧ isK w6 a0 5 ∧ isK w6 (wR w6 a0 0) 2 ∧ w_X2_become (wR w6 (wR w a0 4) r5.toNatClampNeg) (wR w6 a0 0) (fun w12 => isK w12 a0 5 ∧ K (uI w12 a0 2 ((wI w12 a0 2) + 1))) w6) w
def w_X5_remember (a0 : Nat) (K : Wd → Prop) (w : Wd) : Prop :=
  isK w a0 5 ∧ (((wI w a0 2) < 10 → j_X5_remember_24 K a0 w) ∧ (¬ (wI w a0 2) < 10 → w_X5_slot a0 1 (fun r14 w15 => isK w15 a0 5 ∧ j_X5_remember_24 K a0 (uI (uI w15 a0 3 r14) a0 2 9)) w))
theorem t_X5_remember_24 (C : xC x p s m c cX5_remember 1 args RX5) (hlk : meth.locks = false) (hr : meth.sig.returnType = none) {K : Wd → Prop}   (a0 : Nat) (w : Wd) (h : j_X5_remember_24 K a0 w) : GW x p l e (rmd 2 0 0) s m args below meth c 1 (QV x K below args s 0 0) 24 [(0, .ref (adr x a0))] [] w 0 0 := by
  refine g_aload_n (pc := 24) C dX5_remember_24 (q := 0) rfl ?_
  obtain ⟨k3, h⟩ := h
  obtain ⟨k4, h⟩ := h
  refine gfX5_24 (pc := 25) C k3 (isK_ne k4) dX5_remember_25 ?_
  refine g_aload_n (pc := 28) C dX5_remember_28 (q := 0) rfl ?_
  refine g_aload_n (pc := 29) C dX5_remember_29 (q := 0) rfl ?_
  refine gfX5_15 (pc := 30) C k3 dX5_remember_30 ?_
  refine miX5_42 (pc := 33) C k3 h (Nat.le_of_ble_eq_true rfl) (Nat.le_of_ble_eq_true rfl) ⟨Nat.le_refl _, Nat.le_refl _⟩ dX5_remember_33 (fun r5 w6 h => ?_)
  obtain ⟨k7, h⟩ := h
  obtain ⟨k8, h⟩ := h
  obtain ⟨k9, h⟩ := h
  refine g_aald (pc := 36) C (t := 4) k7 (Nat.le_of_ble_eq_true rfl) (Nat.le_of_ble_eq_true rfl) rfl k8 (isK_ne k9) dX5_remember_36 ?_
  refine g_aload_n (pc := 37) C dX5_remember_37 (q := 0) rfl ?_
  obtain ⟨k10, h⟩ := h
  obtain ⟨k11, h⟩ := h
  refine gfX5_31 (pc := 38) C k10 (isK_ne k11) dX5_remember_38 ?_
  refine miX5_38 (pc := 41) C k9 h (Nat.le_of_ble_eq_true rfl) (Nat.le_of_ble_eq_true rfl) ⟨Nat.le_refl _, Nat.le_refl _⟩ dX5_remember_41 (fun w12 h => ?_)
  refine g_aload_n (pc := 44) C dX5_remember_44 (q := 0) rfl ?_
  refine g_dup (pc := 45) C dX5_remember_45 rfl ?_
  obtain ⟨k13, h⟩ := h
  refine gfX5_15 (pc := 46) C k13 dX5_remember_46 ?_
  refine g_iconst (pc := 49) C dX5_remember_49 (v := 1) rfl ?_
  refine g_iadd (pc := 50) C dX5_remember_50 ?_
  refine pfX5_15 (pc := 51) C k13 dX5_remember_51 ?_
  exact g_vret (pc := 54) C hlk hr (Nat.le_refl _) (Nat.le_refl _) dX5_remember_54 h
theorem c_X5_remember {x : xG} {l : Launch} {a0 : Nat} {K : Wd → Prop} {w : Wd} (h : w_X5_remember a0 K w) : Met l yX5_remember (xws yX5_remember cX5_remember 1 none) (rmd 2 0 0) (xPc x [.ref (adr x a0)] w) (QcV x K) 0 0 (xA x) := by
  refine xMet (by decide) (Nat.le_of_ble_eq_true rfl) (fun p e s m below meth c C hlk hr _ => ?_)
  show GW x p l e (rmd 2 0 0) s m [.ref (adr x a0)].toArray below meth c 1 (QV x K below [.ref (adr x a0)].toArray s 0 0) 0 [(0, .ref (adr x a0))] [] w 0 0
  refine g_aload_n (pc := 0) C dX5_remember_0 (q := 0) rfl ?_
  obtain ⟨k1, h⟩ := h
  refine gfX5_15 (pc := 1) C k1 dX5_remember_1 ?_
  refine g_bipush (pc := 4) C dX5_remember_4 (v := 10) rfl ?_
  refine g_icmp_lt (pc := 6) C dX5_remember_6 (tgt := 24) rfl (fun z2 => ?_) (fun z2 => ?_)
  · replace h := h.1 z2
    exact t_X5_remember_24 C hlk hr  _ _ h
  · replace h := h.2 z2
    refine g_aload_n (pc := 9) C dX5_remember_9 (q := 0) rfl ?_
    refine g_aload_n (pc := 10) C dX5_remember_10 (q := 0) rfl ?_
    refine g_iconst (pc := 11) C dX5_remember_11 (v := 1) rfl ?_
    refine miX5_42 (pc := 12) C k1 h (Nat.le_of_ble_eq_true rfl) (Nat.le_of_ble_eq_true rfl) ⟨Nat.le_refl _, Nat.le_refl _⟩ dX5_remember_12 (fun r14 w15 h => ?_)
    obtain ⟨k16, h⟩ := h
    refine pfX5_19 (pc := 15) C k16 dX5_remember_15 ?_
    refine g_aload_n (pc := 18) C dX5_remember_18 (q := 0) rfl ?_
    refine g_bipush (pc := 19) C dX5_remember_19 (v := 9) rfl ?_
    refine pfX5_15 (pc := 21) (w := uI w15 a0 3 r14) C k16 dX5_remember_21 ?_
    exact t_X5_remember_24 C hlk hr  _ _ h
def w_X10_cut (a0 : Nat) (a1 : Int64) (K : Int64 → Wd → Prop) (w : Wd) : Prop :=
  isK w a0 10 ∧ ((wI w a0 2 = 0 → K a1.toInt32.toInt8.toInt32.toInt64 w) ∧ (¬ wI w a0 2 = 0 → ((wI w a0 2 = 1 → K a1.toInt32.toInt16.toInt32.toInt64 w) ∧ (¬ wI w a0 2 = 1 → ((wI w a0 2 = 2 → K a1.toInt32.toInt64 w) ∧ (¬ wI w a0 2 = 2 → K a1 w))))))
theorem c_X10_cut {x : xG} {l : Launch} {a0 : Nat} {a1 : Int64} {K : Int64 → Wd → Prop} {w : Wd} (h : w_X10_cut a0 a1 K w) : Met l yX10_cut (xws yX10_cut cX10_cut 3 (some .long)) (rmd 0 0 0) (xPc x [.ref (adr x a0), .long a1] w) (QcL x K) 0 0 (xA x) := by
  refine xMet (by decide) (Nat.le_of_ble_eq_true rfl) (fun p e s m below meth c C hlk hr _ => ?_)
  show GW x p l e (rmd 0 0 0) s m [.ref (adr x a0), .long a1].toArray below meth c 3 (QL x K below [.ref (adr x a0), .long a1].toArray s 0 0) 0 [(0, .ref (adr x a0)), (1, .long a1)] [] w 0 0
  refine g_aload_n (pc := 0) C dX10_cut_0 (q := 0) rfl ?_
  obtain ⟨k1, h⟩ := h
  refine gfX10_19 (pc := 1) C k1 dX10_cut_1 ?_
  by_cases z2 : wI w a0 2 = 0
  · replace h := h.1 z2
    refine g_tabIn (pc := 4) C dX10_cut_4 (by rw [z2]; decide) (by rw [z2]; decide) (off := 28) (by rw [z2]; rfl) (tgt := 32) rfl ?_
    refine g_lload_n (pc := 32) C dX10_cut_32 (q := 1) rfl ?_
    refine g_l2i (pc := 33) C dX10_cut_33 ?_
    refine g_i2b (pc := 34) C dX10_cut_34 ?_
    refine g_i2l (pc := 35) C dX10_cut_35 ?_
    exact g_lret (pc := 36) C hlk hr (Nat.le_refl _) (Nat.le_refl _) dX10_cut_36 h
  replace h := h.2 z2
  by_cases z3 : wI w a0 2 = 1
  · replace h := h.1 z3
    refine g_tabIn (pc := 4) C dX10_cut_4 (by rw [z3]; decide) (by rw [z3]; decide) (off := 33) (by rw [z3]; rfl) (tgt := 37) rfl ?_
    refine g_lload_n (pc := 37) C dX10_cut_37 (q := 1) rfl ?_
    refine g_l2i (pc := 38) C dX10_cut_38 ?_
    refine g_i2s (pc := 39) C dX10_cut_39 ?_
    refine g_i2l (pc := 40) C dX10_cut_40 ?_
    exact g_lret (pc := 41) C hlk hr (Nat.le_refl _) (Nat.le_refl _) dX10_cut_41 h
  replace h := h.2 z3
  by_cases z4 : wI w a0 2 = 2
  · replace h := h.1 z4
    refine g_tabIn (pc := 4) C dX10_cut_4 (by rw [z4]; decide) (by rw [z4]; decide) (off := 38) (by rw [z4]; rfl) (tgt := 42) rfl ?_
    refine g_lload_n (pc := 42) C dX10_cut_42 (q := 1) rfl ?_
    refine g_l2i (pc := 43) C dX10_cut_43 ?_
    refine g_i2l (pc := 44) C dX10_cut_44 ?_
    exact g_lret (pc := 45) C hlk hr (Nat.le_refl _) (Nat.le_refl _) dX10_cut_45 h
  replace h := h.2 z4
  have y5 := ne_toInt (n := 0) z2 (by decide)
  have y6 := ne_toInt (n := 1) z3 (by decide)
  have y7 := ne_toInt (n := 2) z4 (by decide)
  refine g_tabOut (pc := 4) C dX10_cut_4 (by omega) (tgt := 46) rfl ?_
  refine g_lload_n (pc := 46) C dX10_cut_46 (q := 1) rfl ?_
  exact g_lret (pc := 47) C hlk hr (Nat.le_refl _) (Nat.le_refl _) dX10_cut_47 h
def l_X10_layOut_17  (K : Wd → Prop) : Nat → Nat → Int32 → Wd → Prop
  | 0, _, _, _ => False
  | n + 1, a0, a3, w => isK w a0 10 ∧ isK w (wR w a0 3) 21 ∧ (((Int32.ofNat (wn w (wR w a0 3))) ≤ a3 → K w) ∧ (¬ (Int32.ofNat (wn w (wR w a0 3))) ≤ a3 → vp_in a3 (wn w (wR w a0 3)) ∧ l_X10_layOut_17 K n a0 (a3 + 1) (uL w (wR w a0 3) a3.toNatClampNeg 0)))
def w_X10_layOut (a0 : Nat) (a1 : Int32) (a2 : Int32) (K : Wd → Prop) (w : Wd) : Prop :=
  isK w a0 10 ∧ ∃ n6, l_X10_layOut_17  K n6 a0 0 (uI (uI (uI w a0 0 1) a0 2 a1) a0 1 a2)
theorem t_X10_layOut_17 (C : xC x p s m c cX10_layOut 4 args RX10) (hlk : meth.locks = false) (hr : meth.sig.returnType = none) {K : Wd → Prop}   : ∀ (n : Nat) (a0 : Nat) (a3 : Int32) (w : Wd), l_X10_layOut_17 K n a0 a3 w → GW x p l e (rmd 0 0 0) s m args below meth c 4 (QV x K below args s 0 0) 17 [(0, .ref (adr x a0)), (3, .int a3)] [] w 0 0 := by
  intro n
  induction n with
  | zero => intro _ _ _ h; exact False.elim h
  | succ n ih =>
    intro a0 a3 w h
    refine g_iload_n (pc := 17) C dX10_layOut_17 (q := 1) rfl ?_
    refine g_aload_n (pc := 18) C dX10_layOut_18 (q := 0) rfl ?_
    obtain ⟨k2, h⟩ := h
    obtain ⟨k3, h⟩ := h
    refine gfX10_22 (pc := 19) C k2 (isK_ne k3) dX10_layOut_19 ?_
    refine g_alen (pc := 22) C k3 (by decide) dX10_layOut_22 ?_
    refine g_icmp_ge (pc := 23) C dX10_layOut_23 (tgt := 39) rfl (fun z4 => ?_) (fun z4 => ?_)
    · replace h := h.1 z4
      exact g_vret (pc := 39) C hlk hr (Nat.le_refl _) (Nat.le_refl _) dX10_layOut_39 h
    · replace h := h.2 z4
      refine g_aload_n (pc := 26) C dX10_layOut_26 (q := 0) rfl ?_
      refine gfX10_22 (pc := 27) C k2 (isK_ne k3) dX10_layOut_27 ?_
      refine g_iload_n (pc := 30) C dX10_layOut_30 (q := 1) rfl ?_
      refine g_lconst (pc := 31) C dX10_layOut_31 (v := 0) rfl ?_
      obtain ⟨k5, h⟩ := h
      refine g_last (pc := 32) C k3 k5 dX10_layOut_32 ?_
      refine g_iinc (pc := 33) C dX10_layOut_33 (q := 1) rfl (v2 := a3 + 1) rfl (Nat.le_of_ble_eq_true rfl) (lo' := [(3, .int (a3 + 1)), (0, .ref (adr x a0))]) rfl ?_
      refine g_goto (pc := 36) C dX10_layOut_36 (tgt := 17) rfl ?_
      refine g_sub [1, 0] rfl ?_
      exact ih _ _ _ h
theorem c_X10_layOut {x : xG} {l : Launch} {a0 : Nat} {a1 : Int32} {a2 : Int32} {K : Wd → Prop} {w : Wd} (h : w_X10_layOut a0 a1 a2 K w) : Met l yX10_layOut (xws yX10_layOut cX10_layOut 4 none) (rmd 0 0 0) (xPc x [.ref (adr x a0), .int a1, .int a2] w) (QcV x K) 0 0 (xA x) := by
  refine xMet (by decide) (Nat.le_of_ble_eq_true rfl) (fun p e s m below meth c C hlk hr _ => ?_)
  show GW x p l e (rmd 0 0 0) s m [.ref (adr x a0), .int a1, .int a2].toArray below meth c 4 (QV x K below [.ref (adr x a0), .int a1, .int a2].toArray s 0 0) 0 [(0, .ref (adr x a0)), (1, .int a1), (2, .int a2)] [] w 0 0
  refine g_aload_n (pc := 0) C dX10_layOut_0 (q := 0) rfl ?_
  refine g_iconst (pc := 1) C dX10_layOut_1 (v := 1) rfl ?_
  obtain ⟨k1, h⟩ := h
  refine pfX10_9 (pc := 2) C k1 (Or.inr rfl) dX10_layOut_2 ?_
  refine g_aload_n (pc := 5) C dX10_layOut_5 (q := 0) rfl ?_
  refine g_iload_n (pc := 6) C dX10_layOut_6 (q := 1) rfl ?_
  refine pfX10_19 (pc := 7) (w := uI w a0 0 1) C k1 dX10_layOut_7 ?_
  refine g_aload_n (pc := 10) C dX10_layOut_10 (q := 0) rfl ?_
  refine g_iload_n (pc := 11) C dX10_layOut_11 (q := 2) rfl ?_
  refine pfX10_15 (pc := 12) (w := uI (uI w a0 0 1) a0 2 a1) C k1 dX10_layOut_12 ?_
  refine g_iconst (pc := 15) C dX10_layOut_15 (v := 0) rfl ?_
  refine g_istore_n (pc := 16) C dX10_layOut_16 (Nat.le_of_ble_eq_true rfl) (lo' := [(3, .int 0), (0, .ref (adr x a0)), (1, .int a1), (2, .int a2)]) rfl ?_
  obtain ⟨n6, h⟩ := h
  refine g_sub [1, 0] rfl ?_
  refine t_X10_layOut_17 C hlk hr n6 _ _ _ h
def w_X10_numberAt (a0 : Nat) (a1 : Int32) (K : Int64 → Wd → Prop) (w : Wd) : Prop :=
  ((a1 < 0 → K 0 w) ∧ (¬ a1 < 0 → isK w a0 10 ∧ (((wI w a0 1) ≤ a1 → K 0 w) ∧ (¬ (wI w a0 1) ≤ a1 → isK w (wR w a0 3) 21 ∧ (((Int32.ofNat (wn w (wR w a0 3))) ≤ a1 → K 0 w) ∧ (¬ (Int32.ofNat (wn w (wR w a0 3))) ≤ a1 → vp_in a1 (wn w (wR w a0 3)) ∧ K (wL w (wR w a0 3) a1.toNatClampNeg) w))))))
theorem c_X10_numberAt {x : xG} {l : Launch} {a0 : Nat} {a1 : Int32} {K : Int64 → Wd → Prop} {w : Wd} (h : w_X10_numberAt a0 a1 K w) : Met l yX10_numberAt (xws yX10_numberAt cX10_numberAt 2 (some .long)) (rmd 0 0 0) (xPc x [.ref (adr x a0), .int a1] w) (QcL x K) 0 0 (xA x) := by
  refine xMet (by decide) (Nat.le_of_ble_eq_true rfl) (fun p e s m below meth c C hlk hr _ => ?_)
  show GW x p l e (rmd 0 0 0) s m [.ref (adr x a0), .int a1].toArray below meth c 2 (QL x K below [.ref (adr x a0), .int a1].toArray s 0 0) 0 [(0, .ref (adr x a0)), (1, .int a1)] [] w 0 0
  refine g_iload_n (pc := 0) C dX10_numberAt_0 (q := 1) rfl ?_
  refine g_if_lt (pc := 1) C dX10_numberAt_1 (tgt := 30) rfl (fun z1 => ?_) (fun z1 => ?_)
  · replace h := h.1 z1
    refine g_lconst (pc := 30) C dX10_numberAt_30 (v := 0) rfl ?_
    exact g_lret (pc := 31) C hlk hr (Nat.le_refl _) (Nat.le_refl _) dX10_numberAt_31 h
  · replace h := h.2 z1
    refine g_iload_n (pc := 4) C dX10_numberAt_4 (q := 1) rfl ?_
    refine g_aload_n (pc := 5) C dX10_numberAt_5 (q := 0) rfl ?_
    obtain ⟨k2, h⟩ := h
    refine gfX10_15 (pc := 6) C k2 dX10_numberAt_6 ?_
    refine g_icmp_ge (pc := 9) C dX10_numberAt_9 (tgt := 30) rfl (fun z3 => ?_) (fun z3 => ?_)
    · replace h := h.1 z3
      refine g_lconst (pc := 30) C dX10_numberAt_30 (v := 0) rfl ?_
      exact g_lret (pc := 31) C hlk hr (Nat.le_refl _) (Nat.le_refl _) dX10_numberAt_31 h
    · replace h := h.2 z3
      refine g_iload_n (pc := 12) C dX10_numberAt_12 (q := 1) rfl ?_
      refine g_aload_n (pc := 13) C dX10_numberAt_13 (q := 0) rfl ?_
      obtain ⟨k4, h⟩ := h
      refine gfX10_22 (pc := 14) C k2 (isK_ne k4) dX10_numberAt_14 ?_
      refine g_alen (pc := 17) C k4 (by decide) dX10_numberAt_17 ?_
      refine g_icmp_ge (pc := 18) C dX10_numberAt_18 (tgt := 30) rfl (fun z5 => ?_) (fun z5 => ?_)
      · replace h := h.1 z5
        refine g_lconst (pc := 30) C dX10_numberAt_30 (v := 0) rfl ?_
        exact g_lret (pc := 31) C hlk hr (Nat.le_refl _) (Nat.le_refl _) dX10_numberAt_31 h
      · replace h := h.2 z5
        refine g_aload_n (pc := 21) C dX10_numberAt_21 (q := 0) rfl ?_
        refine gfX10_22 (pc := 22) C k2 (isK_ne k4) dX10_numberAt_22 ?_
        refine g_iload_n (pc := 25) C dX10_numberAt_25 (q := 1) rfl ?_
        obtain ⟨k6, h⟩ := h
        refine g_lald (pc := 26) C k4 k6 dX10_numberAt_26 ?_
        refine g_goto (pc := 27) C dX10_numberAt_27 (tgt := 31) rfl ?_
        exact g_lret (pc := 31) C hlk hr (Nat.le_refl _) (Nat.le_refl _) dX10_numberAt_31 h
theorem miX10_26 (C : xC x p s m c cc nL args RX10) {a0 : Nat} {a1 : Int64} {K : Int64 → Wd → Prop} {D MC MS : Nat} (hq : isK w a0 10) (h : w_X10_cut a0 a1 K w) (hD : 0 + 1 ≤ D) (hW : (st.map fun v => v.category).sum ≤ 8) (hij : i ≤ MC ∧ j ≤ MS) (hd : decode cc pc = .ok (.invokevirtual 26, 3)) (k : ∀ (r : Int64) (u : Wd), K r u → GW x p l e (rmd D MC MS) s m args below meth c nL Q (pc + 3) lo (.long r :: st) u i j) : GW x p l e (rmd D MC MS) s m args below meth c nL Q pc lo (.long a1 :: .ref (adr x a0) :: st) w i j := g_callVl0 C (As := [.long a1]) (ci := 10) (c_X10_cut h) (x_cwV C 1 LMX10_26 ⟨rfl, by decide, by decide, rfl⟩ hD (by decide)) rfl hq (by decide) rfl rfl hW hd hij k
def w_X10_put (a0 : Nat) (a1 : Int32) (a2 : Int64) (K : Wd → Prop) (w : Wd) : Prop :=
  ((a1 < 0 → K w) ∧ (¬ a1 < 0 → isK w a0 10 ∧ (((wI w a0 1) ≤ a1 → K w) ∧ (¬ (wI w a0 1) ≤ a1 → isK w (wR w a0 3) 21 ∧ (((Int32.ofNat (wn w (wR w a0 3))) ≤ a1 → K w) ∧ (¬ (Int32.ofNat (wn w (wR w a0 3))) ≤ a1 → w_X10_cut a0 a2 (fun r6 w7 => isK w7 (wR w a0 3) 21 ∧ vp_in a1 (wn w7 (wR w a0 3)) ∧ K (uL w7 (wR w a0 3) a1.toNatClampNeg r6)) w))))))
theorem c_X10_put {x : xG} {l : Launch} {a0 : Nat} {a1 : Int32} {a2 : Int64} {K : Wd → Prop} {w : Wd} (h : w_X10_put a0 a1 a2 K w) : Met l yX10_put (xws yX10_put cX10_put 4 none) (rmd 1 0 0) (xPc x [.ref (adr x a0), .int a1, .long a2] w) (QcV x K) 0 0 (xA x) := by
  refine xMet (by decide) (Nat.le_of_ble_eq_true rfl) (fun p e s m below meth c C hlk hr _ => ?_)
  show GW x p l e (rmd 1 0 0) s m [.ref (adr x a0), .int a1, .long a2].toArray below meth c 4 (QV x K below [.ref (adr x a0), .int a1, .long a2].toArray s 0 0) 0 [(0, .ref (adr x a0)), (1, .int a1), (2, .long a2)] [] w 0 0
  refine g_iload_n (pc := 0) C dX10_put_0 (q := 1) rfl ?_
  refine g_if_lt (pc := 1) C dX10_put_1 (tgt := 32) rfl (fun z1 => ?_) (fun z1 => ?_)
  · replace h := h.1 z1
    exact g_vret (pc := 32) C hlk hr (Nat.le_refl _) (Nat.le_refl _) dX10_put_32 h
  · replace h := h.2 z1
    refine g_iload_n (pc := 4) C dX10_put_4 (q := 1) rfl ?_
    refine g_aload_n (pc := 5) C dX10_put_5 (q := 0) rfl ?_
    obtain ⟨k2, h⟩ := h
    refine gfX10_15 (pc := 6) C k2 dX10_put_6 ?_
    refine g_icmp_ge (pc := 9) C dX10_put_9 (tgt := 32) rfl (fun z3 => ?_) (fun z3 => ?_)
    · replace h := h.1 z3
      exact g_vret (pc := 32) C hlk hr (Nat.le_refl _) (Nat.le_refl _) dX10_put_32 h
    · replace h := h.2 z3
      refine g_iload_n (pc := 12) C dX10_put_12 (q := 1) rfl ?_
      refine g_aload_n (pc := 13) C dX10_put_13 (q := 0) rfl ?_
      obtain ⟨k4, h⟩ := h
      refine gfX10_22 (pc := 14) C k2 (isK_ne k4) dX10_put_14 ?_
      refine g_alen (pc := 17) C k4 (by decide) dX10_put_17 ?_
      refine g_icmp_ge (pc := 18) C dX10_put_18 (tgt := 32) rfl (fun z5 => ?_) (fun z5 => ?_)
      · replace h := h.1 z5
        exact g_vret (pc := 32) C hlk hr (Nat.le_refl _) (Nat.le_refl _) dX10_put_32 h
      · replace h := h.2 z5
        refine g_aload_n (pc := 21) C dX10_put_21 (q := 0) rfl ?_
        refine gfX10_22 (pc := 22) C k2 (isK_ne k4) dX10_put_22 ?_
        refine g_iload_n (pc := 25) C dX10_put_25 (q := 1) rfl ?_
        refine g_aload_n (pc := 26) C dX10_put_26 (q := 0) rfl ?_
        refine g_lload_n (pc := 27) C dX10_put_27 (q := 2) rfl ?_
        refine miX10_26 (pc := 28) C k2 h (Nat.le_of_ble_eq_true rfl) (Nat.le_of_ble_eq_true rfl) ⟨Nat.le_refl _, Nat.le_refl _⟩ dX10_put_28 (fun r6 w7 h => ?_)
        obtain ⟨k8, h⟩ := h
        obtain ⟨k9, h⟩ := h
        refine g_last (pc := 31) C k8 k9 dX10_put_31 ?_
        exact g_vret (pc := 32) C hlk hr (Nat.le_refl _) (Nat.le_refl _) dX10_put_32 h
theorem miX4_38 (C : xC x p s m c cc nL args RX4) {a0 : Int32} {a1 : Int32} {K : Int32 → Wd → Prop} {D MC MS : Nat} (h : w_X11_has a0 a1 K w) (hD : 0 + 1 ≤ D) (hW : (st.map fun v => v.category).sum ≤ 8) (hij : i ≤ MC ∧ j ≤ MS) (hd : decode cc pc = .ok (.invokestatic 38, 3)) (k : ∀ (r : Int32) (u : Wd), K r u → GW x p l e (rmd D MC MS) s m args below meth c nL Q (pc + 3) lo (.int r :: st) u i j) : GW x p l e (rmd D MC MS) s m args below meth c nL Q pc lo (.int a1 :: .int a0 :: st) w i j := g_callNi0 C (As := [.int a0, .int a1]) (c_X11_has h) (x_cwN C 2 LKX11_has LNX4_38 LSX11_has LIX11 ⟨by decide, by decide, rfl⟩ hD (by decide)) rfl rfl hW hd hij k
def l_X4_wokenByYawns_4  (K : Int32 → Wd → Prop) : Nat → Nat → Int32 → Int32 → Int32 → Wd → Prop
  | 0, _, _, _, _, _ => False
  | n + 1, a0, a1, a2, a3, w => isK w a0 4 ∧ isK w (wR w a0 2) 20 ∧ (((Int32.ofNat (wn w (wR w a0 2))) ≤ a3 → K a2 w) ∧ (¬ (Int32.ofNat (wn w (wR w a0 2))) ≤ a3 → w_X11_has a1 a3 (fun r4 w5 => ((r4 = 0 → l_X4_wokenByYawns_4 K n a0 a1 a2 (a3 + 1) w5) ∧ (¬ r4 = 0 → isK w5 a0 4 ∧ isK w5 (wR w5 a0 2) 20 ∧ vp_in a3 (wn w5 (wR w5 a0 2)) ∧ l_X4_wokenByYawns_4 K n a0 a1 (a2 ||| (wI w5 (wR w5 a0 2) a3.toNatClampNeg)) (a3 + 1) w5))) w))
def w_X4_wokenByYawns (a0 : Nat) (a1 : Int32) (K : Int32 → Wd → Prop) (w : Wd) : Prop :=
  ∃ n10, l_X4_wokenByYawns_4  K n10 a0 a1 0 0 w
theorem t_X4_wokenByYawns_4 (C : xC x p s m c cX4_wokenByYawns 4 args RX4) (hlk : meth.locks = false) (hr : meth.sig.returnType = some .int) {K : Int32 → Wd → Prop}   : ∀ (n : Nat) (a0 : Nat) (a1 : Int32) (a2 : Int32) (a3 : Int32) (w : Wd), l_X4_wokenByYawns_4 K n a0 a1 a2 a3 w → GW x p l e (rmd 1 0 0) s m args below meth c 4 (QI x K below args s 0 0) 4 [(0, .ref (adr x a0)), (1, .int a1), (2, .int a2), (3, .int a3)] [] w 0 0 := by
  intro n
  induction n with
  | zero => intro _ _ _ _ _ h; exact False.elim h
  | succ n ih =>
    intro a0 a1 a2 a3 w h
    refine g_iload_n (pc := 4) C dX4_wokenByYawns_4 (q := 3) rfl ?_
    refine g_aload_n (pc := 5) C dX4_wokenByYawns_5 (q := 0) rfl ?_
    obtain ⟨k1, h⟩ := h
    obtain ⟨k2, h⟩ := h
    refine gfX4_15 (pc := 6) C k1 (isK_ne k2) dX4_wokenByYawns_6 ?_
    refine g_alen (pc := 9) C k2 (by decide) dX4_wokenByYawns_9 ?_
    refine g_icmp_ge (pc := 10) C dX4_wokenByYawns_10 (tgt := 36) rfl (fun z3 => ?_) (fun z3 => ?_)
    · replace h := h.1 z3
      refine g_iload_n (pc := 36) C dX4_wokenByYawns_36 (q := 2) rfl ?_
      exact g_iret (pc := 37) C hlk hr (Nat.le_refl _) (Nat.le_refl _) dX4_wokenByYawns_37 h
    · replace h := h.2 z3
      refine g_iload_n (pc := 13) C dX4_wokenByYawns_13 (q := 1) rfl ?_
      refine g_iload_n (pc := 14) C dX4_wokenByYawns_14 (q := 3) rfl ?_
      refine miX4_38 (pc := 15) C h (Nat.le_of_ble_eq_true rfl) (Nat.le_of_ble_eq_true rfl) ⟨Nat.le_refl _, Nat.le_refl _⟩ dX4_wokenByYawns_15 (fun r4 w5 h => ?_)
      refine g_if_eq (pc := 18) C dX4_wokenByYawns_18 (tgt := 30) rfl (fun z6 => ?_) (fun z6 => ?_)
      · replace h := h.1 z6
        refine g_iinc (pc := 30) C dX4_wokenByYawns_30 (q := 3) rfl (v2 := a3 + 1) rfl (Nat.le_of_ble_eq_true rfl) (lo' := [(3, .int (a3 + 1)), (0, .ref (adr x a0)), (1, .int a1), (2, .int a2)]) rfl ?_
        refine g_goto (pc := 33) C dX4_wokenByYawns_33 (tgt := 4) rfl ?_
        refine g_sub [1, 2, 3, 0] rfl ?_
        exact ih _ _ _ _ _ h
      · replace h := h.2 z6
        refine g_iload_n (pc := 21) C dX4_wokenByYawns_21 (q := 2) rfl ?_
        refine g_aload_n (pc := 22) C dX4_wokenByYawns_22 (q := 0) rfl ?_
        obtain ⟨k7, h⟩ := h
        obtain ⟨k8, h⟩ := h
        refine gfX4_15 (pc := 23) C k7 (isK_ne k8) dX4_wokenByYawns_23 ?_
        refine g_iload_n (pc := 26) C dX4_wokenByYawns_26 (q := 3) rfl ?_
        obtain ⟨k9, h⟩ := h
        refine g_iald (pc := 27) C k8 k9 dX4_wokenByYawns_27 ?_
        refine g_ior (pc := 28) C dX4_wokenByYawns_28 ?_
        refine g_istore_n (pc := 29) C dX4_wokenByYawns_29 (Nat.le_of_ble_eq_true rfl) (lo' := [(2, .int (a2 ||| (wI w5 (wR w5 a0 2) a3.toNatClampNeg))), (0, .ref (adr x a0)), (1, .int a1), (3, .int a3)]) rfl ?_
        refine g_iinc (pc := 30) C dX4_wokenByYawns_30 (q := 3) rfl (v2 := a3 + 1) rfl (Nat.le_of_ble_eq_true rfl) (lo' := [(3, .int (a3 + 1)), (2, .int (a2 ||| (wI w5 (wR w5 a0 2) a3.toNatClampNeg))), (0, .ref (adr x a0)), (1, .int a1)]) rfl ?_
        refine g_goto (pc := 33) C dX4_wokenByYawns_33 (tgt := 4) rfl ?_
        refine g_sub [2, 3, 1, 0] rfl ?_
        exact ih _ _ _ _ _ h
theorem c_X4_wokenByYawns {x : xG} {l : Launch} {a0 : Nat} {a1 : Int32} {K : Int32 → Wd → Prop} {w : Wd} (h : w_X4_wokenByYawns a0 a1 K w) : Met l yX4_wokenByYawns (xws yX4_wokenByYawns cX4_wokenByYawns 4 (some .int)) (rmd 1 0 0) (xPc x [.ref (adr x a0), .int a1] w) (QcI x K) 0 0 (xA x) := by
  refine xMet (by decide) (Nat.le_of_ble_eq_true rfl) (fun p e s m below meth c C hlk hr _ => ?_)
  show GW x p l e (rmd 1 0 0) s m [.ref (adr x a0), .int a1].toArray below meth c 4 (QI x K below [.ref (adr x a0), .int a1].toArray s 0 0) 0 [(0, .ref (adr x a0)), (1, .int a1)] [] w 0 0
  refine g_iconst (pc := 0) C dX4_wokenByYawns_0 (v := 0) rfl ?_
  refine g_istore_n (pc := 1) C dX4_wokenByYawns_1 (Nat.le_of_ble_eq_true rfl) (lo' := [(2, .int 0), (0, .ref (adr x a0)), (1, .int a1)]) rfl ?_
  refine g_iconst (pc := 2) C dX4_wokenByYawns_2 (v := 0) rfl ?_
  refine g_istore_n (pc := 3) C dX4_wokenByYawns_3 (Nat.le_of_ble_eq_true rfl) (lo' := [(3, .int 0), (2, .int 0), (0, .ref (adr x a0)), (1, .int a1)]) rfl ?_
  obtain ⟨n10, h⟩ := h
  refine g_sub [2, 3, 1, 0] rfl ?_
  refine t_X4_wokenByYawns_4 C hlk hr n10 _ _ _ _ _ h
theorem miX4_63 (C : xC x p s m c cc nL args RX4) {a0 : Nat} {a1 : Int32} {K : Int32 → Wd → Prop} {D MC MS : Nat} (hq : isK w a0 4) (h : w_X4_wokenByYawns a0 a1 K w) (hD : 1 + 1 ≤ D) (hW : (st.map fun v => v.category).sum ≤ 8) (hij : i ≤ MC ∧ j ≤ MS) (hd : decode cc pc = .ok (.invokevirtual 63, 3)) (k : ∀ (r : Int32) (u : Wd), K r u → GW x p l e (rmd D MC MS) s m args below meth c nL Q (pc + 3) lo (.int r :: st) u i j) : GW x p l e (rmd D MC MS) s m args below meth c nL Q pc lo (.int a1 :: .ref (adr x a0) :: st) w i j := g_callVi0 C (As := [.int a1]) (ci := 4) (c_X4_wokenByYawns h) (x_cwV C 1 LMX4_63 ⟨rfl, by decide, by decide, rfl⟩ hD (by decide)) rfl hq (by decide) rfl rfl hW hd hij k
def l_X4_spread_10  (K : Int32 → Wd → Prop) : Nat → Nat → Int32 → Int32 → Int32 → Int32 → Wd → Prop
  | 0, _, _, _, _, _, _ => False
  | n + 1, a0, a2, a3, a4, a5, w => ((10 ≤ a5 → K a4 w) ∧ (¬ 10 ≤ a5 → ((a3 = 0 → K a4 w) ∧ (¬ a3 = 0 → isK w a0 4 ∧ w_X4_wokenByYawns a0 a3 (fun r4 w5 => l_X4_spread_10 K n a0 a2 ((r4 &&& a2) &&& (a4 ^^^ (-1))) (a4 ||| ((r4 &&& a2) &&& (a4 ^^^ (-1)))) (a5 + 1) w5) w))))
def w_X4_spread (a0 : Nat) (a1 : Int32) (a2 : Int32) (K : Int32 → Wd → Prop) (w : Wd) : Prop :=
  ∃ n6, l_X4_spread_10  K n6 a0 a2 (a1 &&& a2) (a1 &&& a2) 0 w
theorem t_X4_spread_10 (C : xC x p s m c cX4_spread 6 args RX4) (hlk : meth.locks = false) (hr : meth.sig.returnType = some .int) {K : Int32 → Wd → Prop}   : ∀ (n : Nat) (a0 : Nat) (a2 : Int32) (a3 : Int32) (a4 : Int32) (a5 : Int32) (w : Wd), l_X4_spread_10 K n a0 a2 a3 a4 a5 w → GW x p l e (rmd 2 0 0) s m args below meth c 6 (QI x K below args s 0 0) 10 [(0, .ref (adr x a0)), (2, .int a2), (3, .int a3), (4, .int a4), (5, .int a5)] [] w 0 0 := by
  intro n
  induction n with
  | zero => intro _ _ _ _ _ _ h; exact False.elim h
  | succ n ih =>
    intro a0 a2 a3 a4 a5 w h
    refine g_iload (pc := 10) C dX4_spread_10 (q := 4) rfl ?_
    refine g_bipush (pc := 12) C dX4_spread_12 (v := 10) rfl ?_
    refine g_icmp_ge (pc := 14) C dX4_spread_14 (tgt := 46) rfl (fun z1 => ?_) (fun z1 => ?_)
    · replace h := h.1 z1
      refine g_iload (pc := 46) C dX4_spread_46 (q := 3) rfl ?_
      exact g_iret (pc := 48) C hlk hr (Nat.le_refl _) (Nat.le_refl _) dX4_spread_48 h
    · replace h := h.2 z1
      refine g_iload_n (pc := 17) C dX4_spread_17 (q := 2) rfl ?_
      refine g_if_eq (pc := 18) C dX4_spread_18 (tgt := 46) rfl (fun z2 => ?_) (fun z2 => ?_)
      · replace h := h.1 z2
        refine g_iload (pc := 46) C dX4_spread_46 (q := 3) rfl ?_
        exact g_iret (pc := 48) C hlk hr (Nat.le_refl _) (Nat.le_refl _) dX4_spread_48 h
      · replace h := h.2 z2
        refine g_aload_n (pc := 21) C dX4_spread_21 (q := 0) rfl ?_
        refine g_iload_n (pc := 22) C dX4_spread_22 (q := 2) rfl ?_
        obtain ⟨k3, h⟩ := h
        refine miX4_63 (pc := 23) C k3 h (Nat.le_of_ble_eq_true rfl) (Nat.le_of_ble_eq_true rfl) ⟨Nat.le_refl _, Nat.le_refl _⟩ dX4_spread_23 (fun r4 w5 h => ?_)
        refine g_iload_n (pc := 26) C dX4_spread_26 (q := 1) rfl ?_
        refine g_iand (pc := 27) C dX4_spread_27 ?_
        refine g_iload (pc := 28) C dX4_spread_28 (q := 3) rfl ?_
        refine g_iconst (pc := 30) C dX4_spread_30 (v := (-1)) rfl ?_
        refine g_ixor (pc := 31) C dX4_spread_31 ?_
        refine g_iand (pc := 32) C dX4_spread_32 ?_
        refine g_istore_n (pc := 33) C dX4_spread_33 (Nat.le_of_ble_eq_true rfl) (lo' := [(3, .int ((r4 &&& a2) &&& (a4 ^^^ (-1)))), (0, .ref (adr x a0)), (2, .int a2), (4, .int a4), (5, .int a5)]) rfl ?_
        refine g_iload (pc := 34) C dX4_spread_34 (q := 3) rfl ?_
        refine g_iload_n (pc := 36) C dX4_spread_36 (q := 0) rfl ?_
        refine g_ior (pc := 37) C dX4_spread_37 ?_
        refine g_istore (pc := 38) C dX4_spread_38 (Nat.le_of_ble_eq_true rfl) (lo' := [(4, .int (a4 ||| ((r4 &&& a2) &&& (a4 ^^^ (-1))))), (3, .int ((r4 &&& a2) &&& (a4 ^^^ (-1)))), (0, .ref (adr x a0)), (2, .int a2), (5, .int a5)]) rfl ?_
        refine g_iinc (pc := 40) C dX4_spread_40 (q := 4) rfl (v2 := a5 + 1) rfl (Nat.le_of_ble_eq_true rfl) (lo' := [(5, .int (a5 + 1)), (4, .int (a4 ||| ((r4 &&& a2) &&& (a4 ^^^ (-1))))), (3, .int ((r4 &&& a2) &&& (a4 ^^^ (-1)))), (0, .ref (adr x a0)), (2, .int a2)]) rfl ?_
        refine g_goto (pc := 43) C dX4_spread_43 (tgt := 10) rfl ?_
        refine g_sub [3, 4, 2, 1, 0] rfl ?_
        exact ih _ _ _ _ _ _ h
theorem c_X4_spread {x : xG} {l : Launch} {a0 : Nat} {a1 : Int32} {a2 : Int32} {K : Int32 → Wd → Prop} {w : Wd} (h : w_X4_spread a0 a1 a2 K w) : Met l yX4_spread (xws yX4_spread cX4_spread 6 (some .int)) (rmd 2 0 0) (xPc x [.ref (adr x a0), .int a1, .int a2] w) (QcI x K) 0 0 (xA x) := by
  refine xMet (by decide) (Nat.le_of_ble_eq_true rfl) (fun p e s m below meth c C hlk hr _ => ?_)
  show GW x p l e (rmd 2 0 0) s m [.ref (adr x a0), .int a1, .int a2].toArray below meth c 6 (QI x K below [.ref (adr x a0), .int a1, .int a2].toArray s 0 0) 0 [(0, .ref (adr x a0)), (1, .int a1), (2, .int a2)] [] w 0 0
  refine g_iload_n (pc := 0) C dX4_spread_0 (q := 1) rfl ?_
  refine g_iload_n (pc := 1) C dX4_spread_1 (q := 2) rfl ?_
  refine g_iand (pc := 2) C dX4_spread_2 ?_
  refine g_istore_n (pc := 3) C dX4_spread_3 (Nat.le_of_ble_eq_true rfl) (lo' := [(3, .int (a1 &&& a2)), (0, .ref (adr x a0)), (1, .int a1), (2, .int a2)]) rfl ?_
  refine g_iload_n (pc := 4) C dX4_spread_4 (q := 0) rfl ?_
  refine g_istore (pc := 5) C dX4_spread_5 (Nat.le_of_ble_eq_true rfl) (lo' := [(4, .int (a1 &&& a2)), (3, .int (a1 &&& a2)), (0, .ref (adr x a0)), (1, .int a1), (2, .int a2)]) rfl ?_
  refine g_iconst (pc := 7) C dX4_spread_7 (v := 0) rfl ?_
  refine g_istore (pc := 8) C dX4_spread_8 (Nat.le_of_ble_eq_true rfl) (lo' := [(5, .int 0), (4, .int (a1 &&& a2)), (3, .int (a1 &&& a2)), (0, .ref (adr x a0)), (1, .int a1), (2, .int a2)]) rfl ?_
  obtain ⟨n6, h⟩ := h
  refine g_sub [3, 5, 2, 1, 0] rfl ?_
  refine t_X4_spread_10 C hlk hr n6 _ _ _ _ _ _ h
def j_X4_joinTwo_129  (K : Int32 → Wd → Prop) (a5 : Int64) (w : Wd) : Prop :=
  (((lg_cmp a5 1000000) ≤ 0 → ((0 ≤ (lg_cmp a5 (-1000000)) → K a5.toInt32 w) ∧ (¬ 0 ≤ (lg_cmp a5 (-1000000)) → K ((-1000000).toInt32) w))) ∧ (¬ (lg_cmp a5 1000000) ≤ 0 → K ((1000000 : Int64).toInt32) w))
def w_X4_joinTwo (a0 : Int32) (a1 : Int64) (a3 : Int64) (K : Int32 → Wd → Prop) (w : Wd) : Prop :=
  ((a0 = 2000 → j_X4_joinTwo_129 K (a1 + a3) w) ∧ (¬ a0 = 2000 → ((a0 = 2001 → j_X4_joinTwo_129 K (a1 - a3) w) ∧ (¬ a0 = 2001 → ((a0 = 2002 → j_X4_joinTwo_129 K (a1 * a3) w) ∧ (¬ a0 = 2002 → ((a0 = 2003 → (((lg_cmp a1 a3) = 0 → j_X4_joinTwo_129 K 1 w) ∧ (¬ (lg_cmp a1 a3) = 0 → j_X4_joinTwo_129 K 0 w))) ∧ (¬ a0 = 2003 → ((a0 = 2004 → ((0 ≤ (lg_cmp a1 a3) → j_X4_joinTwo_129 K 0 w) ∧ (¬ 0 ≤ (lg_cmp a1 a3) → j_X4_joinTwo_129 K 1 w))) ∧ (¬ a0 = 2004 → ((a0 = 2005 → (((lg_cmp a1 a3) ≤ 0 → j_X4_joinTwo_129 K 0 w) ∧ (¬ (lg_cmp a1 a3) ≤ 0 → j_X4_joinTwo_129 K 1 w))) ∧ (¬ a0 = 2005 → ((a0 = 2006 → j_X4_joinTwo_129 K (a1 &&& a3) w) ∧ (¬ a0 = 2006 → j_X4_joinTwo_129 K (a1 ||| a3) w))))))))))))))
theorem t_X4_joinTwo_129 (C : xC x p s m c cX4_joinTwo 7 args RX4) (hlk : meth.locks = false) (hr : meth.sig.returnType = some .int) {K : Int32 → Wd → Prop}   (a5 : Int64) (w : Wd) (h : j_X4_joinTwo_129 K a5 w) : GW x p l e (rmd 0 0 0) s m args below meth c 7 (QI x K below args s 0 0) 129 [(5, .long a5)] [] w 0 0 := by
  refine g_lload (pc := 129) C dX4_joinTwo_129 (q := 0) rfl ?_
  refine g_ldc2 (pc := 131) C LCX4_105 dX4_joinTwo_131 ?_
  refine g_lcmp (pc := 134) C dX4_joinTwo_134 ?_
  refine g_if_le (pc := 135) C dX4_joinTwo_135 (tgt := 144) rfl (fun z8 => ?_) (fun z8 => ?_)
  · replace h := h.1 z8
    refine g_lload (pc := 144) C dX4_joinTwo_144 (q := 0) rfl ?_
    refine g_ldc2 (pc := 146) C LCX4_107 dX4_joinTwo_146 ?_
    refine g_lcmp (pc := 149) C dX4_joinTwo_149 ?_
    refine g_if_ge (pc := 150) C dX4_joinTwo_150 (tgt := 159) rfl (fun z9 => ?_) (fun z9 => ?_)
    · replace h := h.1 z9
      refine g_lload (pc := 159) C dX4_joinTwo_159 (q := 0) rfl ?_
      refine g_l2i (pc := 161) C dX4_joinTwo_161 ?_
      exact g_iret (pc := 162) C hlk hr (Nat.le_refl _) (Nat.le_refl _) dX4_joinTwo_162 h
    · replace h := h.2 z9
      refine g_ldc2 (pc := 153) C LCX4_107 dX4_joinTwo_153 ?_
      refine g_goto (pc := 156) C dX4_joinTwo_156 (tgt := 161) rfl ?_
      refine g_l2i (pc := 161) C dX4_joinTwo_161 ?_
      exact g_iret (pc := 162) C hlk hr (Nat.le_refl _) (Nat.le_refl _) dX4_joinTwo_162 h
  · replace h := h.2 z8
    refine g_ldc2 (pc := 138) C LCX4_105 dX4_joinTwo_138 ?_
    refine g_goto (pc := 141) C dX4_joinTwo_141 (tgt := 161) rfl ?_
    refine g_l2i (pc := 161) C dX4_joinTwo_161 ?_
    exact g_iret (pc := 162) C hlk hr (Nat.le_refl _) (Nat.le_refl _) dX4_joinTwo_162 h
theorem c_X4_joinTwo {x : xG} {l : Launch} {a0 : Int32} {a1 : Int64} {a3 : Int64} {K : Int32 → Wd → Prop} {w : Wd} (h : w_X4_joinTwo a0 a1 a3 K w) : Met l yX4_joinTwo (xws yX4_joinTwo cX4_joinTwo 7 (some .int)) (rmd 0 0 0) (xPc x [.int a0, .long a1, .long a3] w) (QcI x K) 0 0 (xA x) := by
  refine xMet (by decide) (Nat.le_of_ble_eq_true rfl) (fun p e s m below meth c C hlk hr _ => ?_)
  show GW x p l e (rmd 0 0 0) s m [.int a0, .long a1, .long a3].toArray below meth c 7 (QI x K below [.int a0, .long a1, .long a3].toArray s 0 0) 0 [(0, .int a0), (1, .long a1), (3, .long a3)] [] w 0 0
  refine g_iload_n (pc := 0) C dX4_joinTwo_0 (q := 0) rfl ?_
  by_cases z1 : a0 = 2000
  · replace h := h.1 z1
    refine g_tabIn (pc := 1) C dX4_joinTwo_1 (by rw [z1]; decide) (by rw [z1]; decide) (off := 43) (by rw [z1]; rfl) (tgt := 44) rfl ?_
    refine g_lload_n (pc := 44) C dX4_joinTwo_44 (q := 1) rfl ?_
    refine g_lload_n (pc := 45) C dX4_joinTwo_45 (q := 2) rfl ?_
    refine g_ladd (pc := 46) C dX4_joinTwo_46 ?_
    refine g_lstore (pc := 47) C dX4_joinTwo_47 (Nat.le_of_ble_eq_true rfl) (lo' := [(5, .long (a1 + a3)), (0, .int a0), (1, .long a1), (3, .long a3)]) rfl ?_
    refine g_goto (pc := 49) C dX4_joinTwo_49 (tgt := 129) rfl ?_
    refine g_sub [0] rfl ?_
    exact t_X4_joinTwo_129 C hlk hr  _ _ h
  replace h := h.2 z1
  by_cases z2 : a0 = 2001
  · replace h := h.1 z2
    refine g_tabIn (pc := 1) C dX4_joinTwo_1 (by rw [z2]; decide) (by rw [z2]; decide) (off := 51) (by rw [z2]; rfl) (tgt := 52) rfl ?_
    refine g_lload_n (pc := 52) C dX4_joinTwo_52 (q := 1) rfl ?_
    refine g_lload_n (pc := 53) C dX4_joinTwo_53 (q := 2) rfl ?_
    refine g_lsub (pc := 54) C dX4_joinTwo_54 ?_
    refine g_lstore (pc := 55) C dX4_joinTwo_55 (Nat.le_of_ble_eq_true rfl) (lo' := [(5, .long (a1 - a3)), (0, .int a0), (1, .long a1), (3, .long a3)]) rfl ?_
    refine g_goto (pc := 57) C dX4_joinTwo_57 (tgt := 129) rfl ?_
    refine g_sub [0] rfl ?_
    exact t_X4_joinTwo_129 C hlk hr  _ _ h
  replace h := h.2 z2
  by_cases z3 : a0 = 2002
  · replace h := h.1 z3
    refine g_tabIn (pc := 1) C dX4_joinTwo_1 (by rw [z3]; decide) (by rw [z3]; decide) (off := 59) (by rw [z3]; rfl) (tgt := 60) rfl ?_
    refine g_lload_n (pc := 60) C dX4_joinTwo_60 (q := 1) rfl ?_
    refine g_lload_n (pc := 61) C dX4_joinTwo_61 (q := 2) rfl ?_
    refine g_lmul (pc := 62) C dX4_joinTwo_62 ?_
    refine g_lstore (pc := 63) C dX4_joinTwo_63 (Nat.le_of_ble_eq_true rfl) (lo' := [(5, .long (a1 * a3)), (0, .int a0), (1, .long a1), (3, .long a3)]) rfl ?_
    refine g_goto (pc := 65) C dX4_joinTwo_65 (tgt := 129) rfl ?_
    refine g_sub [0] rfl ?_
    exact t_X4_joinTwo_129 C hlk hr  _ _ h
  replace h := h.2 z3
  by_cases z4 : a0 = 2003
  · replace h := h.1 z4
    refine g_tabIn (pc := 1) C dX4_joinTwo_1 (by rw [z4]; decide) (by rw [z4]; decide) (off := 67) (by rw [z4]; rfl) (tgt := 68) rfl ?_
    refine g_lload_n (pc := 68) C dX4_joinTwo_68 (q := 1) rfl ?_
    refine g_lload_n (pc := 69) C dX4_joinTwo_69 (q := 2) rfl ?_
    refine g_lcmp (pc := 70) C dX4_joinTwo_70 ?_
    refine g_if_ne (pc := 71) C dX4_joinTwo_71 (tgt := 78) rfl (fun z10 => ?_) (fun z10 => ?_)
    · replace h := h.2 z10
      refine g_lconst (pc := 78) C dX4_joinTwo_78 (v := 0) rfl ?_
      refine g_lstore (pc := 79) C dX4_joinTwo_79 (Nat.le_of_ble_eq_true rfl) (lo' := [(5, .long 0), (0, .int a0), (1, .long a1), (3, .long a3)]) rfl ?_
      refine g_goto (pc := 81) C dX4_joinTwo_81 (tgt := 129) rfl ?_
      refine g_sub [0] rfl ?_
      exact t_X4_joinTwo_129 C hlk hr  _ _ h
    · replace h := h.1 z10
      refine g_lconst (pc := 74) C dX4_joinTwo_74 (v := 1) rfl ?_
      refine g_goto (pc := 75) C dX4_joinTwo_75 (tgt := 79) rfl ?_
      refine g_lstore (pc := 79) C dX4_joinTwo_79 (Nat.le_of_ble_eq_true rfl) (lo' := [(5, .long 1), (0, .int a0), (1, .long a1), (3, .long a3)]) rfl ?_
      refine g_goto (pc := 81) C dX4_joinTwo_81 (tgt := 129) rfl ?_
      refine g_sub [0] rfl ?_
      exact t_X4_joinTwo_129 C hlk hr  _ _ h
  replace h := h.2 z4
  by_cases z5 : a0 = 2004
  · replace h := h.1 z5
    refine g_tabIn (pc := 1) C dX4_joinTwo_1 (by rw [z5]; decide) (by rw [z5]; decide) (off := 83) (by rw [z5]; rfl) (tgt := 84) rfl ?_
    refine g_lload_n (pc := 84) C dX4_joinTwo_84 (q := 1) rfl ?_
    refine g_lload_n (pc := 85) C dX4_joinTwo_85 (q := 2) rfl ?_
    refine g_lcmp (pc := 86) C dX4_joinTwo_86 ?_
    refine g_if_ge (pc := 87) C dX4_joinTwo_87 (tgt := 94) rfl (fun z11 => ?_) (fun z11 => ?_)
    · replace h := h.1 z11
      refine g_lconst (pc := 94) C dX4_joinTwo_94 (v := 0) rfl ?_
      refine g_lstore (pc := 95) C dX4_joinTwo_95 (Nat.le_of_ble_eq_true rfl) (lo' := [(5, .long 0), (0, .int a0), (1, .long a1), (3, .long a3)]) rfl ?_
      refine g_goto (pc := 97) C dX4_joinTwo_97 (tgt := 129) rfl ?_
      refine g_sub [0] rfl ?_
      exact t_X4_joinTwo_129 C hlk hr  _ _ h
    · replace h := h.2 z11
      refine g_lconst (pc := 90) C dX4_joinTwo_90 (v := 1) rfl ?_
      refine g_goto (pc := 91) C dX4_joinTwo_91 (tgt := 95) rfl ?_
      refine g_lstore (pc := 95) C dX4_joinTwo_95 (Nat.le_of_ble_eq_true rfl) (lo' := [(5, .long 1), (0, .int a0), (1, .long a1), (3, .long a3)]) rfl ?_
      refine g_goto (pc := 97) C dX4_joinTwo_97 (tgt := 129) rfl ?_
      refine g_sub [0] rfl ?_
      exact t_X4_joinTwo_129 C hlk hr  _ _ h
  replace h := h.2 z5
  by_cases z6 : a0 = 2005
  · replace h := h.1 z6
    refine g_tabIn (pc := 1) C dX4_joinTwo_1 (by rw [z6]; decide) (by rw [z6]; decide) (off := 99) (by rw [z6]; rfl) (tgt := 100) rfl ?_
    refine g_lload_n (pc := 100) C dX4_joinTwo_100 (q := 1) rfl ?_
    refine g_lload_n (pc := 101) C dX4_joinTwo_101 (q := 2) rfl ?_
    refine g_lcmp (pc := 102) C dX4_joinTwo_102 ?_
    refine g_if_le (pc := 103) C dX4_joinTwo_103 (tgt := 110) rfl (fun z12 => ?_) (fun z12 => ?_)
    · replace h := h.1 z12
      refine g_lconst (pc := 110) C dX4_joinTwo_110 (v := 0) rfl ?_
      refine g_lstore (pc := 111) C dX4_joinTwo_111 (Nat.le_of_ble_eq_true rfl) (lo' := [(5, .long 0), (0, .int a0), (1, .long a1), (3, .long a3)]) rfl ?_
      refine g_goto (pc := 113) C dX4_joinTwo_113 (tgt := 129) rfl ?_
      refine g_sub [0] rfl ?_
      exact t_X4_joinTwo_129 C hlk hr  _ _ h
    · replace h := h.2 z12
      refine g_lconst (pc := 106) C dX4_joinTwo_106 (v := 1) rfl ?_
      refine g_goto (pc := 107) C dX4_joinTwo_107 (tgt := 111) rfl ?_
      refine g_lstore (pc := 111) C dX4_joinTwo_111 (Nat.le_of_ble_eq_true rfl) (lo' := [(5, .long 1), (0, .int a0), (1, .long a1), (3, .long a3)]) rfl ?_
      refine g_goto (pc := 113) C dX4_joinTwo_113 (tgt := 129) rfl ?_
      refine g_sub [0] rfl ?_
      exact t_X4_joinTwo_129 C hlk hr  _ _ h
  replace h := h.2 z6
  by_cases z7 : a0 = 2006
  · replace h := h.1 z7
    refine g_tabIn (pc := 1) C dX4_joinTwo_1 (by rw [z7]; decide) (by rw [z7]; decide) (off := 115) (by rw [z7]; rfl) (tgt := 116) rfl ?_
    refine g_lload_n (pc := 116) C dX4_joinTwo_116 (q := 1) rfl ?_
    refine g_lload_n (pc := 117) C dX4_joinTwo_117 (q := 2) rfl ?_
    refine g_land (pc := 118) C dX4_joinTwo_118 ?_
    refine g_lstore (pc := 119) C dX4_joinTwo_119 (Nat.le_of_ble_eq_true rfl) (lo' := [(5, .long (a1 &&& a3)), (0, .int a0), (1, .long a1), (3, .long a3)]) rfl ?_
    refine g_goto (pc := 121) C dX4_joinTwo_121 (tgt := 129) rfl ?_
    refine g_sub [0] rfl ?_
    exact t_X4_joinTwo_129 C hlk hr  _ _ h
  replace h := h.2 z7
  have y13 := ne_toInt (n := 2000) z1 (by decide)
  have y14 := ne_toInt (n := 2001) z2 (by decide)
  have y15 := ne_toInt (n := 2002) z3 (by decide)
  have y16 := ne_toInt (n := 2003) z4 (by decide)
  have y17 := ne_toInt (n := 2004) z5 (by decide)
  have y18 := ne_toInt (n := 2005) z6 (by decide)
  have y19 := ne_toInt (n := 2006) z7 (by decide)
  refine g_tabOut (pc := 1) C dX4_joinTwo_1 (by omega) (tgt := 124) rfl ?_
  refine g_lload_n (pc := 124) C dX4_joinTwo_124 (q := 1) rfl ?_
  refine g_lload_n (pc := 125) C dX4_joinTwo_125 (q := 2) rfl ?_
  refine g_lor (pc := 126) C dX4_joinTwo_126 ?_
  refine g_lstore (pc := 127) C dX4_joinTwo_127 (Nat.le_of_ble_eq_true rfl) (lo' := [(5, .long (a1 ||| a3)), (0, .int a0), (1, .long a1), (3, .long a3)]) rfl ?_
  refine g_sub [0] rfl ?_
  exact t_X4_joinTwo_129 C hlk hr  _ _ h
def w_X4_valueOf (a0 : Nat) (a1 : Int32) (K : Int32 → Wd → Prop) (w : Wd) : Prop :=
  ((a1 < 0 → K 0 w) ∧ (¬ a1 < 0 → isK w a0 4 ∧ isK w (wR w a0 4) 20 ∧ (((Int32.ofNat (wn w (wR w a0 4))) ≤ a1 → K 0 w) ∧ (¬ (Int32.ofNat (wn w (wR w a0 4))) ≤ a1 → vp_in a1 (wn w (wR w a0 4)) ∧ K (wI w (wR w a0 4) a1.toNatClampNeg) w))))
theorem c_X4_valueOf {x : xG} {l : Launch} {a0 : Nat} {a1 : Int32} {K : Int32 → Wd → Prop} {w : Wd} (h : w_X4_valueOf a0 a1 K w) : Met l yX4_valueOf (xws yX4_valueOf cX4_valueOf 2 (some .int)) (rmd 0 0 0) (xPc x [.ref (adr x a0), .int a1] w) (QcI x K) 0 0 (xA x) := by
  refine xMet (by decide) (Nat.le_of_ble_eq_true rfl) (fun p e s m below meth c C hlk hr _ => ?_)
  show GW x p l e (rmd 0 0 0) s m [.ref (adr x a0), .int a1].toArray below meth c 2 (QI x K below [.ref (adr x a0), .int a1].toArray s 0 0) 0 [(0, .ref (adr x a0)), (1, .int a1)] [] w 0 0
  refine g_iload_n (pc := 0) C dX4_valueOf_0 (q := 1) rfl ?_
  refine g_if_lt (pc := 1) C dX4_valueOf_1 (tgt := 22) rfl (fun z1 => ?_) (fun z1 => ?_)
  · replace h := h.1 z1
    refine g_iconst (pc := 22) C dX4_valueOf_22 (v := 0) rfl ?_
    exact g_iret (pc := 23) C hlk hr (Nat.le_refl _) (Nat.le_refl _) dX4_valueOf_23 h
  · replace h := h.2 z1
    refine g_iload_n (pc := 4) C dX4_valueOf_4 (q := 1) rfl ?_
    refine g_aload_n (pc := 5) C dX4_valueOf_5 (q := 0) rfl ?_
    obtain ⟨k2, h⟩ := h
    obtain ⟨k3, h⟩ := h
    refine gfX4_22 (pc := 6) C k2 (isK_ne k3) dX4_valueOf_6 ?_
    refine g_alen (pc := 9) C k3 (by decide) dX4_valueOf_9 ?_
    refine g_icmp_ge (pc := 10) C dX4_valueOf_10 (tgt := 22) rfl (fun z4 => ?_) (fun z4 => ?_)
    · replace h := h.1 z4
      refine g_iconst (pc := 22) C dX4_valueOf_22 (v := 0) rfl ?_
      exact g_iret (pc := 23) C hlk hr (Nat.le_refl _) (Nat.le_refl _) dX4_valueOf_23 h
    · replace h := h.2 z4
      refine g_aload_n (pc := 13) C dX4_valueOf_13 (q := 0) rfl ?_
      refine gfX4_22 (pc := 14) C k2 (isK_ne k3) dX4_valueOf_14 ?_
      refine g_iload_n (pc := 17) C dX4_valueOf_17 (q := 1) rfl ?_
      obtain ⟨k5, h⟩ := h
      refine g_iald (pc := 18) C k3 k5 dX4_valueOf_18 ?_
      refine g_goto (pc := 19) C dX4_valueOf_19 (tgt := 23) rfl ?_
      exact g_iret (pc := 23) C hlk hr (Nat.le_refl _) (Nat.le_refl _) dX4_valueOf_23 h
end ME
