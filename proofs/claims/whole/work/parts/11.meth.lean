/-! methods: X12_within, X12_isNoise, X12_isWell, X12_chain, X12_fails, X12_chorus, X12_shiftsTo, X12_wake, X12_coins, X12_keeps, X12_whyCoin, X12_coin, X12_common, X12_cut, X12_isTray, X12_copy, X12_pairs, X12_count, X12_draws, X12_dreams, X12_hour, X12_thunders, X12_does, X12_whyDraw, X12_draw, X12_putsAside, X12_putsBack, X12_isQuiet, X12_quietFor, X12_laysQuiet -/
section ME
variable {x : xG} {p : Program} {l : Launch} {e : Env} {R : Room} {s : State} {m : MethodId} {args : Array Value} {below : List Frame} {meth : Method} {c : Code} {Q : State → Prop} {cc : ByteArray} {nL : Nat} {pc : Nat} {lo : List (Nat × Value)} {st : List Value} {w : Wd} {i j : Nat}
def w_X12_within (a0 : Int64) (a2 : Int64) (a4 : Int64) (K : Int32 → Wd → Prop) (w : Wd) : Prop :=
  (((lg_cmp a0 a2) < 0 → K 0 w) ∧ (¬ (lg_cmp a0 a2) < 0 → ((0 < (lg_cmp a0 a4) → K 0 w) ∧ (¬ 0 < (lg_cmp a0 a4) → K 1 w))))
theorem c_X12_within {x : xG} {l : Launch} {a0 : Int64} {a2 : Int64} {a4 : Int64} {K : Int32 → Wd → Prop} {w : Wd} (h : w_X12_within a0 a2 a4 K w) : Met l yX12_within (xws yX12_within cX12_within 6 (some .boolean)) (rmd 0 0 0) (xPc x [.long a0, .long a2, .long a4] w) (QcI x K) 0 0 (xA x) := by
  refine xMet (by decide) (Nat.le_of_ble_eq_true rfl) (fun p e s m below meth c C hlk hr _ => ?_)
  show GW x p l e (rmd 0 0 0) s m [.long a0, .long a2, .long a4].toArray below meth c 6 (QI x K below [.long a0, .long a2, .long a4].toArray s 0 0) 0 [(0, .long a0), (2, .long a2), (4, .long a4)] [] w 0 0
  refine g_lload_n (pc := 0) C dX12_within_0 (q := 0) rfl ?_
  refine g_lload_n (pc := 1) C dX12_within_1 (q := 1) rfl ?_
  refine g_lcmp (pc := 2) C dX12_within_2 ?_
  refine g_if_lt (pc := 3) C dX12_within_3 (tgt := 17) rfl (fun z1 => ?_) (fun z1 => ?_)
  · replace h := h.1 z1
    refine g_iconst (pc := 17) C dX12_within_17 (v := 0) rfl ?_
    exact g_zret (pc := 18) C hlk hr (Nat.le_refl _) (Nat.le_refl _) dX12_within_18 (Or.inl rfl) h
  · replace h := h.2 z1
    refine g_lload_n (pc := 6) C dX12_within_6 (q := 0) rfl ?_
    refine g_lload (pc := 7) C dX12_within_7 (q := 2) rfl ?_
    refine g_lcmp (pc := 9) C dX12_within_9 ?_
    refine g_if_gt (pc := 10) C dX12_within_10 (tgt := 17) rfl (fun z2 => ?_) (fun z2 => ?_)
    · replace h := h.1 z2
      refine g_iconst (pc := 17) C dX12_within_17 (v := 0) rfl ?_
      exact g_zret (pc := 18) C hlk hr (Nat.le_refl _) (Nat.le_refl _) dX12_within_18 (Or.inl rfl) h
    · replace h := h.2 z2
      refine g_iconst (pc := 13) C dX12_within_13 (v := 1) rfl ?_
      refine g_goto (pc := 14) C dX12_within_14 (tgt := 18) rfl ?_
      exact g_zret (pc := 18) C hlk hr (Nat.le_refl _) (Nat.le_refl _) dX12_within_18 (Or.inr rfl) h
theorem miX12_119 (C : xC x p s m c cc nL args RX12) {a0 : Int64} {a2 : Int64} {a4 : Int64} {K : Int32 → Wd → Prop} {D MC MS : Nat} (h : w_X12_within a0 a2 a4 K w) (hD : 0 + 1 ≤ D) (hW : (st.map fun v => v.category).sum ≤ 8) (hij : i ≤ MC ∧ j ≤ MS) (hd : decode cc pc = .ok (.invokestatic 119, 3)) (k : ∀ (r : Int32) (u : Wd), K r u → GW x p l e (rmd D MC MS) s m args below meth c nL Q (pc + 3) lo (.int r :: st) u i j) : GW x p l e (rmd D MC MS) s m args below meth c nL Q pc lo (.long a4 :: .long a2 :: .long a0 :: st) w i j := g_callSi0 C (As := [.long a0, .long a2, .long a4]) (c_X12_within h) (x_cwS C 3 LMX12_119 ⟨by decide, by decide, rfl⟩ hD (by decide)) rfl rfl hW hd hij k
def w_X12_isNoise (a0 : Int32) (K : Int32 → Wd → Prop) (w : Wd) : Prop :=
  w_X12_within a0.toInt64 0 99 (fun r1 w2 => (r1 = 0 ∨ r1 = 1) ∧ K r1 w2) w
theorem c_X12_isNoise {x : xG} {l : Launch} {a0 : Int32} {K : Int32 → Wd → Prop} {w : Wd} (h : w_X12_isNoise a0 K w) : Met l yX12_isNoise (xws yX12_isNoise cX12_isNoise 1 (some .boolean)) (rmd 1 0 0) (xPc x [.int a0] w) (QcI x K) 0 0 (xA x) := by
  refine xMet (by decide) (Nat.le_of_ble_eq_true rfl) (fun p e s m below meth c C hlk hr _ => ?_)
  show GW x p l e (rmd 1 0 0) s m [.int a0].toArray below meth c 1 (QI x K below [.int a0].toArray s 0 0) 0 [(0, .int a0)] [] w 0 0
  refine g_iload_n (pc := 0) C dX12_isNoise_0 (q := 0) rfl ?_
  refine g_i2l (pc := 1) C dX12_isNoise_1 ?_
  refine g_lconst (pc := 2) C dX12_isNoise_2 (v := 0) rfl ?_
  refine g_ldc2 (pc := 3) C LCX12_314 dX12_isNoise_3 ?_
  refine miX12_119 (pc := 6) C h (Nat.le_of_ble_eq_true rfl) (Nat.le_of_ble_eq_true rfl) ⟨Nat.le_refl _, Nat.le_refl _⟩ dX12_isNoise_6 (fun r1 w2 h => ?_)
  exact g_zret (pc := 9) C hlk hr (Nat.le_refl _) (Nat.le_refl _) dX12_isNoise_9 h.1 h.2
def w_X12_isWell (a0 : Nat) (a1 : Int64) (K : Int32 → Wd → Prop) (w : Wd) : Prop :=
  isK w a0 12 ∧ w_X12_wells a0 (fun r2 w3 => w_X12_within a1 0 ((r2 - 1).toInt64) (fun r4 w5 => (r4 = 0 ∨ r4 = 1) ∧ K r4 w5) w3) w
theorem c_X12_isWell {x : xG} {l : Launch} {a0 : Nat} {a1 : Int64} {K : Int32 → Wd → Prop} {w : Wd} (h : w_X12_isWell a0 a1 K w) : Met l yX12_isWell (xws yX12_isWell cX12_isWell 3 (some .boolean)) (rmd 1 0 0) (xPc x [.ref (adr x a0), .long a1] w) (QcI x K) 0 0 (xA x) := by
  refine xMet (by decide) (Nat.le_of_ble_eq_true rfl) (fun p e s m below meth c C hlk hr _ => ?_)
  show GW x p l e (rmd 1 0 0) s m [.ref (adr x a0), .long a1].toArray below meth c 3 (QI x K below [.ref (adr x a0), .long a1].toArray s 0 0) 0 [(0, .ref (adr x a0)), (1, .long a1)] [] w 0 0
  refine g_lload_n (pc := 0) C dX12_isWell_0 (q := 1) rfl ?_
  refine g_lconst (pc := 1) C dX12_isWell_1 (v := 0) rfl ?_
  refine g_aload_n (pc := 2) C dX12_isWell_2 (q := 0) rfl ?_
  obtain ⟨k1, h⟩ := h
  refine miX12_239 (pc := 3) C k1 h (Nat.le_of_ble_eq_true rfl) (Nat.le_of_ble_eq_true rfl) ⟨Nat.le_refl _, Nat.le_refl _⟩ dX12_isWell_3 (fun r2 w3 h => ?_)
  refine g_iconst (pc := 6) C dX12_isWell_6 (v := 1) rfl ?_
  refine g_isub (pc := 7) C dX12_isWell_7 ?_
  refine g_i2l (pc := 8) C dX12_isWell_8 ?_
  refine miX12_119 (pc := 9) C h (Nat.le_of_ble_eq_true rfl) (Nat.le_of_ble_eq_true rfl) ⟨Nat.le_refl _, Nat.le_refl _⟩ dX12_isWell_9 (fun r4 w5 h => ?_)
  exact g_zret (pc := 12) C hlk hr (Nat.le_refl _) (Nat.le_refl _) dX12_isWell_12 h.1 h.2
theorem miX12_302 (C : xC x p s m c cc nL args RX12) {a0 : Nat} {a1 : Int64} {K : Int32 → Wd → Prop} {D MC MS : Nat} (hq : isK w a0 12) (h : w_X12_isWell a0 a1 K w) (hD : 1 + 1 ≤ D) (hW : (st.map fun v => v.category).sum ≤ 8) (hij : i ≤ MC ∧ j ≤ MS) (hd : decode cc pc = .ok (.invokevirtual 302, 3)) (k : ∀ (r : Int32) (u : Wd), K r u → GW x p l e (rmd D MC MS) s m args below meth c nL Q (pc + 3) lo (.int r :: st) u i j) : GW x p l e (rmd D MC MS) s m args below meth c nL Q pc lo (.long a1 :: .ref (adr x a0) :: st) w i j := g_callVi0 C (As := [.long a1]) (ci := 12) (c_X12_isWell h) (x_cwV C 1 LMX12_302 ⟨rfl, by decide, by decide, rfl⟩ hD (by decide)) rfl hq (by decide) rfl rfl hW hd hij k
theorem miX12_316 (C : xC x p s m c cc nL args RX12) {a0 : Nat} {a1 : Int32} {a2 : Int32} {K : Int32 → Wd → Prop} {D MC MS : Nat} (hq : isK w a0 12) (h : w_X12_chainOf a0 a1 a2 K w) (hD : 5 + 1 ≤ D) (hW : (st.map fun v => v.category).sum ≤ 8) (hij : i ≤ MC ∧ j ≤ MS) (hd : decode cc pc = .ok (.invokevirtual 316, 3)) (k : ∀ (r : Int32) (u : Wd), K r u → GW x p l e (rmd D MC MS) s m args below meth c nL Q (pc + 3) lo (.int r :: st) u i j) : GW x p l e (rmd D MC MS) s m args below meth c nL Q pc lo (.int a2 :: .int a1 :: .ref (adr x a0) :: st) w i j := g_callVi0 C (As := [.int a1, .int a2]) (ci := 12) (c_X12_chainOf h) (x_cwV C 2 LMX12_316 ⟨rfl, by decide, by decide, rfl⟩ hD (by decide)) rfl hq (by decide) rfl rfl hW hd hij k
theorem miX12_402 (C : xC x p s m c cc nL args RX12) {a0 : Int32} {K : Int32 → Wd → Prop} {D MC MS : Nat} (h : w_X12_isNoise a0 K w) (hD : 1 + 1 ≤ D) (hW : (st.map fun v => v.category).sum ≤ 8) (hij : i ≤ MC ∧ j ≤ MS) (hd : decode cc pc = .ok (.invokestatic 402, 3)) (k : ∀ (r : Int32) (u : Wd), K r u → GW x p l e (rmd D MC MS) s m args below meth c nL Q (pc + 3) lo (.int r :: st) u i j) : GW x p l e (rmd D MC MS) s m args below meth c nL Q pc lo (.int a0 :: st) w i j := g_callSi0 C (As := [.int a0]) (c_X12_isNoise h) (x_cwS C 1 LMX12_402 ⟨by decide, by decide, rfl⟩ hD (by decide)) rfl rfl hW hd hij k
def w_X12_chain (a0 : Nat) (a1 : Int32) (a2 : Int32) (K : Int32 → Wd → Prop) (w : Wd) : Prop :=
  isK w a0 12 ∧ w_X12_isWell a0 a1.toInt64 (fun r2 w3 => ((r2 = 0 → isK w3 a0 12 ∧ (((wI (uI w3 a0 4 1) a0 4) ≤ 0 → w_X12_chainOf a0 a1 a2 (fun r18 w19 => K r18 w19) (uI w3 a0 4 1)) ∧ (¬ (wI (uI w3 a0 4 1) a0 4) ≤ 0 → K 0 (uI w3 a0 4 1)))) ∧ (¬ r2 = 0 → w_X12_isNoise a2 (fun r5 w6 => ((r5 = 0 → isK w6 a0 12 ∧ (((wI (uI w6 a0 4 2) a0 4) ≤ 0 → w_X12_chainOf a0 a1 a2 (fun r10 w11 => K r10 w11) (uI w6 a0 4 2)) ∧ (¬ (wI (uI w6 a0 4 2) a0 4) ≤ 0 → K 0 (uI w6 a0 4 2)))) ∧ (¬ r5 = 0 → isK w6 a0 12 ∧ (((wI (uI w6 a0 4 0) a0 4) ≤ 0 → w_X12_chainOf a0 a1 a2 (fun r14 w15 => K r14 w15) (uI w6 a0 4 0)) ∧ (¬ (wI (uI w6 a0 4 0) a0 4) ≤ 0 → K 0 (uI w6 a0 4 0)))))) w3))) w
theorem c_X12_chain {x : xG} {l : Launch} {a0 : Nat} {a1 : Int32} {a2 : Int32} {K : Int32 → Wd → Prop} {w : Wd} (h : w_X12_chain a0 a1 a2 K w) : Met l yX12_chain (xws yX12_chain cX12_chain 3 (some .int)) (rmd 6 0 0) (xPc x [.ref (adr x a0), .int a1, .int a2] w) (QcI x K) 0 0 (xA x) := by
  refine xMet (by decide) (Nat.le_of_ble_eq_true rfl) (fun p e s m below meth c C hlk hr _ => ?_)
  show GW x p l e (rmd 6 0 0) s m [.ref (adr x a0), .int a1, .int a2].toArray below meth c 3 (QI x K below [.ref (adr x a0), .int a1, .int a2].toArray s 0 0) 0 [(0, .ref (adr x a0)), (1, .int a1), (2, .int a2)] [] w 0 0
  refine g_aload_n (pc := 0) C dX12_chain_0 (q := 0) rfl ?_
  refine g_aload_n (pc := 1) C dX12_chain_1 (q := 0) rfl ?_
  refine g_iload_n (pc := 2) C dX12_chain_2 (q := 1) rfl ?_
  refine g_i2l (pc := 3) C dX12_chain_3 ?_
  obtain ⟨k1, h⟩ := h
  refine miX12_302 (pc := 4) C k1 h (Nat.le_of_ble_eq_true rfl) (Nat.le_of_ble_eq_true rfl) ⟨Nat.le_refl _, Nat.le_refl _⟩ dX12_chain_4 (fun r2 w3 h => ?_)
  refine g_if_ne (pc := 7) C dX12_chain_7 (tgt := 14) rfl (fun z4 => ?_) (fun z4 => ?_)
  · replace h := h.2 z4
    refine g_iload_n (pc := 14) C dX12_chain_14 (q := 2) rfl ?_
    refine miX12_402 (pc := 15) C h (Nat.le_of_ble_eq_true rfl) (Nat.le_of_ble_eq_true rfl) ⟨Nat.le_refl _, Nat.le_refl _⟩ dX12_chain_15 (fun r5 w6 h => ?_)
    refine g_if_eq (pc := 18) C dX12_chain_18 (tgt := 25) rfl (fun z7 => ?_) (fun z7 => ?_)
    · replace h := h.1 z7
      refine g_iconst (pc := 25) C dX12_chain_25 (v := 2) rfl ?_
      obtain ⟨k8, h⟩ := h
      refine pfX12_58 (pc := 26) C k8 dX12_chain_26 ?_
      refine g_aload_n (pc := 29) C dX12_chain_29 (q := 0) rfl ?_
      refine gfX12_58 (pc := 30) (w := uI w6 a0 4 2) C k8 dX12_chain_30 ?_
      refine g_if_le (pc := 33) C dX12_chain_33 (tgt := 40) rfl (fun z9 => ?_) (fun z9 => ?_)
      · replace h := h.1 z9
        refine g_aload_n (pc := 40) C dX12_chain_40 (q := 0) rfl ?_
        refine g_iload_n (pc := 41) C dX12_chain_41 (q := 1) rfl ?_
        refine g_iload_n (pc := 42) C dX12_chain_42 (q := 2) rfl ?_
        refine miX12_316 (pc := 43) (w := uI w6 a0 4 2) C k8 h (Nat.le_of_ble_eq_true rfl) (Nat.le_of_ble_eq_true rfl) ⟨Nat.le_refl _, Nat.le_refl _⟩ dX12_chain_43 (fun r10 w11 h => ?_)
        exact g_iret (pc := 46) C hlk hr (Nat.le_refl _) (Nat.le_refl _) dX12_chain_46 h
      · replace h := h.2 z9
        refine g_iconst (pc := 36) C dX12_chain_36 (v := 0) rfl ?_
        refine g_goto (pc := 37) C dX12_chain_37 (tgt := 46) rfl ?_
        exact g_iret (pc := 46) C hlk hr (Nat.le_refl _) (Nat.le_refl _) dX12_chain_46 h
    · replace h := h.2 z7
      refine g_iconst (pc := 21) C dX12_chain_21 (v := 0) rfl ?_
      refine g_goto (pc := 22) C dX12_chain_22 (tgt := 26) rfl ?_
      obtain ⟨k12, h⟩ := h
      refine pfX12_58 (pc := 26) C k12 dX12_chain_26 ?_
      refine g_aload_n (pc := 29) C dX12_chain_29 (q := 0) rfl ?_
      refine gfX12_58 (pc := 30) (w := uI w6 a0 4 0) C k12 dX12_chain_30 ?_
      refine g_if_le (pc := 33) C dX12_chain_33 (tgt := 40) rfl (fun z13 => ?_) (fun z13 => ?_)
      · replace h := h.1 z13
        refine g_aload_n (pc := 40) C dX12_chain_40 (q := 0) rfl ?_
        refine g_iload_n (pc := 41) C dX12_chain_41 (q := 1) rfl ?_
        refine g_iload_n (pc := 42) C dX12_chain_42 (q := 2) rfl ?_
        refine miX12_316 (pc := 43) (w := uI w6 a0 4 0) C k12 h (Nat.le_of_ble_eq_true rfl) (Nat.le_of_ble_eq_true rfl) ⟨Nat.le_refl _, Nat.le_refl _⟩ dX12_chain_43 (fun r14 w15 h => ?_)
        exact g_iret (pc := 46) C hlk hr (Nat.le_refl _) (Nat.le_refl _) dX12_chain_46 h
      · replace h := h.2 z13
        refine g_iconst (pc := 36) C dX12_chain_36 (v := 0) rfl ?_
        refine g_goto (pc := 37) C dX12_chain_37 (tgt := 46) rfl ?_
        exact g_iret (pc := 46) C hlk hr (Nat.le_refl _) (Nat.le_refl _) dX12_chain_46 h
  · replace h := h.1 z4
    refine g_iconst (pc := 10) C dX12_chain_10 (v := 1) rfl ?_
    refine g_goto (pc := 11) C dX12_chain_11 (tgt := 26) rfl ?_
    obtain ⟨k16, h⟩ := h
    refine pfX12_58 (pc := 26) C k16 dX12_chain_26 ?_
    refine g_aload_n (pc := 29) C dX12_chain_29 (q := 0) rfl ?_
    refine gfX12_58 (pc := 30) (w := uI w3 a0 4 1) C k16 dX12_chain_30 ?_
    refine g_if_le (pc := 33) C dX12_chain_33 (tgt := 40) rfl (fun z17 => ?_) (fun z17 => ?_)
    · replace h := h.1 z17
      refine g_aload_n (pc := 40) C dX12_chain_40 (q := 0) rfl ?_
      refine g_iload_n (pc := 41) C dX12_chain_41 (q := 1) rfl ?_
      refine g_iload_n (pc := 42) C dX12_chain_42 (q := 2) rfl ?_
      refine miX12_316 (pc := 43) (w := uI w3 a0 4 1) C k16 h (Nat.le_of_ble_eq_true rfl) (Nat.le_of_ble_eq_true rfl) ⟨Nat.le_refl _, Nat.le_refl _⟩ dX12_chain_43 (fun r18 w19 h => ?_)
      exact g_iret (pc := 46) C hlk hr (Nat.le_refl _) (Nat.le_refl _) dX12_chain_46 h
    · replace h := h.2 z17
      refine g_iconst (pc := 36) C dX12_chain_36 (v := 0) rfl ?_
      refine g_goto (pc := 37) C dX12_chain_37 (tgt := 46) rfl ?_
      exact g_iret (pc := 46) C hlk hr (Nat.le_refl _) (Nat.le_refl _) dX12_chain_46 h
def w_X12_fails (a0 : Nat) (a1 : Int32) (K : Int32 → Wd → Prop) (w : Wd) : Prop :=
  isK w a0 12 ∧ K 0 (uI w a0 4 a1)
theorem c_X12_fails {x : xG} {l : Launch} {a0 : Nat} {a1 : Int32} {K : Int32 → Wd → Prop} {w : Wd} (h : w_X12_fails a0 a1 K w) : Met l yX12_fails (xws yX12_fails cX12_fails 2 (some .int)) (rmd 0 0 0) (xPc x [.ref (adr x a0), .int a1] w) (QcI x K) 0 0 (xA x) := by
  refine xMet (by decide) (Nat.le_of_ble_eq_true rfl) (fun p e s m below meth c C hlk hr _ => ?_)
  show GW x p l e (rmd 0 0 0) s m [.ref (adr x a0), .int a1].toArray below meth c 2 (QI x K below [.ref (adr x a0), .int a1].toArray s 0 0) 0 [(0, .ref (adr x a0)), (1, .int a1)] [] w 0 0
  refine g_aload_n (pc := 0) C dX12_fails_0 (q := 0) rfl ?_
  refine g_iload_n (pc := 1) C dX12_fails_1 (q := 1) rfl ?_
  obtain ⟨k1, h⟩ := h
  refine pfX12_58 (pc := 2) C k1 dX12_fails_2 ?_
  refine g_iconst (pc := 5) C dX12_fails_5 (v := 0) rfl ?_
  exact g_iret (pc := 6) C hlk hr (Nat.le_refl _) (Nat.le_refl _) dX12_fails_6 h
theorem miX12_230 (C : xC x p s m c cc nL args RX12) {a0 : Nat} {a1 : Int32} {K : Int32 → Wd → Prop} {D MC MS : Nat} (hq : isK w a0 12) (h : w_X12_fails a0 a1 K w) (hD : 0 + 1 ≤ D) (hW : (st.map fun v => v.category).sum ≤ 8) (hij : i ≤ MC ∧ j ≤ MS) (hd : decode cc pc = .ok (.invokevirtual 230, 3)) (k : ∀ (r : Int32) (u : Wd), K r u → GW x p l e (rmd D MC MS) s m args below meth c nL Q (pc + 3) lo (.int r :: st) u i j) : GW x p l e (rmd D MC MS) s m args below meth c nL Q pc lo (.int a1 :: .ref (adr x a0) :: st) w i j := g_callVi0 C (As := [.int a1]) (ci := 12) (c_X12_fails h) (x_cwV C 1 LMX12_230 ⟨rfl, by decide, by decide, rfl⟩ hD (by decide)) rfl hq (by decide) rfl rfl hW hd hij k
theorem miX12_322 (C : xC x p s m c cc nL args RX12) {a0 : Nat} {K : Int32 → Wd → Prop} {D MC MS : Nat} (hq : isK w a0 12) (h : w_X12_allWells a0 K w) (hD : 1 + 1 ≤ D) (hW : (st.map fun v => v.category).sum ≤ 8) (hij : i ≤ MC ∧ j ≤ MS) (hd : decode cc pc = .ok (.invokevirtual 322, 3)) (k : ∀ (r : Int32) (u : Wd), K r u → GW x p l e (rmd D MC MS) s m args below meth c nL Q (pc + 3) lo (.int r :: st) u i j) : GW x p l e (rmd D MC MS) s m args below meth c nL Q pc lo (.ref (adr x a0) :: st) w i j := g_callVi0 C (As := []) (ci := 12) (c_X12_allWells h) (x_cwV C 0 LMX12_322 ⟨rfl, by decide, by decide, rfl⟩ hD (by decide)) rfl hq (by decide) rfl rfl hW hd hij k
theorem miX12_414 (C : xC x p s m c cc nL args RX12) {a0 : Nat} {a1 : Int32} {a2 : Int32} {K : Int32 → Wd → Prop} {D MC MS : Nat} (hq : isK w a0 12) (h : w_X12_areWoken a0 a1 a2 K w) (hD : 1 + 1 ≤ D) (hW : (st.map fun v => v.category).sum ≤ 8) (hij : i ≤ MC ∧ j ≤ MS) (hd : decode cc pc = .ok (.invokevirtual 414, 3)) (k : ∀ (r : Int32) (u : Wd), K r u → GW x p l e (rmd D MC MS) s m args below meth c nL Q (pc + 3) lo (.int r :: st) u i j) : GW x p l e (rmd D MC MS) s m args below meth c nL Q pc lo (.int a2 :: .int a1 :: .ref (adr x a0) :: st) w i j := g_callVi0 C (As := [.int a1, .int a2]) (ci := 12) (c_X12_areWoken h) (x_cwV C 2 LMX12_414 ⟨rfl, by decide, by decide, rfl⟩ hD (by decide)) rfl hq (by decide) rfl rfl hW hd hij k
def l_X12_chorus_37 (E66 : Nat → Int32 → Int32 → Wd → Prop) (K : Int32 → Wd → Prop) : Nat → Nat → Int32 → Int32 → Int32 → Int32 → Wd → Prop
  | 0, _, _, _, _, _, _ => False
  | n + 1, a0, a1, a2, a3, a4, w => isK w a0 12 ∧ w_X12_wells a0 (fun r15 w16 => ((r15 ≤ a4 → E66 a0 a2 a3 w16) ∧ (¬ r15 ≤ a4 → isK w16 a0 12 ∧ isK w16 (wR w16 a0 20) 20 ∧ w_X12_chainOf a0 a4 a1 (fun r20 w21 => isK w21 (wR w16 a0 20) 20 ∧ vp_in a4 (wn w21 (wR w16 a0 20)) ∧ l_X12_chorus_37 E66 K n a0 a1 a2 a3 (a4 + 1) (uI w21 (wR w16 a0 20) a4.toNatClampNeg r20)) w16))) w
def j_X12_chorus_106 (B : Nat → Int32 → Int32 → Int32 → Int32 → Wd → Prop) (E133 : Int32 → Int32 → Wd → Prop) (K : Int32 → Wd → Prop) (a0 : Nat) (a2 : Int32) (a3 : Int32) (a4 : Int32) (a5 : Int32) (w : Wd) : Prop :=
  isK w a0 12 ∧ w_X12_allWells a0 (fun r32 w33 => isK w33 a0 12 ∧ w_X12_areWoken a0 a5 (r32 &&& (a3 ^^^ (-1))) (fun r35 w36 => ((r35 = 0 → B a0 a2 a3 a4 (a5 + 1) w36) ∧ (¬ r35 = 0 → B a0 a2 a3 a5 (a5 + 1) w36))) w33) w
def l_X12_chorus_72 (E133 : Int32 → Int32 → Wd → Prop) (K : Int32 → Wd → Prop) : Nat → Nat → Int32 → Int32 → Int32 → Int32 → Wd → Prop
  | 0, _, _, _, _, _, _ => False
  | n + 1, a0, a2, a3, a4, a5, w => ((a3 < a5 → E133 a2 a4 w) ∧ (¬ a3 < a5 → (((a5 &&& (a3 ^^^ (-1))) = 0 → ((a4 = (-1) → j_X12_chorus_106 (l_X12_chorus_72 E133 K n) E133 K a0 a2 a3 a4 a5 w) ∧ (¬ a4 = (-1) → w_X12_size a5 (fun r38 w39 => w_X12_size a4 (fun r40 w41 => ((r40 ≤ r38 → l_X12_chorus_72 E133 K n a0 a2 a3 a4 (a5 + 1) w41) ∧ (¬ r40 ≤ r38 → j_X12_chorus_106 (l_X12_chorus_72 E133 K n) E133 K a0 a2 a3 a4 a5 w41))) w39) w))) ∧ (¬ (a5 &&& (a3 ^^^ (-1))) = 0 → l_X12_chorus_72 E133 K n a0 a2 a3 a4 (a5 + 1) w))))
def w_X12_chorus (a0 : Nat) (a1 : Int32) (a2 : Int32) (K : Int32 → Wd → Prop) (w : Wd) : Prop :=
  isK w a0 12 ∧ w_X12_isNoise a1 (fun r2 w3 => ((r2 = 0 → isK w3 a0 12 ∧ w_X12_fails a0 1 (fun r6 w7 => K r6 w7) w3) ∧ (¬ r2 = 0 → w_X12_within a2.toInt64 0 1 (fun r8 w9 => ((r8 = 0 → isK w9 a0 12 ∧ w_X12_fails a0 1 (fun r53 w54 => K r53 w54) w9) ∧ (¬ r8 = 0 → isK w9 a0 12 ∧ w_X12_upIn a0 0 (fun r12 w13 => ∃ n51, l_X12_chorus_37 (fun b24 b25 b26 w27 => ∃ n50, l_X12_chorus_72 (fun b43 b44 w45 => ((b44 = (-1) → K b44 w45) ∧ (¬ b44 = (-1) → ((b43 = 1 → K b44 w45) ∧ (¬ b43 = 1 → w_X12_size b44 (fun r48 w49 => K r48 w49) w45))))) K n50 b24 b25 b26 (-1) 0 w27) K n51 a0 a1 a2 r12 0 w13) w9))) w3))) (uI w a0 4 0)
theorem t_X12_chorus_37 (C : xC x p s m c cX12_chorus 6 args RX12) (hlk : meth.locks = false) (hr : meth.sig.returnType = some .int) {K : Int32 → Wd → Prop} {E66 : Nat → Int32 → Int32 → Wd → Prop} (hE66 : ∀ (b0 : Nat) (b2 : Int32) (b3 : Int32) (w : Wd), E66 b0 b2 b3 w → GW x p l e (rmd 6 0 0) s m args below meth c 6 (QI x K below args s 0 0) 66 [(0, .ref (adr x b0)), (2, .int b2), (3, .int b3)] [] w 0 0) : ∀ (n : Nat) (a0 : Nat) (a1 : Int32) (a2 : Int32) (a3 : Int32) (a4 : Int32) (w : Wd), l_X12_chorus_37 E66 K n a0 a1 a2 a3 a4 w → GW x p l e (rmd 6 0 0) s m args below meth c 6 (QI x K below args s 0 0) 37 [(0, .ref (adr x a0)), (1, .int a1), (2, .int a2), (3, .int a3), (4, .int a4)] [] w 0 0 := by
  intro n
  induction n with
  | zero => intro _ _ _ _ _ _ h; exact False.elim h
  | succ n ih =>
    intro a0 a1 a2 a3 a4 w h
    refine g_iload (pc := 37) C dX12_chorus_37 (q := 4) rfl ?_
    refine g_aload_n (pc := 39) C dX12_chorus_39 (q := 0) rfl ?_
    obtain ⟨k14, h⟩ := h
    refine miX12_239 (pc := 40) C k14 h (Nat.le_of_ble_eq_true rfl) (Nat.le_of_ble_eq_true rfl) ⟨Nat.le_refl _, Nat.le_refl _⟩ dX12_chorus_40 (fun r15 w16 h => ?_)
    refine g_icmp_ge (pc := 43) C dX12_chorus_43 (tgt := 66) rfl (fun z17 => ?_) (fun z17 => ?_)
    · replace h := h.1 z17
      refine g_sub [0, 2, 3] rfl ?_
      exact hE66 _ _ _ _ h
    · replace h := h.2 z17
      refine g_aload_n (pc := 46) C dX12_chorus_46 (q := 0) rfl ?_
      obtain ⟨k18, h⟩ := h
      obtain ⟨k19, h⟩ := h
      refine gfX12_36 (pc := 47) C k18 (isK_ne k19) dX12_chorus_47 ?_
      refine g_iload (pc := 50) C dX12_chorus_50 (q := 4) rfl ?_
      refine g_aload_n (pc := 52) C dX12_chorus_52 (q := 0) rfl ?_
      refine g_iload (pc := 53) C dX12_chorus_53 (q := 4) rfl ?_
      refine g_iload_n (pc := 55) C dX12_chorus_55 (q := 1) rfl ?_
      refine miX12_316 (pc := 56) C k18 h (Nat.le_of_ble_eq_true rfl) (Nat.le_of_ble_eq_true rfl) ⟨Nat.le_refl _, Nat.le_refl _⟩ dX12_chorus_56 (fun r20 w21 h => ?_)
      obtain ⟨k22, h⟩ := h
      obtain ⟨k23, h⟩ := h
      refine g_iast (pc := 59) C k22 k23 dX12_chorus_59 ?_
      refine g_iinc (pc := 60) C dX12_chorus_60 (q := 4) rfl (v2 := a4 + 1) rfl (Nat.le_of_ble_eq_true rfl) (lo' := [(4, .int (a4 + 1)), (0, .ref (adr x a0)), (1, .int a1), (2, .int a2), (3, .int a3)]) rfl ?_
      refine g_goto (pc := 63) C dX12_chorus_63 (tgt := 37) rfl ?_
      refine g_sub [1, 2, 3, 4, 0] rfl ?_
      exact ih _ _ _ _ _ _ h
theorem t_X12_chorus_106 (C : xC x p s m c cX12_chorus 6 args RX12) (hlk : meth.locks = false) (hr : meth.sig.returnType = some .int) {K : Int32 → Wd → Prop} {B : Nat → Int32 → Int32 → Int32 → Int32 → Wd → Prop} {E133 : Int32 → Int32 → Wd → Prop} (hB : ∀ (b0 : Nat) (b2 : Int32) (b3 : Int32) (b4 : Int32) (b5 : Int32) (w : Wd), B b0 b2 b3 b4 b5 w → GW x p l e (rmd 6 0 0) s m args below meth c 6 (QI x K below args s 0 0) 72 [(0, .ref (adr x b0)), (2, .int b2), (3, .int b3), (4, .int b4), (5, .int b5)] [] w 0 0) (hE133 : ∀ (b2 : Int32) (b4 : Int32) (w : Wd), E133 b2 b4 w → GW x p l e (rmd 6 0 0) s m args below meth c 6 (QI x K below args s 0 0) 133 [(2, .int b2), (4, .int b4)] [] w 0 0) (a0 : Nat) (a2 : Int32) (a3 : Int32) (a4 : Int32) (a5 : Int32) (w : Wd) (h : j_X12_chorus_106 B E133 K a0 a2 a3 a4 a5 w) : GW x p l e (rmd 6 0 0) s m args below meth c 6 (QI x K below args s 0 0) 106 [(0, .ref (adr x a0)), (2, .int a2), (3, .int a3), (4, .int a4), (5, .int a5)] [] w 0 0 := by
  refine g_aload_n (pc := 106) C dX12_chorus_106 (q := 0) rfl ?_
  refine g_iload (pc := 107) C dX12_chorus_107 (q := 4) rfl ?_
  refine g_aload_n (pc := 109) C dX12_chorus_109 (q := 0) rfl ?_
  obtain ⟨k31, h⟩ := h
  refine miX12_322 (pc := 110) C k31 h (Nat.le_of_ble_eq_true rfl) (Nat.le_of_ble_eq_true rfl) ⟨Nat.le_refl _, Nat.le_refl _⟩ dX12_chorus_110 (fun r32 w33 h => ?_)
  refine g_iload_n (pc := 113) C dX12_chorus_113 (q := 2) rfl ?_
  refine g_iconst (pc := 114) C dX12_chorus_114 (v := (-1)) rfl ?_
  refine g_ixor (pc := 115) C dX12_chorus_115 ?_
  refine g_iand (pc := 116) C dX12_chorus_116 ?_
  obtain ⟨k34, h⟩ := h
  refine miX12_414 (pc := 117) C k34 h (Nat.le_of_ble_eq_true rfl) (Nat.le_of_ble_eq_true rfl) ⟨Nat.le_refl _, Nat.le_refl _⟩ dX12_chorus_117 (fun r35 w36 h => ?_)
  refine g_if_eq (pc := 120) C dX12_chorus_120 (tgt := 127) rfl (fun z37 => ?_) (fun z37 => ?_)
  · replace h := h.1 z37
    refine g_iinc (pc := 127) C dX12_chorus_127 (q := 4) rfl (v2 := a5 + 1) rfl (Nat.le_of_ble_eq_true rfl) (lo' := [(5, .int (a5 + 1)), (0, .ref (adr x a0)), (2, .int a2), (3, .int a3), (4, .int a4)]) rfl ?_
    refine g_goto (pc := 130) C dX12_chorus_130 (tgt := 72) rfl ?_
    refine g_sub [1, 2, 3, 4, 0] rfl ?_
    exact hB _ _ _ _ _ _ h
  · replace h := h.2 z37
    refine g_iload (pc := 123) C dX12_chorus_123 (q := 4) rfl ?_
    refine g_istore (pc := 125) C dX12_chorus_125 (Nat.le_of_ble_eq_true rfl) (lo' := [(4, .int a5), (0, .ref (adr x a0)), (2, .int a2), (3, .int a3), (5, .int a5)]) rfl ?_
    refine g_iinc (pc := 127) C dX12_chorus_127 (q := 4) rfl (v2 := a5 + 1) rfl (Nat.le_of_ble_eq_true rfl) (lo' := [(5, .int (a5 + 1)), (4, .int a5), (0, .ref (adr x a0)), (2, .int a2), (3, .int a3)]) rfl ?_
    refine g_goto (pc := 130) C dX12_chorus_130 (tgt := 72) rfl ?_
    refine g_sub [2, 3, 4, 1, 0] rfl ?_
    exact hB _ _ _ _ _ _ h
theorem t_X12_chorus_72 (C : xC x p s m c cX12_chorus 6 args RX12) (hlk : meth.locks = false) (hr : meth.sig.returnType = some .int) {K : Int32 → Wd → Prop} {E133 : Int32 → Int32 → Wd → Prop} (hE133 : ∀ (b2 : Int32) (b4 : Int32) (w : Wd), E133 b2 b4 w → GW x p l e (rmd 6 0 0) s m args below meth c 6 (QI x K below args s 0 0) 133 [(2, .int b2), (4, .int b4)] [] w 0 0) : ∀ (n : Nat) (a0 : Nat) (a2 : Int32) (a3 : Int32) (a4 : Int32) (a5 : Int32) (w : Wd), l_X12_chorus_72 E133 K n a0 a2 a3 a4 a5 w → GW x p l e (rmd 6 0 0) s m args below meth c 6 (QI x K below args s 0 0) 72 [(0, .ref (adr x a0)), (2, .int a2), (3, .int a3), (4, .int a4), (5, .int a5)] [] w 0 0 := by
  intro n
  induction n with
  | zero => intro _ _ _ _ _ _ h; exact False.elim h
  | succ n ih =>
    intro a0 a2 a3 a4 a5 w h
    refine g_iload (pc := 72) C dX12_chorus_72 (q := 4) rfl ?_
    refine g_iload_n (pc := 74) C dX12_chorus_74 (q := 2) rfl ?_
    refine g_icmp_gt (pc := 75) C dX12_chorus_75 (tgt := 133) rfl (fun z28 => ?_) (fun z28 => ?_)
    · replace h := h.1 z28
      refine g_sub [1, 3] rfl ?_
      exact hE133 _ _ _ h
    · replace h := h.2 z28
      refine g_iload (pc := 78) C dX12_chorus_78 (q := 4) rfl ?_
      refine g_iload_n (pc := 80) C dX12_chorus_80 (q := 2) rfl ?_
      refine g_iconst (pc := 81) C dX12_chorus_81 (v := (-1)) rfl ?_
      refine g_ixor (pc := 82) C dX12_chorus_82 ?_
      refine g_iand (pc := 83) C dX12_chorus_83 ?_
      refine g_if_ne (pc := 84) C dX12_chorus_84 (tgt := 127) rfl (fun z29 => ?_) (fun z29 => ?_)
      · replace h := h.2 z29
        refine g_iinc (pc := 127) C dX12_chorus_127 (q := 4) rfl (v2 := a5 + 1) rfl (Nat.le_of_ble_eq_true rfl) (lo' := [(5, .int (a5 + 1)), (0, .ref (adr x a0)), (2, .int a2), (3, .int a3), (4, .int a4)]) rfl ?_
        refine g_goto (pc := 130) C dX12_chorus_130 (tgt := 72) rfl ?_
        refine g_sub [1, 2, 3, 4, 0] rfl ?_
        exact ih _ _ _ _ _ _ h
      · replace h := h.1 z29
        refine g_iload (pc := 87) C dX12_chorus_87 (q := 3) rfl ?_
        refine g_iconst (pc := 89) C dX12_chorus_89 (v := (-1)) rfl ?_
        refine g_icmp_eq (pc := 90) C dX12_chorus_90 (tgt := 106) rfl (fun z30 => ?_) (fun z30 => ?_)
        · replace h := h.1 z30
          exact t_X12_chorus_106 C hlk hr ih hE133 _ _ _ _ _ _ h
        · replace h := h.2 z30
          refine g_iload (pc := 93) C dX12_chorus_93 (q := 4) rfl ?_
          refine miX12_265 (pc := 95) C h (Nat.le_of_ble_eq_true rfl) (Nat.le_of_ble_eq_true rfl) ⟨Nat.le_refl _, Nat.le_refl _⟩ dX12_chorus_95 (fun r38 w39 h => ?_)
          refine g_iload (pc := 98) C dX12_chorus_98 (q := 3) rfl ?_
          refine miX12_265 (pc := 100) C h (Nat.le_of_ble_eq_true rfl) (Nat.le_of_ble_eq_true rfl) ⟨Nat.le_refl _, Nat.le_refl _⟩ dX12_chorus_100 (fun r40 w41 h => ?_)
          refine g_icmp_ge (pc := 103) C dX12_chorus_103 (tgt := 127) rfl (fun z42 => ?_) (fun z42 => ?_)
          · replace h := h.1 z42
            refine g_iinc (pc := 127) C dX12_chorus_127 (q := 4) rfl (v2 := a5 + 1) rfl (Nat.le_of_ble_eq_true rfl) (lo' := [(5, .int (a5 + 1)), (0, .ref (adr x a0)), (2, .int a2), (3, .int a3), (4, .int a4)]) rfl ?_
            refine g_goto (pc := 130) C dX12_chorus_130 (tgt := 72) rfl ?_
            refine g_sub [1, 2, 3, 4, 0] rfl ?_
            exact ih _ _ _ _ _ _ h
          · replace h := h.2 z42
            exact t_X12_chorus_106 C hlk hr ih hE133 _ _ _ _ _ _ h
theorem c_X12_chorus {x : xG} {l : Launch} {a0 : Nat} {a1 : Int32} {a2 : Int32} {K : Int32 → Wd → Prop} {w : Wd} (h : w_X12_chorus a0 a1 a2 K w) : Met l yX12_chorus (xws yX12_chorus cX12_chorus 6 (some .int)) (rmd 6 0 0) (xPc x [.ref (adr x a0), .int a1, .int a2] w) (QcI x K) 0 0 (xA x) := by
  refine xMet (by decide) (Nat.le_of_ble_eq_true rfl) (fun p e s m below meth c C hlk hr _ => ?_)
  show GW x p l e (rmd 6 0 0) s m [.ref (adr x a0), .int a1, .int a2].toArray below meth c 6 (QI x K below [.ref (adr x a0), .int a1, .int a2].toArray s 0 0) 0 [(0, .ref (adr x a0)), (1, .int a1), (2, .int a2)] [] w 0 0
  refine g_aload_n (pc := 0) C dX12_chorus_0 (q := 0) rfl ?_
  refine g_iconst (pc := 1) C dX12_chorus_1 (v := 0) rfl ?_
  obtain ⟨k1, h⟩ := h
  refine pfX12_58 (pc := 2) C k1 dX12_chorus_2 ?_
  refine g_iload_n (pc := 5) C dX12_chorus_5 (q := 1) rfl ?_
  refine miX12_402 (pc := 6) (w := uI w a0 4 0) C h (Nat.le_of_ble_eq_true rfl) (Nat.le_of_ble_eq_true rfl) ⟨Nat.le_refl _, Nat.le_refl _⟩ dX12_chorus_6 (fun r2 w3 h => ?_)
  refine g_if_eq (pc := 9) C dX12_chorus_9 (tgt := 22) rfl (fun z4 => ?_) (fun z4 => ?_)
  · replace h := h.1 z4
    refine g_aload_n (pc := 22) C dX12_chorus_22 (q := 0) rfl ?_
    refine g_iconst (pc := 23) C dX12_chorus_23 (v := 1) rfl ?_
    obtain ⟨k5, h⟩ := h
    refine miX12_230 (pc := 24) C k5 h (Nat.le_of_ble_eq_true rfl) (Nat.le_of_ble_eq_true rfl) ⟨Nat.le_refl _, Nat.le_refl _⟩ dX12_chorus_24 (fun r6 w7 h => ?_)
    exact g_iret (pc := 27) C hlk hr (Nat.le_refl _) (Nat.le_refl _) dX12_chorus_27 h
  · replace h := h.2 z4
    refine g_iload_n (pc := 12) C dX12_chorus_12 (q := 2) rfl ?_
    refine g_i2l (pc := 13) C dX12_chorus_13 ?_
    refine g_lconst (pc := 14) C dX12_chorus_14 (v := 0) rfl ?_
    refine g_lconst (pc := 15) C dX12_chorus_15 (v := 1) rfl ?_
    refine miX12_119 (pc := 16) C h (Nat.le_of_ble_eq_true rfl) (Nat.le_of_ble_eq_true rfl) ⟨Nat.le_refl _, Nat.le_refl _⟩ dX12_chorus_16 (fun r8 w9 h => ?_)
    refine g_if_ne (pc := 19) C dX12_chorus_19 (tgt := 28) rfl (fun z10 => ?_) (fun z10 => ?_)
    · replace h := h.2 z10
      refine g_aload_n (pc := 28) C dX12_chorus_28 (q := 0) rfl ?_
      refine g_iconst (pc := 29) C dX12_chorus_29 (v := 0) rfl ?_
      obtain ⟨k11, h⟩ := h
      refine miX12_294 (pc := 30) C k11 h (Nat.le_of_ble_eq_true rfl) (Nat.le_of_ble_eq_true rfl) ⟨Nat.le_refl _, Nat.le_refl _⟩ dX12_chorus_30 (fun r12 w13 h => ?_)
      refine g_istore_n (pc := 33) C dX12_chorus_33 (Nat.le_of_ble_eq_true rfl) (lo' := [(3, .int r12), (0, .ref (adr x a0)), (1, .int a1), (2, .int a2)]) rfl ?_
      refine g_iconst (pc := 34) C dX12_chorus_34 (v := 0) rfl ?_
      refine g_istore (pc := 35) C dX12_chorus_35 (Nat.le_of_ble_eq_true rfl) (lo' := [(4, .int 0), (3, .int r12), (0, .ref (adr x a0)), (1, .int a1), (2, .int a2)]) rfl ?_
      obtain ⟨n51, h⟩ := h
      refine g_sub [2, 3, 4, 1, 0] rfl ?_
      refine t_X12_chorus_37 C hlk hr ?_ n51 _ _ _ _ _ _ h
      · intro b24 b25 b26 w27 h
        refine g_iconst (pc := 66) C dX12_chorus_66 (v := (-1)) rfl ?_
        refine g_istore (pc := 67) C dX12_chorus_67 (Nat.le_of_ble_eq_true rfl) (lo' := [(4, .int (-1)), (0, .ref (adr x b24)), (2, .int b25), (3, .int b26)]) rfl ?_
        refine g_iconst (pc := 69) C dX12_chorus_69 (v := 0) rfl ?_
        refine g_istore (pc := 70) C dX12_chorus_70 (Nat.le_of_ble_eq_true rfl) (lo' := [(5, .int 0), (4, .int (-1)), (0, .ref (adr x b24)), (2, .int b25), (3, .int b26)]) rfl ?_
        obtain ⟨n50, h⟩ := h
        refine g_sub [2, 3, 4, 1, 0] rfl ?_
        refine t_X12_chorus_72 C hlk hr ?_ n50 _ _ _ _ _ _ h
        · intro b43 b44 w45 h
          refine g_iload (pc := 133) C dX12_chorus_133 (q := 1) rfl ?_
          refine g_iconst (pc := 135) C dX12_chorus_135 (v := (-1)) rfl ?_
          refine g_icmp_eq (pc := 136) C dX12_chorus_136 (tgt := 144) rfl (fun z46 => ?_) (fun z46 => ?_)
          · replace h := h.1 z46
            refine g_iload (pc := 144) C dX12_chorus_144 (q := 1) rfl ?_
            refine g_goto (pc := 146) C dX12_chorus_146 (tgt := 154) rfl ?_
            exact g_iret (pc := 154) C hlk hr (Nat.le_refl _) (Nat.le_refl _) dX12_chorus_154 h
          · replace h := h.2 z46
            refine g_iload_n (pc := 139) C dX12_chorus_139 (q := 0) rfl ?_
            refine g_iconst (pc := 140) C dX12_chorus_140 (v := 1) rfl ?_
            refine g_icmp_ne (pc := 141) C dX12_chorus_141 (tgt := 149) rfl (fun z47 => ?_) (fun z47 => ?_)
            · replace h := h.2 z47
              refine g_iload (pc := 149) C dX12_chorus_149 (q := 1) rfl ?_
              refine miX12_265 (pc := 151) C h (Nat.le_of_ble_eq_true rfl) (Nat.le_of_ble_eq_true rfl) ⟨Nat.le_refl _, Nat.le_refl _⟩ dX12_chorus_151 (fun r48 w49 h => ?_)
              exact g_iret (pc := 154) C hlk hr (Nat.le_refl _) (Nat.le_refl _) dX12_chorus_154 h
            · replace h := h.1 z47
              refine g_iload (pc := 144) C dX12_chorus_144 (q := 1) rfl ?_
              refine g_goto (pc := 146) C dX12_chorus_146 (tgt := 154) rfl ?_
              exact g_iret (pc := 154) C hlk hr (Nat.le_refl _) (Nat.le_refl _) dX12_chorus_154 h
    · replace h := h.1 z10
      refine g_aload_n (pc := 22) C dX12_chorus_22 (q := 0) rfl ?_
      refine g_iconst (pc := 23) C dX12_chorus_23 (v := 1) rfl ?_
      obtain ⟨k52, h⟩ := h
      refine miX12_230 (pc := 24) C k52 h (Nat.le_of_ble_eq_true rfl) (Nat.le_of_ble_eq_true rfl) ⟨Nat.le_refl _, Nat.le_refl _⟩ dX12_chorus_24 (fun r53 w54 h => ?_)
      exact g_iret (pc := 27) C hlk hr (Nat.le_refl _) (Nat.le_refl _) dX12_chorus_27 h
def w_X12_shiftsTo (a0 : Nat) (a1 : Int32) (a2 : Int32) (K : Wd → Prop) (w : Wd) : Prop :=
  isK w a0 12 ∧ isK w (wR w a0 0) 20 ∧ vp_in (27 + a1) (wn w (wR w a0 0)) ∧ vp_in 26 (wn w (wR w a0 0)) ∧ ¬ (wI w (wR w a0 0) (27 + a1).toNatClampNeg) = 0 ∧ ¬ (wI w (wR w a0 0) (27 + a1).toNatClampNeg) = 0 ∧ vp_in (5 + a1) (wn w (wR w a0 0)) ∧ K (uI w (wR w a0 0) (5 + a1).toNatClampNeg (x_irem ((x_irem (a2 - (wI w (wR w a0 0) (26 : Int32).toNatClampNeg)) (wI w (wR w a0 0) (27 + a1).toNatClampNeg)) + (wI w (wR w a0 0) (27 + a1).toNatClampNeg)) (wI w (wR w a0 0) (27 + a1).toNatClampNeg)))
theorem c_X12_shiftsTo {x : xG} {l : Launch} {a0 : Nat} {a1 : Int32} {a2 : Int32} {K : Wd → Prop} {w : Wd} (h : w_X12_shiftsTo a0 a1 a2 K w) : Met l yX12_shiftsTo (xws yX12_shiftsTo cX12_shiftsTo 4 none) (rmd 0 0 0) (xPc x [.ref (adr x a0), .int a1, .int a2] w) (QcV x K) 0 0 (xA x) := by
  refine xMet (by decide) (Nat.le_of_ble_eq_true rfl) (fun p e s m below meth c C hlk hr _ => ?_)
  show GW x p l e (rmd 0 0 0) s m [.ref (adr x a0), .int a1, .int a2].toArray below meth c 4 (QV x K below [.ref (adr x a0), .int a1, .int a2].toArray s 0 0) 0 [(0, .ref (adr x a0)), (1, .int a1), (2, .int a2)] [] w 0 0
  refine g_aload_n (pc := 0) C dX12_shiftsTo_0 (q := 0) rfl ?_
  obtain ⟨k1, h⟩ := h
  obtain ⟨k2, h⟩ := h
  refine gfX12_9 (pc := 1) C k1 (isK_ne k2) dX12_shiftsTo_1 ?_
  refine g_bipush (pc := 4) C dX12_shiftsTo_4 (v := 27) rfl ?_
  refine g_iload_n (pc := 6) C dX12_shiftsTo_6 (q := 1) rfl ?_
  refine g_iadd (pc := 7) C dX12_shiftsTo_7 ?_
  obtain ⟨k3, h⟩ := h
  refine g_iald (pc := 8) C k2 k3 dX12_shiftsTo_8 ?_
  refine g_istore_n (pc := 9) C dX12_shiftsTo_9 (Nat.le_of_ble_eq_true rfl) (lo' := [(3, .int (wI w (wR w a0 0) (27 + a1).toNatClampNeg)), (0, .ref (adr x a0)), (1, .int a1), (2, .int a2)]) rfl ?_
  refine g_aload_n (pc := 10) C dX12_shiftsTo_10 (q := 1) rfl ?_
  refine gfX12_9 (pc := 11) C k1 (isK_ne k2) dX12_shiftsTo_11 ?_
  refine g_iconst (pc := 14) C dX12_shiftsTo_14 (v := 5) rfl ?_
  refine g_iload_n (pc := 15) C dX12_shiftsTo_15 (q := 2) rfl ?_
  refine g_iadd (pc := 16) C dX12_shiftsTo_16 ?_
  refine g_iload_n (pc := 17) C dX12_shiftsTo_17 (q := 3) rfl ?_
  refine g_aload_n (pc := 18) C dX12_shiftsTo_18 (q := 1) rfl ?_
  refine gfX12_9 (pc := 19) C k1 (isK_ne k2) dX12_shiftsTo_19 ?_
  refine g_bipush (pc := 22) C dX12_shiftsTo_22 (v := 26) rfl ?_
  obtain ⟨k4, h⟩ := h
  refine g_iald (pc := 24) C k2 k4 dX12_shiftsTo_24 ?_
  refine g_isub (pc := 25) C dX12_shiftsTo_25 ?_
  refine g_iload_n (pc := 26) C dX12_shiftsTo_26 (q := 0) rfl ?_
  obtain ⟨k5, h⟩ := h
  refine h_irem (pc := 27) C dX12_shiftsTo_27 k5 ?_
  refine g_iload_n (pc := 28) C dX12_shiftsTo_28 (q := 0) rfl ?_
  refine g_iadd (pc := 29) C dX12_shiftsTo_29 ?_
  refine g_iload_n (pc := 30) C dX12_shiftsTo_30 (q := 0) rfl ?_
  obtain ⟨k6, h⟩ := h
  refine h_irem (pc := 31) C dX12_shiftsTo_31 k6 ?_
  obtain ⟨k7, h⟩ := h
  refine g_iast (pc := 32) C k2 k7 dX12_shiftsTo_32 ?_
  exact g_vret (pc := 33) C hlk hr (Nat.le_refl _) (Nat.le_refl _) dX12_shiftsTo_33 h
theorem miX12_290 (C : xC x p s m c cc nL args RX12) {a0 : Nat} {a1 : Int32} {a2 : Int32} {K : Wd → Prop} {D MC MS : Nat} (hq : isK w a0 12) (h : w_X12_shiftsTo a0 a1 a2 K w) (hD : 0 + 1 ≤ D) (hW : (st.map fun v => v.category).sum ≤ 8) (hij : i ≤ MC ∧ j ≤ MS) (hd : decode cc pc = .ok (.invokevirtual 290, 3)) (k : ∀ (u : Wd), K u → GW x p l e (rmd D MC MS) s m args below meth c nL Q (pc + 3) lo st u i j) : GW x p l e (rmd D MC MS) s m args below meth c nL Q pc lo (.int a2 :: .int a1 :: .ref (adr x a0) :: st) w i j := g_callVv0 C (As := [.int a1, .int a2]) (ci := 12) (c_X12_shiftsTo h) (x_cwV C 2 LMX12_290 ⟨rfl, by decide, by decide, rfl⟩ hD (by decide)) rfl hq (by decide) rfl rfl hW hd hij k
def l_X12_wake_2 (E30 : Nat → Int32 → Wd → Prop) (K : Int32 → Wd → Prop) : Nat → Nat → Int32 → Int32 → Wd → Prop
  | 0, _, _, _, _ => False
  | n + 1, a0, a1, a2, w => isK w a0 12 ∧ w_X12_wells a0 (fun r2 w3 => ((r2 ≤ a2 → E30 a0 a1 w3) ∧ (¬ r2 ≤ a2 → w_X12_has a1 a2 (fun r5 w6 => ((r5 = 0 → l_X12_wake_2 E30 K n a0 a1 (a2 + 1) w6) ∧ (¬ r5 = 0 → isK w6 a0 12 ∧ w_X12_shiftsTo a0 a2 0 (fun w9 => l_X12_wake_2 E30 K n a0 a1 (a2 + 1) w9) w6))) w3))) w
def w_X12_wake (a0 : Nat) (a1 : Int32) (K : Int32 → Wd → Prop) (w : Wd) : Prop :=
  ∃ n24, l_X12_wake_2 (fun b10 b11 w12 => w_X12_size b11 (fun r13 w14 => ((r13 ≤ 1 → w_X12_size b11 (fun r16 w17 => K r16 w17) w14) ∧ (¬ r13 ≤ 1 → isK w14 b10 12 ∧ isK w14 (wR w14 b10 0) 20 ∧ vp_in 25 (wn w14 (wR w14 b10 0)) ∧ vp_in 25 (wn w14 (wR w14 b10 0)) ∧ w_X12_size b11 (fun r22 w23 => K r22 w23) (uI w14 (wR w14 b10 0) (25 : Int32).toNatClampNeg ((wI w14 (wR w14 b10 0) (25 : Int32).toNatClampNeg) ||| b11))))) w12) K n24 a0 a1 0 w
theorem t_X12_wake_2 (C : xC x p s m c cX12_wake 3 args RX12) (hlk : meth.locks = false) (hr : meth.sig.returnType = some .int) {K : Int32 → Wd → Prop} {E30 : Nat → Int32 → Wd → Prop} (hE30 : ∀ (b0 : Nat) (b1 : Int32) (w : Wd), E30 b0 b1 w → GW x p l e (rmd 1 0 0) s m args below meth c 3 (QI x K below args s 0 0) 30 [(0, .ref (adr x b0)), (1, .int b1)] [] w 0 0) : ∀ (n : Nat) (a0 : Nat) (a1 : Int32) (a2 : Int32) (w : Wd), l_X12_wake_2 E30 K n a0 a1 a2 w → GW x p l e (rmd 1 0 0) s m args below meth c 3 (QI x K below args s 0 0) 2 [(0, .ref (adr x a0)), (1, .int a1), (2, .int a2)] [] w 0 0 := by
  intro n
  induction n with
  | zero => intro _ _ _ _ h; exact False.elim h
  | succ n ih =>
    intro a0 a1 a2 w h
    refine g_iload_n (pc := 2) C dX12_wake_2 (q := 2) rfl ?_
    refine g_aload_n (pc := 3) C dX12_wake_3 (q := 0) rfl ?_
    obtain ⟨k1, h⟩ := h
    refine miX12_239 (pc := 4) C k1 h (Nat.le_of_ble_eq_true rfl) (Nat.le_of_ble_eq_true rfl) ⟨Nat.le_refl _, Nat.le_refl _⟩ dX12_wake_4 (fun r2 w3 h => ?_)
    refine g_icmp_ge (pc := 7) C dX12_wake_7 (tgt := 30) rfl (fun z4 => ?_) (fun z4 => ?_)
    · replace h := h.1 z4
      refine g_sub [0, 1] rfl ?_
      exact hE30 _ _ _ h
    · replace h := h.2 z4
      refine g_iload_n (pc := 10) C dX12_wake_10 (q := 1) rfl ?_
      refine g_iload_n (pc := 11) C dX12_wake_11 (q := 2) rfl ?_
      refine miX12_268 (pc := 12) C h (Nat.le_of_ble_eq_true rfl) (Nat.le_of_ble_eq_true rfl) ⟨Nat.le_refl _, Nat.le_refl _⟩ dX12_wake_12 (fun r5 w6 h => ?_)
      refine g_if_eq (pc := 15) C dX12_wake_15 (tgt := 24) rfl (fun z7 => ?_) (fun z7 => ?_)
      · replace h := h.1 z7
        refine g_iinc (pc := 24) C dX12_wake_24 (q := 2) rfl (v2 := a2 + 1) rfl (Nat.le_of_ble_eq_true rfl) (lo' := [(2, .int (a2 + 1)), (0, .ref (adr x a0)), (1, .int a1)]) rfl ?_
        refine g_goto (pc := 27) C dX12_wake_27 (tgt := 2) rfl ?_
        refine g_sub [1, 2, 0] rfl ?_
        exact ih _ _ _ _ h
      · replace h := h.2 z7
        refine g_aload_n (pc := 18) C dX12_wake_18 (q := 0) rfl ?_
        refine g_iload_n (pc := 19) C dX12_wake_19 (q := 2) rfl ?_
        refine g_iconst (pc := 20) C dX12_wake_20 (v := 0) rfl ?_
        obtain ⟨k8, h⟩ := h
        refine miX12_290 (pc := 21) C k8 h (Nat.le_of_ble_eq_true rfl) (Nat.le_of_ble_eq_true rfl) ⟨Nat.le_refl _, Nat.le_refl _⟩ dX12_wake_21 (fun w9 h => ?_)
        refine g_iinc (pc := 24) C dX12_wake_24 (q := 2) rfl (v2 := a2 + 1) rfl (Nat.le_of_ble_eq_true rfl) (lo' := [(2, .int (a2 + 1)), (0, .ref (adr x a0)), (1, .int a1)]) rfl ?_
        refine g_goto (pc := 27) C dX12_wake_27 (tgt := 2) rfl ?_
        refine g_sub [1, 2, 0] rfl ?_
        exact ih _ _ _ _ h
theorem c_X12_wake {x : xG} {l : Launch} {a0 : Nat} {a1 : Int32} {K : Int32 → Wd → Prop} {w : Wd} (h : w_X12_wake a0 a1 K w) : Met l yX12_wake (xws yX12_wake cX12_wake 3 (some .int)) (rmd 1 0 0) (xPc x [.ref (adr x a0), .int a1] w) (QcI x K) 0 0 (xA x) := by
  refine xMet (by decide) (Nat.le_of_ble_eq_true rfl) (fun p e s m below meth c C hlk hr _ => ?_)
  show GW x p l e (rmd 1 0 0) s m [.ref (adr x a0), .int a1].toArray below meth c 3 (QI x K below [.ref (adr x a0), .int a1].toArray s 0 0) 0 [(0, .ref (adr x a0)), (1, .int a1)] [] w 0 0
  refine g_iconst (pc := 0) C dX12_wake_0 (v := 0) rfl ?_
  refine g_istore_n (pc := 1) C dX12_wake_1 (Nat.le_of_ble_eq_true rfl) (lo' := [(2, .int 0), (0, .ref (adr x a0)), (1, .int a1)]) rfl ?_
  obtain ⟨n24, h⟩ := h
  refine g_sub [1, 2, 0] rfl ?_
  refine t_X12_wake_2 C hlk hr ?_ n24 _ _ _ _ h
  · intro b10 b11 w12 h
    refine g_iload_n (pc := 30) C dX12_wake_30 (q := 1) rfl ?_
    refine miX12_265 (pc := 31) C h (Nat.le_of_ble_eq_true rfl) (Nat.le_of_ble_eq_true rfl) ⟨Nat.le_refl _, Nat.le_refl _⟩ dX12_wake_31 (fun r13 w14 h => ?_)
    refine g_iconst (pc := 34) C dX12_wake_34 (v := 1) rfl ?_
    refine g_icmp_le (pc := 35) C dX12_wake_35 (tgt := 49) rfl (fun z15 => ?_) (fun z15 => ?_)
    · replace h := h.1 z15
      refine g_iload_n (pc := 49) C dX12_wake_49 (q := 1) rfl ?_
      refine miX12_265 (pc := 50) C h (Nat.le_of_ble_eq_true rfl) (Nat.le_of_ble_eq_true rfl) ⟨Nat.le_refl _, Nat.le_refl _⟩ dX12_wake_50 (fun r16 w17 h => ?_)
      exact g_iret (pc := 53) C hlk hr (Nat.le_refl _) (Nat.le_refl _) dX12_wake_53 h
    · replace h := h.2 z15
      refine g_aload_n (pc := 38) C dX12_wake_38 (q := 0) rfl ?_
      obtain ⟨k18, h⟩ := h
      obtain ⟨k19, h⟩ := h
      refine gfX12_9 (pc := 39) C k18 (isK_ne k19) dX12_wake_39 ?_
      refine g_bipush (pc := 42) C dX12_wake_42 (v := 25) rfl ?_
      refine g_dup2 (pc := 44) C dX12_wake_44 rfl rfl ?_
      obtain ⟨k20, h⟩ := h
      refine g_iald (pc := 45) C k19 k20 dX12_wake_45 ?_
      refine g_iload_n (pc := 46) C dX12_wake_46 (q := 1) rfl ?_
      refine g_ior (pc := 47) C dX12_wake_47 ?_
      obtain ⟨k21, h⟩ := h
      refine g_iast (pc := 48) C k19 k21 dX12_wake_48 ?_
      refine g_iload_n (pc := 49) C dX12_wake_49 (q := 1) rfl ?_
      refine miX12_265 (pc := 50) (w := uI w14 (wR w14 b10 0) (25 : Int32).toNatClampNeg ((wI w14 (wR w14 b10 0) (25 : Int32).toNatClampNeg) ||| b11)) C h (Nat.le_of_ble_eq_true rfl) (Nat.le_of_ble_eq_true rfl) ⟨Nat.le_refl _, Nat.le_refl _⟩ dX12_wake_50 (fun r22 w23 h => ?_)
      exact g_iret (pc := 53) C hlk hr (Nat.le_refl _) (Nat.le_refl _) dX12_wake_53 h
theorem miX12_319 (C : xC x p s m c cc nL args RX12) {a0 : Nat} {a1 : Int32} {K : Int32 → Wd → Prop} {D MC MS : Nat} (hq : isK w a0 12) (h : w_X12_wake a0 a1 K w) (hD : 1 + 1 ≤ D) (hW : (st.map fun v => v.category).sum ≤ 8) (hij : i ≤ MC ∧ j ≤ MS) (hd : decode cc pc = .ok (.invokevirtual 319, 3)) (k : ∀ (r : Int32) (u : Wd), K r u → GW x p l e (rmd D MC MS) s m args below meth c nL Q (pc + 3) lo (.int r :: st) u i j) : GW x p l e (rmd D MC MS) s m args below meth c nL Q pc lo (.int a1 :: .ref (adr x a0) :: st) w i j := g_callVi0 C (As := [.int a1]) (ci := 12) (c_X12_wake h) (x_cwV C 1 LMX12_319 ⟨rfl, by decide, by decide, rfl⟩ hD (by decide)) rfl hq (by decide) rfl rfl hW hd hij k
def w_X12_coins (a0 : Nat) (a1 : Int32) (K : Int32 → Wd → Prop) (w : Wd) : Prop :=
  isK w a0 12 ∧ w_X12_chainOf a0 a1 0 (fun r2 w3 => isK w3 a0 12 ∧ w_X12_shiftsTo a0 a1 0 (fun w5 => isK w5 a0 12 ∧ w_X12_wake a0 r2 (fun r7 w8 => K r7 w8) w5) w3) w
theorem c_X12_coins {x : xG} {l : Launch} {a0 : Nat} {a1 : Int32} {K : Int32 → Wd → Prop} {w : Wd} (h : w_X12_coins a0 a1 K w) : Met l yX12_coins (xws yX12_coins cX12_coins 3 (some .int)) (rmd 6 0 0) (xPc x [.ref (adr x a0), .int a1] w) (QcI x K) 0 0 (xA x) := by
  refine xMet (by decide) (Nat.le_of_ble_eq_true rfl) (fun p e s m below meth c C hlk hr _ => ?_)
  show GW x p l e (rmd 6 0 0) s m [.ref (adr x a0), .int a1].toArray below meth c 3 (QI x K below [.ref (adr x a0), .int a1].toArray s 0 0) 0 [(0, .ref (adr x a0)), (1, .int a1)] [] w 0 0
  refine g_aload_n (pc := 0) C dX12_coins_0 (q := 0) rfl ?_
  refine g_iload_n (pc := 1) C dX12_coins_1 (q := 1) rfl ?_
  refine g_iconst (pc := 2) C dX12_coins_2 (v := 0) rfl ?_
  obtain ⟨k1, h⟩ := h
  refine miX12_316 (pc := 3) C k1 h (Nat.le_of_ble_eq_true rfl) (Nat.le_of_ble_eq_true rfl) ⟨Nat.le_refl _, Nat.le_refl _⟩ dX12_coins_3 (fun r2 w3 h => ?_)
  refine g_istore_n (pc := 6) C dX12_coins_6 (Nat.le_of_ble_eq_true rfl) (lo' := [(2, .int r2), (0, .ref (adr x a0)), (1, .int a1)]) rfl ?_
  refine g_aload_n (pc := 7) C dX12_coins_7 (q := 1) rfl ?_
  refine g_iload_n (pc := 8) C dX12_coins_8 (q := 2) rfl ?_
  refine g_iconst (pc := 9) C dX12_coins_9 (v := 0) rfl ?_
  obtain ⟨k4, h⟩ := h
  refine miX12_290 (pc := 10) C k4 h (Nat.le_of_ble_eq_true rfl) (Nat.le_of_ble_eq_true rfl) ⟨Nat.le_refl _, Nat.le_refl _⟩ dX12_coins_10 (fun w5 h => ?_)
  refine g_aload_n (pc := 13) C dX12_coins_13 (q := 1) rfl ?_
  refine g_iload_n (pc := 14) C dX12_coins_14 (q := 0) rfl ?_
  obtain ⟨k6, h⟩ := h
  refine miX12_319 (pc := 15) C k6 h (Nat.le_of_ble_eq_true rfl) (Nat.le_of_ble_eq_true rfl) ⟨Nat.le_refl _, Nat.le_refl _⟩ dX12_coins_15 (fun r7 w8 h => ?_)
  exact g_iret (pc := 18) C hlk hr (Nat.le_refl _) (Nat.le_refl _) dX12_coins_18 h
def l_X12_keeps_54  (K : Wd → Prop) : Nat → Nat → Int32 → Wd → Prop
  | 0, _, _, _ => False
  | n + 1, a0, a1, w => ((22 ≤ a1 → isK w a0 12 ∧ isK w (wR w a0 0) 20 ∧ vp_in 4 (wn w (wR w a0 0)) ∧ vp_in 4 (wn w (wR w a0 0)) ∧ K (uI w (wR w a0 0) (4 : Int32).toNatClampNeg ((wI w (wR w a0 0) (4 : Int32).toNatClampNeg) + 1))) ∧ (¬ 22 ≤ a1 → isK w a0 12 ∧ isK w (wR w a0 0) 20 ∧ vp_in 4 (wn w (wR w a0 0)) ∧ vp_in (5 + a1) (wn w (wR w a0 0)) ∧ vp_in ((79 + (22 * (wI w (wR w a0 0) (4 : Int32).toNatClampNeg))) + a1) (wn w (wR w a0 0)) ∧ l_X12_keeps_54 K n a0 (a1 + 1) (uI w (wR w a0 0) ((79 + (22 * (wI w (wR w a0 0) (4 : Int32).toNatClampNeg))) + a1).toNatClampNeg (wI w (wR w a0 0) (5 + a1).toNatClampNeg))))
def l_X12_keeps_14 (E42 : Nat → Wd → Prop) (K : Wd → Prop) : Nat → Nat → Int32 → Wd → Prop
  | 0, _, _, _ => False
  | n + 1, a0, a1, w => ((277 ≤ a1 → E42 a0 w) ∧ (¬ 277 ≤ a1 → isK w a0 12 ∧ isK w (wR w a0 0) 20 ∧ vp_in (a1 + 22) (wn w (wR w a0 0)) ∧ vp_in a1 (wn w (wR w a0 0)) ∧ l_X12_keeps_14 E42 K n a0 (a1 + 1) (uI w (wR w a0 0) a1.toNatClampNeg (wI w (wR w a0 0) (a1 + 22).toNatClampNeg))))
def w_X12_keeps (a0 : Nat) (K : Wd → Prop) (w : Wd) : Prop :=
  isK w a0 12 ∧ isK w (wR w a0 0) 20 ∧ vp_in 4 (wn w (wR w a0 0)) ∧ (((wI w (wR w a0 0) (4 : Int32).toNatClampNeg) = 10 → ∃ n28, l_X12_keeps_14 (fun b21 w22 => isK w22 b21 12 ∧ isK w22 (wR w22 b21 0) 20 ∧ vp_in 4 (wn w22 (wR w22 b21 0)) ∧ vp_in 4 (wn w22 (wR w22 b21 0)) ∧ ∃ n27, l_X12_keeps_54  K n27 b21 0 (uI w22 (wR w22 b21 0) (4 : Int32).toNatClampNeg ((wI w22 (wR w22 b21 0) (4 : Int32).toNatClampNeg) - 1))) K n28 a0 79 w) ∧ (¬ (wI w (wR w a0 0) (4 : Int32).toNatClampNeg) = 10 → ∃ n15, l_X12_keeps_54  K n15 a0 0 w))
theorem t_X12_keeps_54 (C : xC x p s m c cX12_keeps 2 args RX12) (hlk : meth.locks = false) (hr : meth.sig.returnType = none) {K : Wd → Prop}   : ∀ (n : Nat) (a0 : Nat) (a1 : Int32) (w : Wd), l_X12_keeps_54 K n a0 a1 w → GW x p l e (rmd 0 0 0) s m args below meth c 2 (QV x K below args s 0 0) 54 [(0, .ref (adr x a0)), (1, .int a1)] [] w 0 0 := by
  intro n
  induction n with
  | zero => intro _ _ _ h; exact False.elim h
  | succ n ih =>
    intro a0 a1 w h
    refine g_iload_n (pc := 54) C dX12_keeps_54 (q := 1) rfl ?_
    refine g_bipush (pc := 55) C dX12_keeps_55 (v := 22) rfl ?_
    refine g_icmp_ge (pc := 57) C dX12_keeps_57 (tgt := 93) rfl (fun z5 => ?_) (fun z5 => ?_)
    · replace h := h.1 z5
      refine g_aload_n (pc := 93) C dX12_keeps_93 (q := 0) rfl ?_
      obtain ⟨k6, h⟩ := h
      obtain ⟨k7, h⟩ := h
      refine gfX12_9 (pc := 94) C k6 (isK_ne k7) dX12_keeps_94 ?_
      refine g_iconst (pc := 97) C dX12_keeps_97 (v := 4) rfl ?_
      refine g_dup2 (pc := 98) C dX12_keeps_98 rfl rfl ?_
      obtain ⟨k8, h⟩ := h
      refine g_iald (pc := 99) C k7 k8 dX12_keeps_99 ?_
      refine g_iconst (pc := 100) C dX12_keeps_100 (v := 1) rfl ?_
      refine g_iadd (pc := 101) C dX12_keeps_101 ?_
      obtain ⟨k9, h⟩ := h
      refine g_iast (pc := 102) C k7 k9 dX12_keeps_102 ?_
      exact g_vret (pc := 103) C hlk hr (Nat.le_refl _) (Nat.le_refl _) dX12_keeps_103 h
    · replace h := h.2 z5
      refine g_aload_n (pc := 60) C dX12_keeps_60 (q := 0) rfl ?_
      obtain ⟨k10, h⟩ := h
      obtain ⟨k11, h⟩ := h
      refine gfX12_9 (pc := 61) C k10 (isK_ne k11) dX12_keeps_61 ?_
      refine g_bipush (pc := 64) C dX12_keeps_64 (v := 79) rfl ?_
      refine g_bipush (pc := 66) C dX12_keeps_66 (v := 22) rfl ?_
      refine g_aload_n (pc := 68) C dX12_keeps_68 (q := 0) rfl ?_
      refine gfX12_9 (pc := 69) C k10 (isK_ne k11) dX12_keeps_69 ?_
      refine g_iconst (pc := 72) C dX12_keeps_72 (v := 4) rfl ?_
      obtain ⟨k12, h⟩ := h
      refine g_iald (pc := 73) C k11 k12 dX12_keeps_73 ?_
      refine g_imul (pc := 74) C dX12_keeps_74 ?_
      refine g_iadd (pc := 75) C dX12_keeps_75 ?_
      refine g_iload_n (pc := 76) C dX12_keeps_76 (q := 1) rfl ?_
      refine g_iadd (pc := 77) C dX12_keeps_77 ?_
      refine g_aload_n (pc := 78) C dX12_keeps_78 (q := 0) rfl ?_
      refine gfX12_9 (pc := 79) C k10 (isK_ne k11) dX12_keeps_79 ?_
      refine g_iconst (pc := 82) C dX12_keeps_82 (v := 5) rfl ?_
      refine g_iload_n (pc := 83) C dX12_keeps_83 (q := 1) rfl ?_
      refine g_iadd (pc := 84) C dX12_keeps_84 ?_
      obtain ⟨k13, h⟩ := h
      refine g_iald (pc := 85) C k11 k13 dX12_keeps_85 ?_
      obtain ⟨k14, h⟩ := h
      refine g_iast (pc := 86) C k11 k14 dX12_keeps_86 ?_
      refine g_iinc (pc := 87) C dX12_keeps_87 (q := 1) rfl (v2 := a1 + 1) rfl (Nat.le_of_ble_eq_true rfl) (lo' := [(1, .int (a1 + 1)), (0, .ref (adr x a0))]) rfl ?_
      refine g_goto (pc := 90) C dX12_keeps_90 (tgt := 54) rfl ?_
      refine g_sub [1, 0] rfl ?_
      exact ih _ _ _ h
theorem t_X12_keeps_14 (C : xC x p s m c cX12_keeps 2 args RX12) (hlk : meth.locks = false) (hr : meth.sig.returnType = none) {K : Wd → Prop} {E42 : Nat → Wd → Prop} (hE42 : ∀ (b0 : Nat) (w : Wd), E42 b0 w → GW x p l e (rmd 0 0 0) s m args below meth c 2 (QV x K below args s 0 0) 42 [(0, .ref (adr x b0))] [] w 0 0) : ∀ (n : Nat) (a0 : Nat) (a1 : Int32) (w : Wd), l_X12_keeps_14 E42 K n a0 a1 w → GW x p l e (rmd 0 0 0) s m args below meth c 2 (QV x K below args s 0 0) 14 [(0, .ref (adr x a0)), (1, .int a1)] [] w 0 0 := by
  intro n
  induction n with
  | zero => intro _ _ _ h; exact False.elim h
  | succ n ih =>
    intro a0 a1 w h
    refine g_iload_n (pc := 14) C dX12_keeps_14 (q := 1) rfl ?_
    refine g_sipush (pc := 15) C dX12_keeps_15 (v := 277) rfl ?_
    refine g_icmp_ge (pc := 18) C dX12_keeps_18 (tgt := 42) rfl (fun z16 => ?_) (fun z16 => ?_)
    · replace h := h.1 z16
      refine g_sub [0] rfl ?_
      exact hE42 _ _ h
    · replace h := h.2 z16
      refine g_aload_n (pc := 21) C dX12_keeps_21 (q := 0) rfl ?_
      obtain ⟨k17, h⟩ := h
      obtain ⟨k18, h⟩ := h
      refine gfX12_9 (pc := 22) C k17 (isK_ne k18) dX12_keeps_22 ?_
      refine g_iload_n (pc := 25) C dX12_keeps_25 (q := 1) rfl ?_
      refine g_aload_n (pc := 26) C dX12_keeps_26 (q := 0) rfl ?_
      refine gfX12_9 (pc := 27) C k17 (isK_ne k18) dX12_keeps_27 ?_
      refine g_iload_n (pc := 30) C dX12_keeps_30 (q := 1) rfl ?_
      refine g_bipush (pc := 31) C dX12_keeps_31 (v := 22) rfl ?_
      refine g_iadd (pc := 33) C dX12_keeps_33 ?_
      obtain ⟨k19, h⟩ := h
      refine g_iald (pc := 34) C k18 k19 dX12_keeps_34 ?_
      obtain ⟨k20, h⟩ := h
      refine g_iast (pc := 35) C k18 k20 dX12_keeps_35 ?_
      refine g_iinc (pc := 36) C dX12_keeps_36 (q := 1) rfl (v2 := a1 + 1) rfl (Nat.le_of_ble_eq_true rfl) (lo' := [(1, .int (a1 + 1)), (0, .ref (adr x a0))]) rfl ?_
      refine g_goto (pc := 39) C dX12_keeps_39 (tgt := 14) rfl ?_
      refine g_sub [1, 0] rfl ?_
      exact ih _ _ _ h
theorem c_X12_keeps {x : xG} {l : Launch} {a0 : Nat} {K : Wd → Prop} {w : Wd} (h : w_X12_keeps a0 K w) : Met l yX12_keeps (xws yX12_keeps cX12_keeps 2 none) (rmd 0 0 0) (xPc x [.ref (adr x a0)] w) (QcV x K) 0 0 (xA x) := by
  refine xMet (by decide) (Nat.le_of_ble_eq_true rfl) (fun p e s m below meth c C hlk hr _ => ?_)
  show GW x p l e (rmd 0 0 0) s m [.ref (adr x a0)].toArray below meth c 2 (QV x K below [.ref (adr x a0)].toArray s 0 0) 0 [(0, .ref (adr x a0))] [] w 0 0
  refine g_aload_n (pc := 0) C dX12_keeps_0 (q := 0) rfl ?_
  obtain ⟨k1, h⟩ := h
  obtain ⟨k2, h⟩ := h
  refine gfX12_9 (pc := 1) C k1 (isK_ne k2) dX12_keeps_1 ?_
  refine g_iconst (pc := 4) C dX12_keeps_4 (v := 4) rfl ?_
  obtain ⟨k3, h⟩ := h
  refine g_iald (pc := 5) C k2 k3 dX12_keeps_5 ?_
  refine g_bipush (pc := 6) C dX12_keeps_6 (v := 10) rfl ?_
  refine g_icmp_ne (pc := 8) C dX12_keeps_8 (tgt := 52) rfl (fun z4 => ?_) (fun z4 => ?_)
  · replace h := h.2 z4
    refine g_iconst (pc := 52) C dX12_keeps_52 (v := 0) rfl ?_
    refine g_istore_n (pc := 53) C dX12_keeps_53 (Nat.le_of_ble_eq_true rfl) (lo' := [(1, .int 0), (0, .ref (adr x a0))]) rfl ?_
    obtain ⟨n15, h⟩ := h
    refine g_sub [1, 0] rfl ?_
    refine t_X12_keeps_54 C hlk hr n15 _ _ _ h
  · replace h := h.1 z4
    refine g_bipush (pc := 11) C dX12_keeps_11 (v := 79) rfl ?_
    refine g_istore_n (pc := 13) C dX12_keeps_13 (Nat.le_of_ble_eq_true rfl) (lo' := [(1, .int 79), (0, .ref (adr x a0))]) rfl ?_
    obtain ⟨n28, h⟩ := h
    refine g_sub [1, 0] rfl ?_
    refine t_X12_keeps_14 C hlk hr ?_ n28 _ _ _ h
    · intro b21 w22 h
      refine g_aload_n (pc := 42) C dX12_keeps_42 (q := 0) rfl ?_
      obtain ⟨k23, h⟩ := h
      obtain ⟨k24, h⟩ := h
      refine gfX12_9 (pc := 43) C k23 (isK_ne k24) dX12_keeps_43 ?_
      refine g_iconst (pc := 46) C dX12_keeps_46 (v := 4) rfl ?_
      refine g_dup2 (pc := 47) C dX12_keeps_47 rfl rfl ?_
      obtain ⟨k25, h⟩ := h
      refine g_iald (pc := 48) C k24 k25 dX12_keeps_48 ?_
      refine g_iconst (pc := 49) C dX12_keeps_49 (v := 1) rfl ?_
      refine g_isub (pc := 50) C dX12_keeps_50 ?_
      obtain ⟨k26, h⟩ := h
      refine g_iast (pc := 51) C k24 k26 dX12_keeps_51 ?_
      refine g_iconst (pc := 52) C dX12_keeps_52 (v := 0) rfl ?_
      refine g_istore_n (pc := 53) C dX12_keeps_53 (Nat.le_of_ble_eq_true rfl) (lo' := [(1, .int 0), (0, .ref (adr x b21))]) rfl ?_
      obtain ⟨n27, h⟩ := h
      refine g_sub [1, 0] rfl ?_
      refine t_X12_keeps_54 C hlk hr n27 _ _ _ h
def w_X12_whyCoin (a0 : Nat) (a1 : Int64) (K : Int32 → Wd → Prop) (w : Wd) : Prop :=
  isK w a0 12 ∧ w_X12_isWell a0 a1 (fun r2 w3 => ((r2 = 0 → K 1 w3) ∧ (¬ r2 = 0 → isK w3 a0 12 ∧ w_X12_isUp a0 a1.toInt32 (fun r6 w7 => ((r6 = 0 → K 0 w7) ∧ (¬ r6 = 0 → K 2 w7))) w3))) w
theorem c_X12_whyCoin {x : xG} {l : Launch} {a0 : Nat} {a1 : Int64} {K : Int32 → Wd → Prop} {w : Wd} (h : w_X12_whyCoin a0 a1 K w) : Met l yX12_whyCoin (xws yX12_whyCoin cX12_whyCoin 3 (some .int)) (rmd 3 0 0) (xPc x [.ref (adr x a0), .long a1] w) (QcI x K) 0 0 (xA x) := by
  refine xMet (by decide) (Nat.le_of_ble_eq_true rfl) (fun p e s m below meth c C hlk hr _ => ?_)
  show GW x p l e (rmd 3 0 0) s m [.ref (adr x a0), .long a1].toArray below meth c 3 (QI x K below [.ref (adr x a0), .long a1].toArray s 0 0) 0 [(0, .ref (adr x a0)), (1, .long a1)] [] w 0 0
  refine g_aload_n (pc := 0) C dX12_whyCoin_0 (q := 0) rfl ?_
  refine g_lload_n (pc := 1) C dX12_whyCoin_1 (q := 1) rfl ?_
  obtain ⟨k1, h⟩ := h
  refine miX12_302 (pc := 2) C k1 h (Nat.le_of_ble_eq_true rfl) (Nat.le_of_ble_eq_true rfl) ⟨Nat.le_refl _, Nat.le_refl _⟩ dX12_whyCoin_2 (fun r2 w3 h => ?_)
  refine g_if_ne (pc := 5) C dX12_whyCoin_5 (tgt := 12) rfl (fun z4 => ?_) (fun z4 => ?_)
  · replace h := h.2 z4
    refine g_aload_n (pc := 12) C dX12_whyCoin_12 (q := 0) rfl ?_
    refine g_lload_n (pc := 13) C dX12_whyCoin_13 (q := 1) rfl ?_
    refine g_l2i (pc := 14) C dX12_whyCoin_14 ?_
    obtain ⟨k5, h⟩ := h
    refine miX12_271 (pc := 15) C k5 h (Nat.le_of_ble_eq_true rfl) (Nat.le_of_ble_eq_true rfl) ⟨Nat.le_refl _, Nat.le_refl _⟩ dX12_whyCoin_15 (fun r6 w7 h => ?_)
    refine g_if_eq (pc := 18) C dX12_whyCoin_18 (tgt := 25) rfl (fun z8 => ?_) (fun z8 => ?_)
    · replace h := h.1 z8
      refine g_iconst (pc := 25) C dX12_whyCoin_25 (v := 0) rfl ?_
      exact g_iret (pc := 26) C hlk hr (Nat.le_refl _) (Nat.le_refl _) dX12_whyCoin_26 h
    · replace h := h.2 z8
      refine g_iconst (pc := 21) C dX12_whyCoin_21 (v := 2) rfl ?_
      refine g_goto (pc := 22) C dX12_whyCoin_22 (tgt := 26) rfl ?_
      exact g_iret (pc := 26) C hlk hr (Nat.le_refl _) (Nat.le_refl _) dX12_whyCoin_26 h
  · replace h := h.1 z4
    refine g_iconst (pc := 8) C dX12_whyCoin_8 (v := 1) rfl ?_
    refine g_goto (pc := 9) C dX12_whyCoin_9 (tgt := 26) rfl ?_
    exact g_iret (pc := 26) C hlk hr (Nat.le_refl _) (Nat.le_refl _) dX12_whyCoin_26 h
theorem miX12_329 (C : xC x p s m c cc nL args RX12) {a0 : Nat} {K : Wd → Prop} {D MC MS : Nat} (hq : isK w a0 12) (h : w_X12_keeps a0 K w) (hD : 0 + 1 ≤ D) (hW : (st.map fun v => v.category).sum ≤ 8) (hij : i ≤ MC ∧ j ≤ MS) (hd : decode cc pc = .ok (.invokevirtual 329, 3)) (k : ∀ (u : Wd), K u → GW x p l e (rmd D MC MS) s m args below meth c nL Q (pc + 3) lo st u i j) : GW x p l e (rmd D MC MS) s m args below meth c nL Q pc lo (.ref (adr x a0) :: st) w i j := g_callVv0 C (As := []) (ci := 12) (c_X12_keeps h) (x_cwV C 0 LMX12_329 ⟨rfl, by decide, by decide, rfl⟩ hD (by decide)) rfl hq (by decide) rfl rfl hW hd hij k
theorem miX12_338 (C : xC x p s m c cc nL args RX12) {a0 : Nat} {a1 : Int64} {K : Int32 → Wd → Prop} {D MC MS : Nat} (hq : isK w a0 12) (h : w_X12_whyCoin a0 a1 K w) (hD : 3 + 1 ≤ D) (hW : (st.map fun v => v.category).sum ≤ 8) (hij : i ≤ MC ∧ j ≤ MS) (hd : decode cc pc = .ok (.invokevirtual 338, 3)) (k : ∀ (r : Int32) (u : Wd), K r u → GW x p l e (rmd D MC MS) s m args below meth c nL Q (pc + 3) lo (.int r :: st) u i j) : GW x p l e (rmd D MC MS) s m args below meth c nL Q pc lo (.long a1 :: .ref (adr x a0) :: st) w i j := g_callVi0 C (As := [.long a1]) (ci := 12) (c_X12_whyCoin h) (x_cwV C 1 LMX12_338 ⟨rfl, by decide, by decide, rfl⟩ hD (by decide)) rfl hq (by decide) rfl rfl hW hd hij k
theorem miX12_341 (C : xC x p s m c cc nL args RX12) {a0 : Nat} {a1 : Int32} {K : Int32 → Wd → Prop} {D MC MS : Nat} (hq : isK w a0 12) (h : w_X12_coins a0 a1 K w) (hD : 6 + 1 ≤ D) (hW : (st.map fun v => v.category).sum ≤ 8) (hij : i ≤ MC ∧ j ≤ MS) (hd : decode cc pc = .ok (.invokevirtual 341, 3)) (k : ∀ (r : Int32) (u : Wd), K r u → GW x p l e (rmd D MC MS) s m args below meth c nL Q (pc + 3) lo (.int r :: st) u i j) : GW x p l e (rmd D MC MS) s m args below meth c nL Q pc lo (.int a1 :: .ref (adr x a0) :: st) w i j := g_callVi0 C (As := [.int a1]) (ci := 12) (c_X12_coins h) (x_cwV C 1 LMX12_341 ⟨rfl, by decide, by decide, rfl⟩ hD (by decide)) rfl hq (by decide) rfl rfl hW hd hij k
def w_X12_coin (a0 : Nat) (a1 : Int32) (K : Int32 → Wd → Prop) (w : Wd) : Prop :=
  isK w a0 12 ∧ w_X12_whyCoin a0 a1.toInt64 (fun r2 w3 => ((r2 = 0 → isK w3 a0 12 ∧ w_X12_keeps a0 (fun w6 => isK w6 a0 12 ∧ w_X12_coins a0 a1 (fun r8 w9 => K r8 w9) w6) w3) ∧ (¬ r2 = 0 → K (-r2) w3))) (uI w a0 4 0)
theorem c_X12_coin {x : xG} {l : Launch} {a0 : Nat} {a1 : Int32} {K : Int32 → Wd → Prop} {w : Wd} (h : w_X12_coin a0 a1 K w) : Met l yX12_coin (xws yX12_coin cX12_coin 3 (some .int)) (rmd 7 0 0) (xPc x [.ref (adr x a0), .int a1] w) (QcI x K) 0 0 (xA x) := by
  refine xMet (by decide) (Nat.le_of_ble_eq_true rfl) (fun p e s m below meth c C hlk hr _ => ?_)
  show GW x p l e (rmd 7 0 0) s m [.ref (adr x a0), .int a1].toArray below meth c 3 (QI x K below [.ref (adr x a0), .int a1].toArray s 0 0) 0 [(0, .ref (adr x a0)), (1, .int a1)] [] w 0 0
  refine g_aload_n (pc := 0) C dX12_coin_0 (q := 0) rfl ?_
  refine g_iconst (pc := 1) C dX12_coin_1 (v := 0) rfl ?_
  obtain ⟨k1, h⟩ := h
  refine pfX12_58 (pc := 2) C k1 dX12_coin_2 ?_
  refine g_aload_n (pc := 5) C dX12_coin_5 (q := 0) rfl ?_
  refine g_iload_n (pc := 6) C dX12_coin_6 (q := 1) rfl ?_
  refine g_i2l (pc := 7) C dX12_coin_7 ?_
  refine miX12_338 (pc := 8) (w := uI w a0 4 0) C k1 h (Nat.le_of_ble_eq_true rfl) (Nat.le_of_ble_eq_true rfl) ⟨Nat.le_refl _, Nat.le_refl _⟩ dX12_coin_8 (fun r2 w3 h => ?_)
  refine g_istore_n (pc := 11) C dX12_coin_11 (Nat.le_of_ble_eq_true rfl) (lo' := [(2, .int r2), (0, .ref (adr x a0)), (1, .int a1)]) rfl ?_
  refine g_iload_n (pc := 12) C dX12_coin_12 (q := 0) rfl ?_
  refine g_if_eq (pc := 13) C dX12_coin_13 (tgt := 19) rfl (fun z4 => ?_) (fun z4 => ?_)
  · replace h := h.1 z4
    refine g_aload_n (pc := 19) C dX12_coin_19 (q := 1) rfl ?_
    obtain ⟨k5, h⟩ := h
    refine miX12_329 (pc := 20) C k5 h (Nat.le_of_ble_eq_true rfl) (Nat.le_of_ble_eq_true rfl) ⟨Nat.le_refl _, Nat.le_refl _⟩ dX12_coin_20 (fun w6 h => ?_)
    refine g_aload_n (pc := 23) C dX12_coin_23 (q := 1) rfl ?_
    refine g_iload_n (pc := 24) C dX12_coin_24 (q := 2) rfl ?_
    obtain ⟨k7, h⟩ := h
    refine miX12_341 (pc := 25) C k7 h (Nat.le_of_ble_eq_true rfl) (Nat.le_of_ble_eq_true rfl) ⟨Nat.le_refl _, Nat.le_refl _⟩ dX12_coin_25 (fun r8 w9 h => ?_)
    exact g_iret (pc := 28) C hlk hr (Nat.le_refl _) (Nat.le_refl _) dX12_coin_28 h
  · replace h := h.2 z4
    refine g_iload_n (pc := 16) C dX12_coin_16 (q := 0) rfl ?_
    refine g_ineg (pc := 17) C dX12_coin_17 ?_
    exact g_iret (pc := 18) C hlk hr (Nat.le_refl _) (Nat.le_refl _) dX12_coin_18 h
theorem miRX12_396 (C : xC x p s m c cc nL args RX12) {a0 : Int32} {a1 : Int32} {K : Int32 → Wd → Prop} {D MC MS : Nat} {d : Nat} (h : Met l yX12_common (xws yX12_common cX12_common 2 (some .int)) (rmd d 0 0) (xPc x [.int a0, .int a1] w) (QcI x K) 0 0 (xA x)) (hD : d + 1 ≤ D) (hW : (st.map fun v => v.category).sum ≤ 8) (hij : i ≤ MC ∧ j ≤ MS) (hd : decode cc pc = .ok (.invokestatic 396, 3)) (k : ∀ (r : Int32) (u : Wd), K r u → GW x p l e (rmd D MC MS) s m args below meth c nL Q (pc + 3) lo (.int r :: st) u i j) : GW x p l e (rmd D MC MS) s m args below meth c nL Q pc lo (.int a1 :: .int a0 :: st) w i j := g_callSi0 C (As := [.int a0, .int a1]) h (x_cwS C 2 LMX12_396 ⟨by decide, by decide, rfl⟩ hD (by decide)) rfl rfl hW hd hij k
def b_X12_common (P : Nat → Int32 → Int32 → (Int32 → Wd → Prop) → Wd → Prop) (a0 : Int32) (a1 : Int32) (K : Int32 → Wd → Prop) (w : Wd) : Prop :=
  ((a1 = 0 → K a0 w) ∧ (¬ a1 = 0 → ¬ a1 = 0 ∧ P 0 a1 (x_irem a0 a1) (fun r3 w4 => K r3 w4) w))
theorem t_X12_common (C : xC x p s m c cX12_common 2 args RX12) (hlk : meth.locks = false) (hr : meth.sig.returnType = some .int) {K : Int32 → Wd → Prop} {d : Nat} (hd0 : 0 ≤ d) {P : Nat → Int32 → Int32 → (Int32 → Wd → Prop) → Wd → Prop} (hP0 : ∀ (q0 : Int32) (q1 : Int32) (K : Int32 → Wd → Prop) (w : Wd), P 0 q0 q1 K w → Met l yX12_common (xws yX12_common cX12_common 2 (some .int)) (rmd d 0 0) (xPc x [.int q0, .int q1] w) (QcI x K) 0 0 (xA x)) (a0 : Int32) (a1 : Int32) (w : Wd) (h : b_X12_common P a0 a1 K w) : GW x p l e (rmd (d + 1) 0 0) s m args below meth c 2 (QI x K below args s 0 0) 0 (lv_args 0 [.int a0, .int a1]) [] w 0 0 := by
  show GW x p l e (rmd (d + 1) 0 0) s m args below meth c 2 (QI x K below args s 0 0) 0 [(0, .int a0), (1, .int a1)] [] w 0 0
  refine g_iload_n (pc := 0) C dX12_common_0 (q := 1) rfl ?_
  refine g_if_ne (pc := 1) C dX12_common_1 (tgt := 8) rfl (fun z1 => ?_) (fun z1 => ?_)
  · replace h := h.2 z1
    refine g_iload_n (pc := 8) C dX12_common_8 (q := 1) rfl ?_
    refine g_iload_n (pc := 9) C dX12_common_9 (q := 0) rfl ?_
    refine g_iload_n (pc := 10) C dX12_common_10 (q := 1) rfl ?_
    obtain ⟨k2, h⟩ := h
    refine h_irem (pc := 11) C dX12_common_11 k2 ?_
    refine miRX12_396 (pc := 12) C (hP0 _ _ _ _ h) (Nat.le_refl _) (Nat.le_of_ble_eq_true rfl) ⟨Nat.le_refl _, Nat.le_refl _⟩ dX12_common_12 (fun r3 w4 h => ?_)
    exact g_iret (pc := 15) C hlk hr (Nat.le_refl _) (Nat.le_refl _) dX12_common_15 h
  · replace h := h.1 z1
    refine g_iload_n (pc := 4) C dX12_common_4 (q := 0) rfl ?_
    refine g_goto (pc := 5) C dX12_common_5 (tgt := 15) rfl ?_
    exact g_iret (pc := 15) C hlk hr (Nat.le_refl _) (Nat.le_refl _) dX12_common_15 h
def wG_X12_common : Nat → Nat → Int32 → Int32 → (Int32 → Wd → Prop) → Wd → Prop
  | 0, _, _, _, _, _ => False
  | n + 1, q, a0, a1, K, w => b_X12_common (wG_X12_common n) a0 a1 K w
theorem cG_X12_common {x : xG} {l : Launch} : ∀ (n d : Nat), 0 + n ≤ d → (∀ (a0 : Int32) (a1 : Int32) (K : Int32 → Wd → Prop) (w : Wd), wG_X12_common n 0 a0 a1 K w → Met l yX12_common (xws yX12_common cX12_common 2 (some .int)) (rmd d 0 0) (xPc x [.int a0, .int a1] w) (QcI x K) 0 0 (xA x)) := by
  intro n
  induction n with
  | zero => intro d _; exact fun _ _ _ _ h => False.elim h
  | succ n ih =>
    intro d hd
    obtain ⟨d, rfl⟩ : ∃ d0, d = d0 + 1 := ⟨d - 1, by omega⟩
    have hd0 : 0 ≤ d := by omega
    have hp := ih d (by omega)
    have hP0 := hp
    intro a0 a1 K w h
    exact xMet (by decide) (Nat.le_of_ble_eq_true rfl) (fun p e s m below meth c C hlk hr _ => t_X12_common C hlk hr hd0 hP0 a0 a1 w h)
def w_X12_common (a0 : Int32) (a1 : Int32) (K : Int32 → Wd → Prop) (w : Wd) : Prop := ∃ n, n ≤ 100 ∧ wG_X12_common n 0 a0 a1 K w
theorem c_X12_common {x : xG} {l : Launch} {a0 : Int32} {a1 : Int32} {K : Int32 → Wd → Prop} {w : Wd} (h : w_X12_common a0 a1 K w) : Met l yX12_common (xws yX12_common cX12_common 2 (some .int)) (rmd 100 0 0) (xPc x [.int a0, .int a1] w) (QcI x K) 0 0 (xA x) := by
  obtain ⟨n, hn, h⟩ := h
  exact (cG_X12_common n 100 (by omega)) _ _ K w h
def w_X12_cut (a0 : Nat) (a1 : Int32) (a2 : Int32) (a3 : Int64) (K : Int64 → Wd → Prop) (w : Wd) : Prop :=
  isK w a0 12 ∧ isK w (wR w a0 26) 20 ∧ vp_in a1 (wn w (wR w a0 26)) ∧ isK w (wR w a0 28) 21 ∧ vp_in ((30 * a1) + a2) (wn w (wR w a0 28)) ∧ vp_in ((30 * a1) + a2) (wn w (wR w a0 28)) ∧ K (wL (uL w (wR w a0 28) ((30 * a1) + a2).toNatClampNeg (x_lshr (x_lshl a3 (64 - (x_ishl 8 (wI w (wR w a0 26) a1.toNatClampNeg)))) (64 - (x_ishl 8 (wI w (wR w a0 26) a1.toNatClampNeg))))) (wR w a0 28) ((30 * a1) + a2).toNatClampNeg) (uL w (wR w a0 28) ((30 * a1) + a2).toNatClampNeg (x_lshr (x_lshl a3 (64 - (x_ishl 8 (wI w (wR w a0 26) a1.toNatClampNeg)))) (64 - (x_ishl 8 (wI w (wR w a0 26) a1.toNatClampNeg)))))
theorem c_X12_cut {x : xG} {l : Launch} {a0 : Nat} {a1 : Int32} {a2 : Int32} {a3 : Int64} {K : Int64 → Wd → Prop} {w : Wd} (h : w_X12_cut a0 a1 a2 a3 K w) : Met l yX12_cut (xws yX12_cut cX12_cut 6 (some .long)) (rmd 0 0 0) (xPc x [.ref (adr x a0), .int a1, .int a2, .long a3] w) (QcL x K) 0 0 (xA x) := by
  refine xMet (by decide) (Nat.le_of_ble_eq_true rfl) (fun p e s m below meth c C hlk hr _ => ?_)
  show GW x p l e (rmd 0 0 0) s m [.ref (adr x a0), .int a1, .int a2, .long a3].toArray below meth c 6 (QL x K below [.ref (adr x a0), .int a1, .int a2, .long a3].toArray s 0 0) 0 [(0, .ref (adr x a0)), (1, .int a1), (2, .int a2), (3, .long a3)] [] w 0 0
  refine g_bipush (pc := 0) C dX12_cut_0 (v := 64) rfl ?_
  refine g_bipush (pc := 2) C dX12_cut_2 (v := 8) rfl ?_
  refine g_aload_n (pc := 4) C dX12_cut_4 (q := 0) rfl ?_
  obtain ⟨k1, h⟩ := h
  obtain ⟨k2, h⟩ := h
  refine gfX12_49 (pc := 5) C k1 (isK_ne k2) dX12_cut_5 ?_
  refine g_iload_n (pc := 8) C dX12_cut_8 (q := 1) rfl ?_
  obtain ⟨k3, h⟩ := h
  refine g_iald (pc := 9) C k2 k3 dX12_cut_9 ?_
  refine h_ishl (pc := 10) C dX12_cut_10 ?_
  refine g_isub (pc := 11) C dX12_cut_11 ?_
  refine g_istore (pc := 12) C dX12_cut_12 (Nat.le_of_ble_eq_true rfl) (lo' := [(5, .int (64 - (x_ishl 8 (wI w (wR w a0 26) a1.toNatClampNeg)))), (0, .ref (adr x a0)), (1, .int a1), (2, .int a2), (3, .long a3)]) rfl ?_
  refine g_aload_n (pc := 14) C dX12_cut_14 (q := 1) rfl ?_
  obtain ⟨k4, h⟩ := h
  refine gfX12_55 (pc := 15) C k1 (isK_ne k4) dX12_cut_15 ?_
  refine g_bipush (pc := 18) C dX12_cut_18 (v := 30) rfl ?_
  refine g_iload_n (pc := 20) C dX12_cut_20 (q := 2) rfl ?_
  refine g_imul (pc := 21) C dX12_cut_21 ?_
  refine g_iload_n (pc := 22) C dX12_cut_22 (q := 3) rfl ?_
  refine g_iadd (pc := 23) C dX12_cut_23 ?_
  refine g_lload_n (pc := 24) C dX12_cut_24 (q := 4) rfl ?_
  refine g_iload (pc := 25) C dX12_cut_25 (q := 0) rfl ?_
  refine h_lshl (pc := 27) C dX12_cut_27 ?_
  refine g_iload (pc := 28) C dX12_cut_28 (q := 0) rfl ?_
  refine h_lshr (pc := 30) C dX12_cut_30 ?_
  obtain ⟨k5, h⟩ := h
  refine g_last (pc := 31) C k4 k5 dX12_cut_31 ?_
  refine g_aload_n (pc := 32) C dX12_cut_32 (q := 1) rfl ?_
  refine gfX12_55 (pc := 33) (w := uL w (wR w a0 28) ((30 * a1) + a2).toNatClampNeg (x_lshr (x_lshl a3 (64 - (x_ishl 8 (wI w (wR w a0 26) a1.toNatClampNeg)))) (64 - (x_ishl 8 (wI w (wR w a0 26) a1.toNatClampNeg))))) C k1 (isK_ne k4) dX12_cut_33 ?_
  refine g_bipush (pc := 36) C dX12_cut_36 (v := 30) rfl ?_
  refine g_iload_n (pc := 38) C dX12_cut_38 (q := 2) rfl ?_
  refine g_imul (pc := 39) C dX12_cut_39 ?_
  refine g_iload_n (pc := 40) C dX12_cut_40 (q := 3) rfl ?_
  refine g_iadd (pc := 41) C dX12_cut_41 ?_
  obtain ⟨k6, h⟩ := h
  refine g_lald (pc := 42) (w := uL w (wR w a0 28) ((30 * a1) + a2).toNatClampNeg (x_lshr (x_lshl a3 (64 - (x_ishl 8 (wI w (wR w a0 26) a1.toNatClampNeg)))) (64 - (x_ishl 8 (wI w (wR w a0 26) a1.toNatClampNeg))))) C k4 k6 dX12_cut_42 ?_
  exact g_lret (pc := 43) C hlk hr (Nat.le_refl _) (Nat.le_refl _) dX12_cut_43 h
def w_X12_isTray (a0 : Int32) (K : Int32 → Wd → Prop) (w : Wd) : Prop :=
  w_X12_within a0.toInt64 0 3 (fun r1 w2 => (r1 = 0 ∨ r1 = 1) ∧ K r1 w2) w
theorem c_X12_isTray {x : xG} {l : Launch} {a0 : Int32} {K : Int32 → Wd → Prop} {w : Wd} (h : w_X12_isTray a0 K w) : Met l yX12_isTray (xws yX12_isTray cX12_isTray 1 (some .boolean)) (rmd 1 0 0) (xPc x [.int a0] w) (QcI x K) 0 0 (xA x) := by
  refine xMet (by decide) (Nat.le_of_ble_eq_true rfl) (fun p e s m below meth c C hlk hr _ => ?_)
  show GW x p l e (rmd 1 0 0) s m [.int a0].toArray below meth c 1 (QI x K below [.int a0].toArray s 0 0) 0 [(0, .int a0)] [] w 0 0
  refine g_iload_n (pc := 0) C dX12_isTray_0 (q := 0) rfl ?_
  refine g_i2l (pc := 1) C dX12_isTray_1 ?_
  refine g_lconst (pc := 2) C dX12_isTray_2 (v := 0) rfl ?_
  refine g_ldc2 (pc := 3) C LCX12_373 dX12_isTray_3 ?_
  refine miX12_119 (pc := 6) C h (Nat.le_of_ble_eq_true rfl) (Nat.le_of_ble_eq_true rfl) ⟨Nat.le_refl _, Nat.le_refl _⟩ dX12_isTray_6 (fun r1 w2 h => ?_)
  exact g_zret (pc := 9) C hlk hr (Nat.le_refl _) (Nat.le_refl _) dX12_isTray_9 h.1 h.2
theorem miX12_351 (C : xC x p s m c cc nL args RX12) {a0 : Int32} {K : Int32 → Wd → Prop} {D MC MS : Nat} (h : w_X12_isTray a0 K w) (hD : 1 + 1 ≤ D) (hW : (st.map fun v => v.category).sum ≤ 8) (hij : i ≤ MC ∧ j ≤ MS) (hd : decode cc pc = .ok (.invokestatic 351, 3)) (k : ∀ (r : Int32) (u : Wd), K r u → GW x p l e (rmd D MC MS) s m args below meth c nL Q (pc + 3) lo (.int r :: st) u i j) : GW x p l e (rmd D MC MS) s m args below meth c nL Q pc lo (.int a0 :: st) w i j := g_callSi0 C (As := [.int a0]) (c_X12_isTray h) (x_cwS C 1 LMX12_351 ⟨by decide, by decide, rfl⟩ hD (by decide)) rfl rfl hW hd hij k
theorem miX12_463 (C : xC x p s m c cc nL args RX12) {a0 : Nat} {a1 : Int32} {a2 : Int32} {a3 : Int64} {K : Int64 → Wd → Prop} {D MC MS : Nat} (hq : isK w a0 12) (h : w_X12_cut a0 a1 a2 a3 K w) (hD : 0 + 1 ≤ D) (hW : (st.map fun v => v.category).sum ≤ 8) (hij : i ≤ MC ∧ j ≤ MS) (hd : decode cc pc = .ok (.invokevirtual 463, 3)) (k : ∀ (r : Int64) (u : Wd), K r u → GW x p l e (rmd D MC MS) s m args below meth c nL Q (pc + 3) lo (.long r :: st) u i j) : GW x p l e (rmd D MC MS) s m args below meth c nL Q pc lo (.long a3 :: .int a2 :: .int a1 :: .ref (adr x a0) :: st) w i j := g_callVl0 C (As := [.int a1, .int a2, .long a3]) (ci := 12) (c_X12_cut h) (x_cwV C 3 LMX12_463 ⟨rfl, by decide, by decide, rfl⟩ hD (by decide)) rfl hq (by decide) rfl rfl hW hd hij k
def l_X12_copy_50  (K : Int32 → Wd → Prop) : Nat → Nat → Int32 → Int32 → Int32 → Wd → Prop
  | 0, _, _, _, _, _ => False
  | n + 1, a0, a1, a2, a3, w => isK w a0 12 ∧ isK w (wR w a0 27) 20 ∧ vp_in a1 (wn w (wR w a0 27)) ∧ (((wI w (wR w a0 27) a1.toNatClampNeg) ≤ a3 → vp_in a1 (wn w (wR w a0 27)) ∧ K (wI w (wR w a0 27) a1.toNatClampNeg) w) ∧ (¬ (wI w (wR w a0 27) a1.toNatClampNeg) ≤ a3 → w_X12_isUpIn a0 a2 a3 (fun r11 w12 => ((r11 = 0 → isK w12 a0 12 ∧ w_X12_cut a0 a1 a3 0 (fun r15 w16 => l_X12_copy_50 K n a0 a1 a2 (a3 + 1) w16) w12) ∧ (¬ r11 = 0 → isK w12 a0 12 ∧ w_X12_cut a0 a1 a3 1 (fun r18 w19 => l_X12_copy_50 K n a0 a1 a2 (a3 + 1) w19) w12))) w))
def w_X12_copy (a0 : Nat) (a1 : Int32) (a2 : Int32) (K : Int32 → Wd → Prop) (w : Wd) : Prop :=
  w_X12_isTray a1 (fun r1 w2 => ((r1 = 0 → isK w2 a0 12 ∧ (((wI (uI w2 a0 4 1) a0 4) ≤ 0 → ∃ n20, l_X12_copy_50  K n20 a0 a1 a2 0 (uI w2 a0 4 1)) ∧ (¬ (wI (uI w2 a0 4 1) a0 4) ≤ 0 → K 0 (uI w2 a0 4 1)))) ∧ (¬ r1 = 0 → isK w2 a0 12 ∧ w_X12_isWell a0 a2.toInt64 (fun r22 w23 => ((r22 = 0 → isK w23 a0 12 ∧ (((wI (uI w23 a0 4 1) a0 4) ≤ 0 → ∃ n35, l_X12_copy_50  K n35 a0 a1 a2 0 (uI w23 a0 4 1)) ∧ (¬ (wI (uI w23 a0 4 1) a0 4) ≤ 0 → K 0 (uI w23 a0 4 1)))) ∧ (¬ r22 = 0 → isK w23 a0 12 ∧ isK w23 (wR w23 a0 26) 20 ∧ vp_in a1 (wn w23 (wR w23 a0 26)) ∧ (((wI w23 (wR w23 a0 26) a1.toNatClampNeg) = (-1) → (((wI (uI w23 a0 4 2) a0 4) ≤ 0 → ∃ n32, l_X12_copy_50  K n32 a0 a1 a2 0 (uI w23 a0 4 2)) ∧ (¬ (wI (uI w23 a0 4 2) a0 4) ≤ 0 → K 0 (uI w23 a0 4 2)))) ∧ (¬ (wI w23 (wR w23 a0 26) a1.toNatClampNeg) = (-1) → (((wI (uI w23 a0 4 0) a0 4) ≤ 0 → ∃ n30, l_X12_copy_50  K n30 a0 a1 a2 0 (uI w23 a0 4 0)) ∧ (¬ (wI (uI w23 a0 4 0) a0 4) ≤ 0 → K 0 (uI w23 a0 4 0)))))))) w2))) w
theorem t_X12_copy_50 (C : xC x p s m c cX12_copy 4 args RX12) (hlk : meth.locks = false) (hr : meth.sig.returnType = some .int) {K : Int32 → Wd → Prop}   : ∀ (n : Nat) (a0 : Nat) (a1 : Int32) (a2 : Int32) (a3 : Int32) (w : Wd), l_X12_copy_50 K n a0 a1 a2 a3 w → GW x p l e (rmd 2 0 0) s m args below meth c 4 (QI x K below args s 0 0) 50 [(0, .ref (adr x a0)), (1, .int a1), (2, .int a2), (3, .int a3)] [] w 0 0 := by
  intro n
  induction n with
  | zero => intro _ _ _ _ _ h; exact False.elim h
  | succ n ih =>
    intro a0 a1 a2 a3 w h
    refine g_iload_n (pc := 50) C dX12_copy_50 (q := 3) rfl ?_
    refine g_aload_n (pc := 51) C dX12_copy_51 (q := 0) rfl ?_
    obtain ⟨k6, h⟩ := h
    obtain ⟨k7, h⟩ := h
    refine gfX12_52 (pc := 52) C k6 (isK_ne k7) dX12_copy_52 ?_
    refine g_iload_n (pc := 55) C dX12_copy_55 (q := 1) rfl ?_
    obtain ⟨k8, h⟩ := h
    refine g_iald (pc := 56) C k7 k8 dX12_copy_56 ?_
    refine g_icmp_ge (pc := 57) C dX12_copy_57 (tgt := 87) rfl (fun z9 => ?_) (fun z9 => ?_)
    · replace h := h.1 z9
      refine g_aload_n (pc := 87) C dX12_copy_87 (q := 0) rfl ?_
      refine gfX12_52 (pc := 88) C k6 (isK_ne k7) dX12_copy_88 ?_
      refine g_iload_n (pc := 91) C dX12_copy_91 (q := 1) rfl ?_
      obtain ⟨k10, h⟩ := h
      refine g_iald (pc := 92) C k7 k10 dX12_copy_92 ?_
      exact g_iret (pc := 93) C hlk hr (Nat.le_refl _) (Nat.le_refl _) dX12_copy_93 h
    · replace h := h.2 z9
      refine g_aload_n (pc := 60) C dX12_copy_60 (q := 0) rfl ?_
      refine g_iload_n (pc := 61) C dX12_copy_61 (q := 1) rfl ?_
      refine g_iload_n (pc := 62) C dX12_copy_62 (q := 3) rfl ?_
      refine g_aload_n (pc := 63) C dX12_copy_63 (q := 0) rfl ?_
      refine g_iload_n (pc := 64) C dX12_copy_64 (q := 2) rfl ?_
      refine g_iload_n (pc := 65) C dX12_copy_65 (q := 3) rfl ?_
      refine miX12_245 (pc := 66) C k6 h (Nat.le_of_ble_eq_true rfl) (Nat.le_of_ble_eq_true rfl) ⟨Nat.le_refl _, Nat.le_refl _⟩ dX12_copy_66 (fun r11 w12 h => ?_)
      refine g_if_eq (pc := 69) C dX12_copy_69 (tgt := 76) rfl (fun z13 => ?_) (fun z13 => ?_)
      · replace h := h.1 z13
        refine g_lconst (pc := 76) C dX12_copy_76 (v := 0) rfl ?_
        obtain ⟨k14, h⟩ := h
        refine miX12_463 (pc := 77) C k14 h (Nat.le_of_ble_eq_true rfl) (Nat.le_of_ble_eq_true rfl) ⟨Nat.le_refl _, Nat.le_refl _⟩ dX12_copy_77 (fun r15 w16 h => ?_)
        refine g_pop2l (pc := 80) C dX12_copy_80 rfl ?_
        refine g_iinc (pc := 81) C dX12_copy_81 (q := 3) rfl (v2 := a3 + 1) rfl (Nat.le_of_ble_eq_true rfl) (lo' := [(3, .int (a3 + 1)), (0, .ref (adr x a0)), (1, .int a1), (2, .int a2)]) rfl ?_
        refine g_goto (pc := 84) C dX12_copy_84 (tgt := 50) rfl ?_
        refine g_sub [1, 2, 3, 0] rfl ?_
        exact ih _ _ _ _ _ h
      · replace h := h.2 z13
        refine g_lconst (pc := 72) C dX12_copy_72 (v := 1) rfl ?_
        refine g_goto (pc := 73) C dX12_copy_73 (tgt := 77) rfl ?_
        obtain ⟨k17, h⟩ := h
        refine miX12_463 (pc := 77) C k17 h (Nat.le_of_ble_eq_true rfl) (Nat.le_of_ble_eq_true rfl) ⟨Nat.le_refl _, Nat.le_refl _⟩ dX12_copy_77 (fun r18 w19 h => ?_)
        refine g_pop2l (pc := 80) C dX12_copy_80 rfl ?_
        refine g_iinc (pc := 81) C dX12_copy_81 (q := 3) rfl (v2 := a3 + 1) rfl (Nat.le_of_ble_eq_true rfl) (lo' := [(3, .int (a3 + 1)), (0, .ref (adr x a0)), (1, .int a1), (2, .int a2)]) rfl ?_
        refine g_goto (pc := 84) C dX12_copy_84 (tgt := 50) rfl ?_
        refine g_sub [1, 2, 3, 0] rfl ?_
        exact ih _ _ _ _ _ h
theorem c_X12_copy {x : xG} {l : Launch} {a0 : Nat} {a1 : Int32} {a2 : Int32} {K : Int32 → Wd → Prop} {w : Wd} (h : w_X12_copy a0 a1 a2 K w) : Met l yX12_copy (xws yX12_copy cX12_copy 4 (some .int)) (rmd 2 0 0) (xPc x [.ref (adr x a0), .int a1, .int a2] w) (QcI x K) 0 0 (xA x) := by
  refine xMet (by decide) (Nat.le_of_ble_eq_true rfl) (fun p e s m below meth c C hlk hr _ => ?_)
  show GW x p l e (rmd 2 0 0) s m [.ref (adr x a0), .int a1, .int a2].toArray below meth c 4 (QI x K below [.ref (adr x a0), .int a1, .int a2].toArray s 0 0) 0 [(0, .ref (adr x a0)), (1, .int a1), (2, .int a2)] [] w 0 0
  refine g_aload_n (pc := 0) C dX12_copy_0 (q := 0) rfl ?_
  refine g_iload_n (pc := 1) C dX12_copy_1 (q := 1) rfl ?_
  refine miX12_351 (pc := 2) C h (Nat.le_of_ble_eq_true rfl) (Nat.le_of_ble_eq_true rfl) ⟨Nat.le_refl _, Nat.le_refl _⟩ dX12_copy_2 (fun r1 w2 h => ?_)
  refine g_if_eq (pc := 5) C dX12_copy_5 (tgt := 17) rfl (fun z3 => ?_) (fun z3 => ?_)
  · replace h := h.1 z3
    refine g_iconst (pc := 17) C dX12_copy_17 (v := 1) rfl ?_
    refine g_goto (pc := 18) C dX12_copy_18 (tgt := 36) rfl ?_
    obtain ⟨k4, h⟩ := h
    refine pfX12_58 (pc := 36) C k4 dX12_copy_36 ?_
    refine g_aload_n (pc := 39) C dX12_copy_39 (q := 0) rfl ?_
    refine gfX12_58 (pc := 40) (w := uI w2 a0 4 1) C k4 dX12_copy_40 ?_
    refine g_if_le (pc := 43) C dX12_copy_43 (tgt := 48) rfl (fun z5 => ?_) (fun z5 => ?_)
    · replace h := h.1 z5
      refine g_iconst (pc := 48) C dX12_copy_48 (v := 0) rfl ?_
      refine g_istore_n (pc := 49) C dX12_copy_49 (Nat.le_of_ble_eq_true rfl) (lo' := [(3, .int 0), (0, .ref (adr x a0)), (1, .int a1), (2, .int a2)]) rfl ?_
      obtain ⟨n20, h⟩ := h
      refine g_sub [1, 2, 3, 0] rfl ?_
      refine t_X12_copy_50 C hlk hr n20 _ _ _ _ _ h
    · replace h := h.2 z5
      refine g_iconst (pc := 46) C dX12_copy_46 (v := 0) rfl ?_
      exact g_iret (pc := 47) C hlk hr (Nat.le_refl _) (Nat.le_refl _) dX12_copy_47 h
  · replace h := h.2 z3
    refine g_aload_n (pc := 8) C dX12_copy_8 (q := 0) rfl ?_
    refine g_iload_n (pc := 9) C dX12_copy_9 (q := 2) rfl ?_
    refine g_i2l (pc := 10) C dX12_copy_10 ?_
    obtain ⟨k21, h⟩ := h
    refine miX12_302 (pc := 11) C k21 h (Nat.le_of_ble_eq_true rfl) (Nat.le_of_ble_eq_true rfl) ⟨Nat.le_refl _, Nat.le_refl _⟩ dX12_copy_11 (fun r22 w23 h => ?_)
    refine g_if_ne (pc := 14) C dX12_copy_14 (tgt := 21) rfl (fun z24 => ?_) (fun z24 => ?_)
    · replace h := h.2 z24
      refine g_aload_n (pc := 21) C dX12_copy_21 (q := 0) rfl ?_
      obtain ⟨k25, h⟩ := h
      obtain ⟨k26, h⟩ := h
      refine gfX12_49 (pc := 22) C k25 (isK_ne k26) dX12_copy_22 ?_
      refine g_iload_n (pc := 25) C dX12_copy_25 (q := 1) rfl ?_
      obtain ⟨k27, h⟩ := h
      refine g_iald (pc := 26) C k26 k27 dX12_copy_26 ?_
      refine g_iconst (pc := 27) C dX12_copy_27 (v := (-1)) rfl ?_
      refine g_icmp_ne (pc := 28) C dX12_copy_28 (tgt := 35) rfl (fun z28 => ?_) (fun z28 => ?_)
      · replace h := h.2 z28
        refine g_iconst (pc := 35) C dX12_copy_35 (v := 0) rfl ?_
        refine pfX12_58 (pc := 36) C k25 dX12_copy_36 ?_
        refine g_aload_n (pc := 39) C dX12_copy_39 (q := 0) rfl ?_
        refine gfX12_58 (pc := 40) (w := uI w23 a0 4 0) C k25 dX12_copy_40 ?_
        refine g_if_le (pc := 43) C dX12_copy_43 (tgt := 48) rfl (fun z29 => ?_) (fun z29 => ?_)
        · replace h := h.1 z29
          refine g_iconst (pc := 48) C dX12_copy_48 (v := 0) rfl ?_
          refine g_istore_n (pc := 49) C dX12_copy_49 (Nat.le_of_ble_eq_true rfl) (lo' := [(3, .int 0), (0, .ref (adr x a0)), (1, .int a1), (2, .int a2)]) rfl ?_
          obtain ⟨n30, h⟩ := h
          refine g_sub [1, 2, 3, 0] rfl ?_
          refine t_X12_copy_50 C hlk hr n30 _ _ _ _ _ h
        · replace h := h.2 z29
          refine g_iconst (pc := 46) C dX12_copy_46 (v := 0) rfl ?_
          exact g_iret (pc := 47) C hlk hr (Nat.le_refl _) (Nat.le_refl _) dX12_copy_47 h
      · replace h := h.1 z28
        refine g_iconst (pc := 31) C dX12_copy_31 (v := 2) rfl ?_
        refine g_goto (pc := 32) C dX12_copy_32 (tgt := 36) rfl ?_
        refine pfX12_58 (pc := 36) C k25 dX12_copy_36 ?_
        refine g_aload_n (pc := 39) C dX12_copy_39 (q := 0) rfl ?_
        refine gfX12_58 (pc := 40) (w := uI w23 a0 4 2) C k25 dX12_copy_40 ?_
        refine g_if_le (pc := 43) C dX12_copy_43 (tgt := 48) rfl (fun z31 => ?_) (fun z31 => ?_)
        · replace h := h.1 z31
          refine g_iconst (pc := 48) C dX12_copy_48 (v := 0) rfl ?_
          refine g_istore_n (pc := 49) C dX12_copy_49 (Nat.le_of_ble_eq_true rfl) (lo' := [(3, .int 0), (0, .ref (adr x a0)), (1, .int a1), (2, .int a2)]) rfl ?_
          obtain ⟨n32, h⟩ := h
          refine g_sub [1, 2, 3, 0] rfl ?_
          refine t_X12_copy_50 C hlk hr n32 _ _ _ _ _ h
        · replace h := h.2 z31
          refine g_iconst (pc := 46) C dX12_copy_46 (v := 0) rfl ?_
          exact g_iret (pc := 47) C hlk hr (Nat.le_refl _) (Nat.le_refl _) dX12_copy_47 h
    · replace h := h.1 z24
      refine g_iconst (pc := 17) C dX12_copy_17 (v := 1) rfl ?_
      refine g_goto (pc := 18) C dX12_copy_18 (tgt := 36) rfl ?_
      obtain ⟨k33, h⟩ := h
      refine pfX12_58 (pc := 36) C k33 dX12_copy_36 ?_
      refine g_aload_n (pc := 39) C dX12_copy_39 (q := 0) rfl ?_
      refine gfX12_58 (pc := 40) (w := uI w23 a0 4 1) C k33 dX12_copy_40 ?_
      refine g_if_le (pc := 43) C dX12_copy_43 (tgt := 48) rfl (fun z34 => ?_) (fun z34 => ?_)
      · replace h := h.1 z34
        refine g_iconst (pc := 48) C dX12_copy_48 (v := 0) rfl ?_
        refine g_istore_n (pc := 49) C dX12_copy_49 (Nat.le_of_ble_eq_true rfl) (lo' := [(3, .int 0), (0, .ref (adr x a0)), (1, .int a1), (2, .int a2)]) rfl ?_
        obtain ⟨n35, h⟩ := h
        refine g_sub [1, 2, 3, 0] rfl ?_
        refine t_X12_copy_50 C hlk hr n35 _ _ _ _ _ h
      · replace h := h.2 z34
        refine g_iconst (pc := 46) C dX12_copy_46 (v := 0) rfl ?_
        exact g_iret (pc := 47) C hlk hr (Nat.le_refl _) (Nat.le_refl _) dX12_copy_47 h
def l_X12_pairs_4  (K : Int32 → Wd → Prop) : Nat → Nat → Int32 → Int32 → Wd → Prop
  | 0, _, _, _, _ => False
  | n + 1, a0, a1, a2, w => isK w a0 12 ∧ w_X12_wells a0 (fun r2 w3 => ((r2 ≤ a2 → K (a1 / 2) w3) ∧ (¬ r2 ≤ a2 → isK w3 a0 12 ∧ isK w3 (wR w3 a0 0) 20 ∧ vp_in (57 + a2) (wn w3 (wR w3 a0 0)) ∧ w_X12_size (wI w3 (wR w3 a0 0) (57 + a2).toNatClampNeg) (fun r8 w9 => l_X12_pairs_4 K n a0 (a1 + r8) (a2 + 1) w9) w3))) w
def w_X12_pairs (a0 : Nat) (K : Int32 → Wd → Prop) (w : Wd) : Prop :=
  ∃ n10, l_X12_pairs_4  K n10 a0 0 0 w
theorem t_X12_pairs_4 (C : xC x p s m c cX12_pairs 3 args RX12) (hlk : meth.locks = false) (hr : meth.sig.returnType = some .int) {K : Int32 → Wd → Prop}   : ∀ (n : Nat) (a0 : Nat) (a1 : Int32) (a2 : Int32) (w : Wd), l_X12_pairs_4 K n a0 a1 a2 w → GW x p l e (rmd 1 0 0) s m args below meth c 3 (QI x K below args s 0 0) 4 [(0, .ref (adr x a0)), (1, .int a1), (2, .int a2)] [] w 0 0 := by
  intro n
  induction n with
  | zero => intro _ _ _ _ h; exact False.elim h
  | succ n ih =>
    intro a0 a1 a2 w h
    refine g_iload_n (pc := 4) C dX12_pairs_4 (q := 2) rfl ?_
    refine g_aload_n (pc := 5) C dX12_pairs_5 (q := 0) rfl ?_
    obtain ⟨k1, h⟩ := h
    refine miX12_239 (pc := 6) C k1 h (Nat.le_of_ble_eq_true rfl) (Nat.le_of_ble_eq_true rfl) ⟨Nat.le_refl _, Nat.le_refl _⟩ dX12_pairs_6 (fun r2 w3 h => ?_)
    refine g_icmp_ge (pc := 9) C dX12_pairs_9 (tgt := 33) rfl (fun z4 => ?_) (fun z4 => ?_)
    · replace h := h.1 z4
      refine g_iload_n (pc := 33) C dX12_pairs_33 (q := 1) rfl ?_
      refine g_iconst (pc := 34) C dX12_pairs_34 (v := 2) rfl ?_
      refine g_idiv (pc := 35) C dX12_pairs_35 (by decide) ?_
      exact g_iret (pc := 36) C hlk hr (Nat.le_refl _) (Nat.le_refl _) dX12_pairs_36 h
    · replace h := h.2 z4
      refine g_iload_n (pc := 12) C dX12_pairs_12 (q := 1) rfl ?_
      refine g_aload_n (pc := 13) C dX12_pairs_13 (q := 0) rfl ?_
      obtain ⟨k5, h⟩ := h
      obtain ⟨k6, h⟩ := h
      refine gfX12_9 (pc := 14) C k5 (isK_ne k6) dX12_pairs_14 ?_
      refine g_bipush (pc := 17) C dX12_pairs_17 (v := 57) rfl ?_
      refine g_iload_n (pc := 19) C dX12_pairs_19 (q := 2) rfl ?_
      refine g_iadd (pc := 20) C dX12_pairs_20 ?_
      obtain ⟨k7, h⟩ := h
      refine g_iald (pc := 21) C k6 k7 dX12_pairs_21 ?_
      refine miX12_265 (pc := 22) C h (Nat.le_of_ble_eq_true rfl) (Nat.le_of_ble_eq_true rfl) ⟨Nat.le_refl _, Nat.le_refl _⟩ dX12_pairs_22 (fun r8 w9 h => ?_)
      refine g_iadd (pc := 25) C dX12_pairs_25 ?_
      refine g_istore_n (pc := 26) C dX12_pairs_26 (Nat.le_of_ble_eq_true rfl) (lo' := [(1, .int (a1 + r8)), (0, .ref (adr x a0)), (2, .int a2)]) rfl ?_
      refine g_iinc (pc := 27) C dX12_pairs_27 (q := 2) rfl (v2 := a2 + 1) rfl (Nat.le_of_ble_eq_true rfl) (lo' := [(2, .int (a2 + 1)), (1, .int (a1 + r8)), (0, .ref (adr x a0))]) rfl ?_
      refine g_goto (pc := 30) C dX12_pairs_30 (tgt := 4) rfl ?_
      refine g_sub [2, 1, 0] rfl ?_
      exact ih _ _ _ _ h
theorem c_X12_pairs {x : xG} {l : Launch} {a0 : Nat} {K : Int32 → Wd → Prop} {w : Wd} (h : w_X12_pairs a0 K w) : Met l yX12_pairs (xws yX12_pairs cX12_pairs 3 (some .int)) (rmd 1 0 0) (xPc x [.ref (adr x a0)] w) (QcI x K) 0 0 (xA x) := by
  refine xMet (by decide) (Nat.le_of_ble_eq_true rfl) (fun p e s m below meth c C hlk hr _ => ?_)
  show GW x p l e (rmd 1 0 0) s m [.ref (adr x a0)].toArray below meth c 3 (QI x K below [.ref (adr x a0)].toArray s 0 0) 0 [(0, .ref (adr x a0))] [] w 0 0
  refine g_iconst (pc := 0) C dX12_pairs_0 (v := 0) rfl ?_
  refine g_istore_n (pc := 1) C dX12_pairs_1 (Nat.le_of_ble_eq_true rfl) (lo' := [(1, .int 0), (0, .ref (adr x a0))]) rfl ?_
  refine g_iconst (pc := 2) C dX12_pairs_2 (v := 0) rfl ?_
  refine g_istore_n (pc := 3) C dX12_pairs_3 (Nat.le_of_ble_eq_true rfl) (lo' := [(2, .int 0), (1, .int 0), (0, .ref (adr x a0))]) rfl ?_
  obtain ⟨n10, h⟩ := h
  refine g_sub [2, 1, 0] rfl ?_
  refine t_X12_pairs_4 C hlk hr n10 _ _ _ _ h
theorem miX12_469 (C : xC x p s m c cc nL args RX12) {a0 : Nat} {K : Int32 → Wd → Prop} {D MC MS : Nat} (hq : isK w a0 12) (h : w_X12_pairs a0 K w) (hD : 1 + 1 ≤ D) (hW : (st.map fun v => v.category).sum ≤ 8) (hij : i ≤ MC ∧ j ≤ MS) (hd : decode cc pc = .ok (.invokevirtual 469, 3)) (k : ∀ (r : Int32) (u : Wd), K r u → GW x p l e (rmd D MC MS) s m args below meth c nL Q (pc + 3) lo (.int r :: st) u i j) : GW x p l e (rmd D MC MS) s m args below meth c nL Q pc lo (.ref (adr x a0) :: st) w i j := g_callVi0 C (As := []) (ci := 12) (c_X12_pairs h) (x_cwV C 0 LMX12_469 ⟨rfl, by decide, by decide, rfl⟩ hD (by decide)) rfl hq (by decide) rfl rfl hW hd hij k
def w_X12_count (a0 : Nat) (a1 : Int32) (K : Int32 → Wd → Prop) (w : Wd) : Prop :=
  isK w a0 12 ∧ ((a1 = 0 → isK w (wR w a0 0) 20 ∧ vp_in 0 (wn w (wR w a0 0)) ∧ K (wI (uI w a0 4 0) (wR w a0 0) (0 : Int32).toNatClampNeg) (uI w a0 4 0)) ∧ (¬ a1 = 0 → ((a1 = 1 → w_X12_wells a0 (fun r14 w15 => K r14 w15) (uI w a0 4 0)) ∧ (¬ a1 = 1 → ((a1 = 2 → isK w (wR w a0 0) 20 ∧ vp_in 2 (wn w (wR w a0 0)) ∧ K (wI (uI w a0 4 0) (wR w a0 0) (2 : Int32).toNatClampNeg) (uI w a0 4 0)) ∧ (¬ a1 = 2 → ((a1 = 3 → isK w (wR w a0 0) 20 ∧ vp_in 26 (wn w (wR w a0 0)) ∧ K (wI (uI w a0 4 0) (wR w a0 0) (26 : Int32).toNatClampNeg) (uI w a0 4 0)) ∧ (¬ a1 = 3 → ((a1 = 4 → w_X12_upIn a0 0 (fun r20 w21 => w_X12_size r20 (fun r22 w23 => K r22 w23) w21) (uI w a0 4 0)) ∧ (¬ a1 = 4 → ((a1 = 5 → isK w (wR w a0 0) 20 ∧ vp_in 25 (wn w (wR w a0 0)) ∧ w_X12_size (wI (uI w a0 4 0) (wR w a0 0) (25 : Int32).toNatClampNeg) (fun r26 w27 => K r26 w27) (uI w a0 4 0)) ∧ (¬ a1 = 5 → ((a1 = 6 → w_X12_pairs a0 (fun r28 w29 => K r28 w29) (uI w a0 4 0)) ∧ (¬ a1 = 6 → ((a1 = 7 → isK w (wR w a0 0) 20 ∧ vp_in 4 (wn w (wR w a0 0)) ∧ K (wI (uI w a0 4 0) (wR w a0 0) (4 : Int32).toNatClampNeg) (uI w a0 4 0)) ∧ (¬ a1 = 7 → ((a1 = 8 → K (wI (uI w a0 4 0) a0 6) (uI w a0 4 0)) ∧ (¬ a1 = 8 → ((a1 = 9 → isK w (wR w a0 0) 20 ∧ vp_in 3 (wn w (wR w a0 0)) ∧ (((wI (uI w a0 4 0) (wR w a0 0) (3 : Int32).toNatClampNeg) ≤ 0 → K 0 (uI w a0 4 0)) ∧ (¬ (wI (uI w a0 4 0) (wR w a0 0) (3 : Int32).toNatClampNeg) ≤ 0 → K 1 (uI w a0 4 0)))) ∧ (¬ a1 = 9 → K (-1) (uI w a0 4 0)))))))))))))))))))))
theorem c_X12_count {x : xG} {l : Launch} {a0 : Nat} {a1 : Int32} {K : Int32 → Wd → Prop} {w : Wd} (h : w_X12_count a0 a1 K w) : Met l yX12_count (xws yX12_count cX12_count 2 (some .int)) (rmd 3 0 0) (xPc x [.ref (adr x a0), .int a1] w) (QcI x K) 0 0 (xA x) := by
  refine xMet (by decide) (Nat.le_of_ble_eq_true rfl) (fun p e s m below meth c C hlk hr _ => ?_)
  show GW x p l e (rmd 3 0 0) s m [.ref (adr x a0), .int a1].toArray below meth c 2 (QI x K below [.ref (adr x a0), .int a1].toArray s 0 0) 0 [(0, .ref (adr x a0)), (1, .int a1)] [] w 0 0
  refine g_aload_n (pc := 0) C dX12_count_0 (q := 0) rfl ?_
  refine g_iconst (pc := 1) C dX12_count_1 (v := 0) rfl ?_
  obtain ⟨k1, h⟩ := h
  refine pfX12_58 (pc := 2) C k1 dX12_count_2 ?_
  refine g_iload_n (pc := 5) C dX12_count_5 (q := 1) rfl ?_
  by_cases z2 : a1 = 0
  · replace h := h.1 z2
    refine g_tabIn (pc := 6) C dX12_count_6 (by rw [z2]; decide) (by rw [z2]; decide) (off := 54) (by rw [z2]; rfl) (tgt := 60) rfl ?_
    refine g_aload_n (pc := 60) C dX12_count_60 (q := 0) rfl ?_
    obtain ⟨k12, h⟩ := h
    refine gfX12_9 (pc := 61) (w := uI w a0 4 0) C k1 (isK_ne k12) dX12_count_61 ?_
    refine g_iconst (pc := 64) C dX12_count_64 (v := 0) rfl ?_
    obtain ⟨k13, h⟩ := h
    refine g_iald (pc := 65) (w := uI w a0 4 0) C k12 k13 dX12_count_65 ?_
    exact g_iret (pc := 66) C hlk hr (Nat.le_refl _) (Nat.le_refl _) dX12_count_66 h
  replace h := h.2 z2
  by_cases z3 : a1 = 1
  · replace h := h.1 z3
    refine g_tabIn (pc := 6) C dX12_count_6 (by rw [z3]; decide) (by rw [z3]; decide) (off := 61) (by rw [z3]; rfl) (tgt := 67) rfl ?_
    refine g_aload_n (pc := 67) C dX12_count_67 (q := 0) rfl ?_
    refine miX12_239 (pc := 68) (w := uI w a0 4 0) C k1 h (Nat.le_of_ble_eq_true rfl) (Nat.le_of_ble_eq_true rfl) ⟨Nat.le_refl _, Nat.le_refl _⟩ dX12_count_68 (fun r14 w15 h => ?_)
    exact g_iret (pc := 71) C hlk hr (Nat.le_refl _) (Nat.le_refl _) dX12_count_71 h
  replace h := h.2 z3
  by_cases z4 : a1 = 2
  · replace h := h.1 z4
    refine g_tabIn (pc := 6) C dX12_count_6 (by rw [z4]; decide) (by rw [z4]; decide) (off := 66) (by rw [z4]; rfl) (tgt := 72) rfl ?_
    refine g_aload_n (pc := 72) C dX12_count_72 (q := 0) rfl ?_
    obtain ⟨k16, h⟩ := h
    refine gfX12_9 (pc := 73) (w := uI w a0 4 0) C k1 (isK_ne k16) dX12_count_73 ?_
    refine g_iconst (pc := 76) C dX12_count_76 (v := 2) rfl ?_
    obtain ⟨k17, h⟩ := h
    refine g_iald (pc := 77) (w := uI w a0 4 0) C k16 k17 dX12_count_77 ?_
    exact g_iret (pc := 78) C hlk hr (Nat.le_refl _) (Nat.le_refl _) dX12_count_78 h
  replace h := h.2 z4
  by_cases z5 : a1 = 3
  · replace h := h.1 z5
    refine g_tabIn (pc := 6) C dX12_count_6 (by rw [z5]; decide) (by rw [z5]; decide) (off := 73) (by rw [z5]; rfl) (tgt := 79) rfl ?_
    refine g_aload_n (pc := 79) C dX12_count_79 (q := 0) rfl ?_
    obtain ⟨k18, h⟩ := h
    refine gfX12_9 (pc := 80) (w := uI w a0 4 0) C k1 (isK_ne k18) dX12_count_80 ?_
    refine g_bipush (pc := 83) C dX12_count_83 (v := 26) rfl ?_
    obtain ⟨k19, h⟩ := h
    refine g_iald (pc := 85) (w := uI w a0 4 0) C k18 k19 dX12_count_85 ?_
    exact g_iret (pc := 86) C hlk hr (Nat.le_refl _) (Nat.le_refl _) dX12_count_86 h
  replace h := h.2 z5
  by_cases z6 : a1 = 4
  · replace h := h.1 z6
    refine g_tabIn (pc := 6) C dX12_count_6 (by rw [z6]; decide) (by rw [z6]; decide) (off := 81) (by rw [z6]; rfl) (tgt := 87) rfl ?_
    refine g_aload_n (pc := 87) C dX12_count_87 (q := 0) rfl ?_
    refine g_iconst (pc := 88) C dX12_count_88 (v := 0) rfl ?_
    refine miX12_294 (pc := 89) (w := uI w a0 4 0) C k1 h (Nat.le_of_ble_eq_true rfl) (Nat.le_of_ble_eq_true rfl) ⟨Nat.le_refl _, Nat.le_refl _⟩ dX12_count_89 (fun r20 w21 h => ?_)
    refine miX12_265 (pc := 92) C h (Nat.le_of_ble_eq_true rfl) (Nat.le_of_ble_eq_true rfl) ⟨Nat.le_refl _, Nat.le_refl _⟩ dX12_count_92 (fun r22 w23 h => ?_)
    exact g_iret (pc := 95) C hlk hr (Nat.le_refl _) (Nat.le_refl _) dX12_count_95 h
  replace h := h.2 z6
  by_cases z7 : a1 = 5
  · replace h := h.1 z7
    refine g_tabIn (pc := 6) C dX12_count_6 (by rw [z7]; decide) (by rw [z7]; decide) (off := 90) (by rw [z7]; rfl) (tgt := 96) rfl ?_
    refine g_aload_n (pc := 96) C dX12_count_96 (q := 0) rfl ?_
    obtain ⟨k24, h⟩ := h
    refine gfX12_9 (pc := 97) (w := uI w a0 4 0) C k1 (isK_ne k24) dX12_count_97 ?_
    refine g_bipush (pc := 100) C dX12_count_100 (v := 25) rfl ?_
    obtain ⟨k25, h⟩ := h
    refine g_iald (pc := 102) (w := uI w a0 4 0) C k24 k25 dX12_count_102 ?_
    refine miX12_265 (pc := 103) (w := uI w a0 4 0) C h (Nat.le_of_ble_eq_true rfl) (Nat.le_of_ble_eq_true rfl) ⟨Nat.le_refl _, Nat.le_refl _⟩ dX12_count_103 (fun r26 w27 h => ?_)
    exact g_iret (pc := 106) C hlk hr (Nat.le_refl _) (Nat.le_refl _) dX12_count_106 h
  replace h := h.2 z7
  by_cases z8 : a1 = 6
  · replace h := h.1 z8
    refine g_tabIn (pc := 6) C dX12_count_6 (by rw [z8]; decide) (by rw [z8]; decide) (off := 101) (by rw [z8]; rfl) (tgt := 107) rfl ?_
    refine g_aload_n (pc := 107) C dX12_count_107 (q := 0) rfl ?_
    refine miX12_469 (pc := 108) (w := uI w a0 4 0) C k1 h (Nat.le_of_ble_eq_true rfl) (Nat.le_of_ble_eq_true rfl) ⟨Nat.le_refl _, Nat.le_refl _⟩ dX12_count_108 (fun r28 w29 h => ?_)
    exact g_iret (pc := 111) C hlk hr (Nat.le_refl _) (Nat.le_refl _) dX12_count_111 h
  replace h := h.2 z8
  by_cases z9 : a1 = 7
  · replace h := h.1 z9
    refine g_tabIn (pc := 6) C dX12_count_6 (by rw [z9]; decide) (by rw [z9]; decide) (off := 106) (by rw [z9]; rfl) (tgt := 112) rfl ?_
    refine g_aload_n (pc := 112) C dX12_count_112 (q := 0) rfl ?_
    obtain ⟨k30, h⟩ := h
    refine gfX12_9 (pc := 113) (w := uI w a0 4 0) C k1 (isK_ne k30) dX12_count_113 ?_
    refine g_iconst (pc := 116) C dX12_count_116 (v := 4) rfl ?_
    obtain ⟨k31, h⟩ := h
    refine g_iald (pc := 117) (w := uI w a0 4 0) C k30 k31 dX12_count_117 ?_
    exact g_iret (pc := 118) C hlk hr (Nat.le_refl _) (Nat.le_refl _) dX12_count_118 h
  replace h := h.2 z9
  by_cases z10 : a1 = 8
  · replace h := h.1 z10
    refine g_tabIn (pc := 6) C dX12_count_6 (by rw [z10]; decide) (by rw [z10]; decide) (off := 113) (by rw [z10]; rfl) (tgt := 119) rfl ?_
    refine g_aload_n (pc := 119) C dX12_count_119 (q := 0) rfl ?_
    refine gfX12_61 (pc := 120) (w := uI w a0 4 0) C k1 dX12_count_120 ?_
    exact g_iret (pc := 123) C hlk hr (Nat.le_refl _) (Nat.le_refl _) dX12_count_123 h
  replace h := h.2 z10
  by_cases z11 : a1 = 9
  · replace h := h.1 z11
    refine g_tabIn (pc := 6) C dX12_count_6 (by rw [z11]; decide) (by rw [z11]; decide) (off := 118) (by rw [z11]; rfl) (tgt := 124) rfl ?_
    refine g_aload_n (pc := 124) C dX12_count_124 (q := 0) rfl ?_
    obtain ⟨k32, h⟩ := h
    refine gfX12_9 (pc := 125) (w := uI w a0 4 0) C k1 (isK_ne k32) dX12_count_125 ?_
    refine g_iconst (pc := 128) C dX12_count_128 (v := 3) rfl ?_
    obtain ⟨k33, h⟩ := h
    refine g_iald (pc := 129) (w := uI w a0 4 0) C k32 k33 dX12_count_129 ?_
    refine g_if_le (pc := 130) C dX12_count_130 (tgt := 137) rfl (fun z34 => ?_) (fun z34 => ?_)
    · replace h := h.1 z34
      refine g_iconst (pc := 137) C dX12_count_137 (v := 0) rfl ?_
      exact g_iret (pc := 138) C hlk hr (Nat.le_refl _) (Nat.le_refl _) dX12_count_138 h
    · replace h := h.2 z34
      refine g_iconst (pc := 133) C dX12_count_133 (v := 1) rfl ?_
      refine g_goto (pc := 134) C dX12_count_134 (tgt := 138) rfl ?_
      exact g_iret (pc := 138) C hlk hr (Nat.le_refl _) (Nat.le_refl _) dX12_count_138 h
  replace h := h.2 z11
  have y35 := ne_toInt (n := 0) z2 (by decide)
  have y36 := ne_toInt (n := 1) z3 (by decide)
  have y37 := ne_toInt (n := 2) z4 (by decide)
  have y38 := ne_toInt (n := 3) z5 (by decide)
  have y39 := ne_toInt (n := 4) z6 (by decide)
  have y40 := ne_toInt (n := 5) z7 (by decide)
  have y41 := ne_toInt (n := 6) z8 (by decide)
  have y42 := ne_toInt (n := 7) z9 (by decide)
  have y43 := ne_toInt (n := 8) z10 (by decide)
  have y44 := ne_toInt (n := 9) z11 (by decide)
  refine g_tabOut (pc := 6) C dX12_count_6 (by omega) (tgt := 139) rfl ?_
  refine g_iconst (pc := 139) C dX12_count_139 (v := (-1)) rfl ?_
  exact g_iret (pc := 140) C hlk hr (Nat.le_refl _) (Nat.le_refl _) dX12_count_140 h
def w_X12_draws (a0 : Nat) (a1 : Int32) (a2 : Int32) (K : Int32 → Wd → Prop) (w : Wd) : Prop :=
  isK w a0 12 ∧ w_X12_chainOf a0 a1 a2 (fun r2 w3 => isK w3 a0 12 ∧ isK w3 (wR w3 a0 0) 20 ∧ vp_in (15 + a1) (wn w3 (wR w3 a0 0)) ∧ vp_in (15 + a1) (wn w3 (wR w3 a0 0)) ∧ w_X12_wake a0 r2 (fun r8 w9 => K r8 w9) (uI w3 (wR w3 a0 0) (15 + a1).toNatClampNeg ((wI w3 (wR w3 a0 0) (15 + a1).toNatClampNeg) - a2))) w
theorem c_X12_draws {x : xG} {l : Launch} {a0 : Nat} {a1 : Int32} {a2 : Int32} {K : Int32 → Wd → Prop} {w : Wd} (h : w_X12_draws a0 a1 a2 K w) : Met l yX12_draws (xws yX12_draws cX12_draws 4 (some .int)) (rmd 6 0 0) (xPc x [.ref (adr x a0), .int a1, .int a2] w) (QcI x K) 0 0 (xA x) := by
  refine xMet (by decide) (Nat.le_of_ble_eq_true rfl) (fun p e s m below meth c C hlk hr _ => ?_)
  show GW x p l e (rmd 6 0 0) s m [.ref (adr x a0), .int a1, .int a2].toArray below meth c 4 (QI x K below [.ref (adr x a0), .int a1, .int a2].toArray s 0 0) 0 [(0, .ref (adr x a0)), (1, .int a1), (2, .int a2)] [] w 0 0
  refine g_aload_n (pc := 0) C dX12_draws_0 (q := 0) rfl ?_
  refine g_iload_n (pc := 1) C dX12_draws_1 (q := 1) rfl ?_
  refine g_iload_n (pc := 2) C dX12_draws_2 (q := 2) rfl ?_
  obtain ⟨k1, h⟩ := h
  refine miX12_316 (pc := 3) C k1 h (Nat.le_of_ble_eq_true rfl) (Nat.le_of_ble_eq_true rfl) ⟨Nat.le_refl _, Nat.le_refl _⟩ dX12_draws_3 (fun r2 w3 h => ?_)
  refine g_istore_n (pc := 6) C dX12_draws_6 (Nat.le_of_ble_eq_true rfl) (lo' := [(3, .int r2), (0, .ref (adr x a0)), (1, .int a1), (2, .int a2)]) rfl ?_
  refine g_aload_n (pc := 7) C dX12_draws_7 (q := 1) rfl ?_
  obtain ⟨k4, h⟩ := h
  obtain ⟨k5, h⟩ := h
  refine gfX12_9 (pc := 8) C k4 (isK_ne k5) dX12_draws_8 ?_
  refine g_bipush (pc := 11) C dX12_draws_11 (v := 15) rfl ?_
  refine g_iload_n (pc := 13) C dX12_draws_13 (q := 2) rfl ?_
  refine g_iadd (pc := 14) C dX12_draws_14 ?_
  refine g_dup2 (pc := 15) C dX12_draws_15 rfl rfl ?_
  obtain ⟨k6, h⟩ := h
  refine g_iald (pc := 16) C k5 k6 dX12_draws_16 ?_
  refine g_iload_n (pc := 17) C dX12_draws_17 (q := 3) rfl ?_
  refine g_isub (pc := 18) C dX12_draws_18 ?_
  obtain ⟨k7, h⟩ := h
  refine g_iast (pc := 19) C k5 k7 dX12_draws_19 ?_
  refine g_aload_n (pc := 20) C dX12_draws_20 (q := 1) rfl ?_
  refine g_iload_n (pc := 21) C dX12_draws_21 (q := 0) rfl ?_
  refine miX12_319 (pc := 22) (w := uI w3 (wR w3 a0 0) (15 + a1).toNatClampNeg ((wI w3 (wR w3 a0 0) (15 + a1).toNatClampNeg) - a2)) C k4 h (Nat.le_of_ble_eq_true rfl) (Nat.le_of_ble_eq_true rfl) ⟨Nat.le_refl _, Nat.le_refl _⟩ dX12_draws_22 (fun r8 w9 h => ?_)
  exact g_iret (pc := 25) C hlk hr (Nat.le_refl _) (Nat.le_refl _) dX12_draws_25 h
def j_X12_dreams_52  (K : Wd → Prop) (a0 : Nat) (a4 : Int32) (s0 : Int32) (w : Wd) : Prop :=
  isK w a0 12 ∧ isK w (wR w a0 0) 20 ∧ vp_in (15 + s0) (wn w (wR w a0 0)) ∧ vp_in (47 + s0) (wn w (wR w a0 0)) ∧ (((wI w (wR w a0 0) (15 + s0).toNatClampNeg) < (wI w (wR w a0 0) (47 + s0).toNatClampNeg) → vp_in (15 + a4) (wn w (wR w a0 0)) ∧ vp_in (15 + a4) (wn w (wR w a0 0)) ∧ vp_in (15 + s0) (wn w (wR w a0 0)) ∧ vp_in (15 + s0) (wn w (wR w a0 0)) ∧ K (uI (uI w (wR w a0 0) (15 + a4).toNatClampNeg ((wI w (wR w a0 0) (15 + a4).toNatClampNeg) - 1)) (wR w a0 0) (15 + s0).toNatClampNeg ((wI (uI w (wR w a0 0) (15 + a4).toNatClampNeg ((wI w (wR w a0 0) (15 + a4).toNatClampNeg) - 1)) (wR w a0 0) (15 + s0).toNatClampNeg) + 1))) ∧ (¬ (wI w (wR w a0 0) (15 + s0).toNatClampNeg) < (wI w (wR w a0 0) (47 + s0).toNatClampNeg) → K w))
def j_X12_dreams_32  (K : Wd → Prop) (a0 : Nat) (a1 : Int32) (a2 : Int32) (a3 : Int32) (w : Wd) : Prop :=
  ((a3 ≤ 0 → ((a3 ≤ 0 → j_X12_dreams_52 K a0 a2 a1 w) ∧ (¬ a3 ≤ 0 → j_X12_dreams_52 K a0 a2 a2 w))) ∧ (¬ a3 ≤ 0 → ((a3 ≤ 0 → j_X12_dreams_52 K a0 a1 a1 w) ∧ (¬ a3 ≤ 0 → j_X12_dreams_52 K a0 a1 a2 w))))
def w_X12_dreams (a0 : Nat) (a1 : Int32) (a2 : Int32) (K : Wd → Prop) (w : Wd) : Prop :=
  isK w a0 12 ∧ isK w (wR w a0 0) 20 ∧ vp_in (15 + a1) (wn w (wR w a0 0)) ∧ vp_in (15 + a2) (wn w (wR w a0 0)) ∧ ((((wI w (wR w a0 0) (15 + a1).toNatClampNeg) - (wI w (wR w a0 0) (15 + a2).toNatClampNeg)) ≤ (-2) → j_X12_dreams_32 K a0 a1 a2 ((wI w (wR w a0 0) (15 + a1).toNatClampNeg) - (wI w (wR w a0 0) (15 + a2).toNatClampNeg)) w) ∧ (¬ ((wI w (wR w a0 0) (15 + a1).toNatClampNeg) - (wI w (wR w a0 0) (15 + a2).toNatClampNeg)) ≤ (-2) → ((2 ≤ ((wI w (wR w a0 0) (15 + a1).toNatClampNeg) - (wI w (wR w a0 0) (15 + a2).toNatClampNeg)) → j_X12_dreams_32 K a0 a1 a2 ((wI w (wR w a0 0) (15 + a1).toNatClampNeg) - (wI w (wR w a0 0) (15 + a2).toNatClampNeg)) w) ∧ (¬ 2 ≤ ((wI w (wR w a0 0) (15 + a1).toNatClampNeg) - (wI w (wR w a0 0) (15 + a2).toNatClampNeg)) → K w))))
theorem t_X12_dreams_52 (C : xC x p s m c cX12_dreams 6 args RX12) (hlk : meth.locks = false) (hr : meth.sig.returnType = none) {K : Wd → Prop}   (a0 : Nat) (a4 : Int32) (s0 : Int32) (w : Wd) (h : j_X12_dreams_52 K a0 a4 s0 w) : GW x p l e (rmd 0 0 0) s m args below meth c 6 (QV x K below args s 0 0) 52 [(0, .ref (adr x a0)), (4, .int a4)] [.int s0] w 0 0 := by
  refine g_istore (pc := 52) C dX12_dreams_52 (Nat.le_of_ble_eq_true rfl) (lo' := [(5, .int s0), (0, .ref (adr x a0)), (4, .int a4)]) rfl ?_
  refine g_aload_n (pc := 54) C dX12_dreams_54 (q := 1) rfl ?_
  obtain ⟨k8, h⟩ := h
  obtain ⟨k9, h⟩ := h
  refine gfX12_9 (pc := 55) C k8 (isK_ne k9) dX12_dreams_55 ?_
  refine g_bipush (pc := 58) C dX12_dreams_58 (v := 15) rfl ?_
  refine g_iload (pc := 60) C dX12_dreams_60 (q := 0) rfl ?_
  refine g_iadd (pc := 62) C dX12_dreams_62 ?_
  obtain ⟨k10, h⟩ := h
  refine g_iald (pc := 63) C k9 k10 dX12_dreams_63 ?_
  refine g_aload_n (pc := 64) C dX12_dreams_64 (q := 1) rfl ?_
  refine gfX12_9 (pc := 65) C k8 (isK_ne k9) dX12_dreams_65 ?_
  refine g_bipush (pc := 68) C dX12_dreams_68 (v := 47) rfl ?_
  refine g_iload (pc := 70) C dX12_dreams_70 (q := 0) rfl ?_
  refine g_iadd (pc := 72) C dX12_dreams_72 ?_
  obtain ⟨k11, h⟩ := h
  refine g_iald (pc := 73) C k9 k11 dX12_dreams_73 ?_
  refine g_icmp_lt (pc := 74) C dX12_dreams_74 (tgt := 78) rfl (fun z12 => ?_) (fun z12 => ?_)
  · replace h := h.1 z12
    refine g_aload_n (pc := 78) C dX12_dreams_78 (q := 1) rfl ?_
    refine gfX12_9 (pc := 79) C k8 (isK_ne k9) dX12_dreams_79 ?_
    refine g_bipush (pc := 82) C dX12_dreams_82 (v := 15) rfl ?_
    refine g_iload (pc := 84) C dX12_dreams_84 (q := 2) rfl ?_
    refine g_iadd (pc := 86) C dX12_dreams_86 ?_
    refine g_dup2 (pc := 87) C dX12_dreams_87 rfl rfl ?_
    obtain ⟨k13, h⟩ := h
    refine g_iald (pc := 88) C k9 k13 dX12_dreams_88 ?_
    refine g_iconst (pc := 89) C dX12_dreams_89 (v := 1) rfl ?_
    refine g_isub (pc := 90) C dX12_dreams_90 ?_
    obtain ⟨k14, h⟩ := h
    refine g_iast (pc := 91) C k9 k14 dX12_dreams_91 ?_
    refine g_aload_n (pc := 92) C dX12_dreams_92 (q := 1) rfl ?_
    refine gfX12_9 (pc := 93) (w := uI w (wR w a0 0) (15 + a4).toNatClampNeg ((wI w (wR w a0 0) (15 + a4).toNatClampNeg) - 1)) C k8 (isK_ne k9) dX12_dreams_93 ?_
    refine g_bipush (pc := 96) C dX12_dreams_96 (v := 15) rfl ?_
    refine g_iload (pc := 98) C dX12_dreams_98 (q := 0) rfl ?_
    refine g_iadd (pc := 100) C dX12_dreams_100 ?_
    refine g_dup2 (pc := 101) C dX12_dreams_101 rfl rfl ?_
    obtain ⟨k15, h⟩ := h
    refine g_iald (pc := 102) (w := uI w (wR w a0 0) (15 + a4).toNatClampNeg ((wI w (wR w a0 0) (15 + a4).toNatClampNeg) - 1)) C k9 k15 dX12_dreams_102 ?_
    refine g_iconst (pc := 103) C dX12_dreams_103 (v := 1) rfl ?_
    refine g_iadd (pc := 104) C dX12_dreams_104 ?_
    obtain ⟨k16, h⟩ := h
    refine g_iast (pc := 105) (w := uI w (wR w a0 0) (15 + a4).toNatClampNeg ((wI w (wR w a0 0) (15 + a4).toNatClampNeg) - 1)) C k9 k16 dX12_dreams_105 ?_
    exact g_vret (pc := 106) C hlk hr (Nat.le_refl _) (Nat.le_refl _) dX12_dreams_106 h
  · replace h := h.2 z12
    exact g_vret (pc := 77) C hlk hr (Nat.le_refl _) (Nat.le_refl _) dX12_dreams_77 h
theorem t_X12_dreams_32 (C : xC x p s m c cX12_dreams 6 args RX12) (hlk : meth.locks = false) (hr : meth.sig.returnType = none) {K : Wd → Prop}   (a0 : Nat) (a1 : Int32) (a2 : Int32) (a3 : Int32) (w : Wd) (h : j_X12_dreams_32 K a0 a1 a2 a3 w) : GW x p l e (rmd 0 0 0) s m args below meth c 6 (QV x K below args s 0 0) 32 [(0, .ref (adr x a0)), (1, .int a1), (2, .int a2), (3, .int a3)] [] w 0 0 := by
  refine g_iload_n (pc := 32) C dX12_dreams_32 (q := 3) rfl ?_
  refine g_if_le (pc := 33) C dX12_dreams_33 (tgt := 40) rfl (fun z6 => ?_) (fun z6 => ?_)
  · replace h := h.1 z6
    refine g_iload_n (pc := 40) C dX12_dreams_40 (q := 2) rfl ?_
    refine g_istore (pc := 41) C dX12_dreams_41 (Nat.le_of_ble_eq_true rfl) (lo' := [(4, .int a2), (0, .ref (adr x a0)), (1, .int a1), (2, .int a2), (3, .int a3)]) rfl ?_
    refine g_iload_n (pc := 43) C dX12_dreams_43 (q := 4) rfl ?_
    refine g_if_le (pc := 44) C dX12_dreams_44 (tgt := 51) rfl (fun z7 => ?_) (fun z7 => ?_)
    · replace h := h.1 z7
      refine g_iload_n (pc := 51) C dX12_dreams_51 (q := 2) rfl ?_
      refine g_sub [1, 0] rfl ?_
      exact t_X12_dreams_52 C hlk hr  _ _ _ _ h
    · replace h := h.2 z7
      refine g_iload_n (pc := 47) C dX12_dreams_47 (q := 3) rfl ?_
      refine g_goto (pc := 48) C dX12_dreams_48 (tgt := 52) rfl ?_
      refine g_sub [1, 0] rfl ?_
      exact t_X12_dreams_52 C hlk hr  _ _ _ _ h
  · replace h := h.2 z6
    refine g_iload_n (pc := 36) C dX12_dreams_36 (q := 1) rfl ?_
    refine g_goto (pc := 37) C dX12_dreams_37 (tgt := 41) rfl ?_
    refine g_istore (pc := 41) C dX12_dreams_41 (Nat.le_of_ble_eq_true rfl) (lo' := [(4, .int a1), (0, .ref (adr x a0)), (1, .int a1), (2, .int a2), (3, .int a3)]) rfl ?_
    refine g_iload_n (pc := 43) C dX12_dreams_43 (q := 4) rfl ?_
    refine g_if_le (pc := 44) C dX12_dreams_44 (tgt := 51) rfl (fun z17 => ?_) (fun z17 => ?_)
    · replace h := h.1 z17
      refine g_iload_n (pc := 51) C dX12_dreams_51 (q := 2) rfl ?_
      refine g_sub [1, 0] rfl ?_
      exact t_X12_dreams_52 C hlk hr  _ _ _ _ h
    · replace h := h.2 z17
      refine g_iload_n (pc := 47) C dX12_dreams_47 (q := 3) rfl ?_
      refine g_goto (pc := 48) C dX12_dreams_48 (tgt := 52) rfl ?_
      refine g_sub [1, 0] rfl ?_
      exact t_X12_dreams_52 C hlk hr  _ _ _ _ h
theorem c_X12_dreams {x : xG} {l : Launch} {a0 : Nat} {a1 : Int32} {a2 : Int32} {K : Wd → Prop} {w : Wd} (h : w_X12_dreams a0 a1 a2 K w) : Met l yX12_dreams (xws yX12_dreams cX12_dreams 6 none) (rmd 0 0 0) (xPc x [.ref (adr x a0), .int a1, .int a2] w) (QcV x K) 0 0 (xA x) := by
  refine xMet (by decide) (Nat.le_of_ble_eq_true rfl) (fun p e s m below meth c C hlk hr _ => ?_)
  show GW x p l e (rmd 0 0 0) s m [.ref (adr x a0), .int a1, .int a2].toArray below meth c 6 (QV x K below [.ref (adr x a0), .int a1, .int a2].toArray s 0 0) 0 [(0, .ref (adr x a0)), (1, .int a1), (2, .int a2)] [] w 0 0
  refine g_aload_n (pc := 0) C dX12_dreams_0 (q := 0) rfl ?_
  obtain ⟨k1, h⟩ := h
  obtain ⟨k2, h⟩ := h
  refine gfX12_9 (pc := 1) C k1 (isK_ne k2) dX12_dreams_1 ?_
  refine g_bipush (pc := 4) C dX12_dreams_4 (v := 15) rfl ?_
  refine g_iload_n (pc := 6) C dX12_dreams_6 (q := 1) rfl ?_
  refine g_iadd (pc := 7) C dX12_dreams_7 ?_
  obtain ⟨k3, h⟩ := h
  refine g_iald (pc := 8) C k2 k3 dX12_dreams_8 ?_
  refine g_aload_n (pc := 9) C dX12_dreams_9 (q := 0) rfl ?_
  refine gfX12_9 (pc := 10) C k1 (isK_ne k2) dX12_dreams_10 ?_
  refine g_bipush (pc := 13) C dX12_dreams_13 (v := 15) rfl ?_
  refine g_iload_n (pc := 15) C dX12_dreams_15 (q := 2) rfl ?_
  refine g_iadd (pc := 16) C dX12_dreams_16 ?_
  obtain ⟨k4, h⟩ := h
  refine g_iald (pc := 17) C k2 k4 dX12_dreams_17 ?_
  refine g_isub (pc := 18) C dX12_dreams_18 ?_
  refine g_istore_n (pc := 19) C dX12_dreams_19 (Nat.le_of_ble_eq_true rfl) (lo' := [(3, .int ((wI w (wR w a0 0) (15 + a1).toNatClampNeg) - (wI w (wR w a0 0) (15 + a2).toNatClampNeg))), (0, .ref (adr x a0)), (1, .int a1), (2, .int a2)]) rfl ?_
  refine g_iload_n (pc := 20) C dX12_dreams_20 (q := 0) rfl ?_
  refine g_bipush (pc := 21) C dX12_dreams_21 (v := (-2)) rfl ?_
  refine g_icmp_le (pc := 23) C dX12_dreams_23 (tgt := 32) rfl (fun z5 => ?_) (fun z5 => ?_)
  · replace h := h.1 z5
    refine g_sub [1, 2, 3, 0] rfl ?_
    exact t_X12_dreams_32 C hlk hr  _ _ _ _ _ h
  · replace h := h.2 z5
    refine g_iload_n (pc := 26) C dX12_dreams_26 (q := 0) rfl ?_
    refine g_iconst (pc := 27) C dX12_dreams_27 (v := 2) rfl ?_
    refine g_icmp_ge (pc := 28) C dX12_dreams_28 (tgt := 32) rfl (fun z18 => ?_) (fun z18 => ?_)
    · replace h := h.1 z18
      refine g_sub [1, 2, 3, 0] rfl ?_
      exact t_X12_dreams_32 C hlk hr  _ _ _ _ _ h
    · replace h := h.2 z18
      exact g_vret (pc := 31) C hlk hr (Nat.le_refl _) (Nat.le_refl _) dX12_dreams_31 h
theorem miX12_297 (C : xC x p s m c cc nL args RX12) {a0 : Int32} {a1 : Int32} {K : Int32 → Wd → Prop} {D MC MS : Nat} (h : w_J9_min_7cf53 a0 a1 K w) (hD : 0 + 1 ≤ D) (hW : (st.map fun v => v.category).sum ≤ 8) (hij : i ≤ MC ∧ j ≤ MS) (hd : decode cc pc = .ok (.invokestatic 297, 3)) (k : ∀ (r : Int32) (u : Wd), K r u → GW x p l e (rmd D MC MS) s m args below meth c nL Q (pc + 3) lo (.int r :: st) u i j) : GW x p l e (rmd D MC MS) s m args below meth c nL Q pc lo (.int a1 :: .int a0 :: st) w i j := g_callSi0 C (As := [.int a0, .int a1]) (c_J9_min_7cf53 h) (x_cwS C 2 LMX12_297 ⟨by decide, by decide, rfl⟩ hD (by decide)) rfl rfl hW hd hij k
theorem miX12_299 (C : xC x p s m c cc nL args RX12) {a0 : Nat} {a1 : Int32} {a2 : Int32} {K : Wd → Prop} {D MC MS : Nat} (hq : isK w a0 12) (h : w_X12_dreams a0 a1 a2 K w) (hD : 0 + 1 ≤ D) (hW : (st.map fun v => v.category).sum ≤ 8) (hij : i ≤ MC ∧ j ≤ MS) (hd : decode cc pc = .ok (.invokevirtual 299, 3)) (k : ∀ (u : Wd), K u → GW x p l e (rmd D MC MS) s m args below meth c nL Q (pc + 3) lo st u i j) : GW x p l e (rmd D MC MS) s m args below meth c nL Q pc lo (.int a2 :: .int a1 :: .ref (adr x a0) :: st) w i j := g_callVv0 C (As := [.int a1, .int a2]) (ci := 12) (c_X12_dreams h) (x_cwV C 2 LMX12_299 ⟨rfl, by decide, by decide, rfl⟩ hD (by decide)) rfl hq (by decide) rfl rfl hW hd hij k
def l_X12_hour_8 (E62 : Nat → Int32 → Wd → Prop) (K : Wd → Prop) : Nat → Nat → Int32 → Int32 → Wd → Prop
  | 0, _, _, _, _ => False
  | n + 1, a0, a1, a2, w => isK w a0 12 ∧ w_X12_wells a0 (fun r5 w6 => ((r5 ≤ a2 → E62 a0 a1 w6) ∧ (¬ r5 ≤ a2 → w_X12_has a1 a2 (fun r8 w9 => ((r8 = 0 → isK w9 a0 12 ∧ isK w9 (wR w9 a0 0) 20 ∧ vp_in (47 + a2) (wn w9 (wR w9 a0 0)) ∧ vp_in (15 + a2) (wn w9 (wR w9 a0 0)) ∧ w_J9_min_7cf53 (wI w9 (wR w9 a0 0) (47 + a2).toNatClampNeg) ((wI w9 (wR w9 a0 0) (15 + a2).toNatClampNeg) + 1) (fun r15 w16 => isK w16 (wR w9 a0 0) 20 ∧ vp_in (15 + a2) (wn w16 (wR w9 a0 0)) ∧ l_X12_hour_8 E62 K n a0 a1 (a2 + 1) (uI w16 (wR w9 a0 0) (15 + a2).toNatClampNeg r15)) w9) ∧ (¬ r8 = 0 → l_X12_hour_8 E62 K n a0 a1 (a2 + 1) w9))) w6))) w
def l_X12_hour_76 (E128 : Nat → Int32 → Int32 → Wd → Prop) (K : Wd → Prop) : Nat → Nat → Int32 → Int32 → Int32 → Wd → Prop
  | 0, _, _, _, _, _ => False
  | n + 1, a0, a1, a2, a3, w => isK w a0 12 ∧ w_X12_wells a0 (fun r27 w28 => ((r27 ≤ a3 → E128 a0 a1 a2 w28) ∧ (¬ r27 ≤ a3 → isK w28 a0 12 ∧ isK w28 (wR w28 a0 0) 20 ∧ vp_in (57 + a2) (wn w28 (wR w28 a0 0)) ∧ w_X12_has (wI w28 (wR w28 a0 0) (57 + a2).toNatClampNeg) a3 (fun r33 w34 => ((r33 = 0 → l_X12_hour_76 E128 K n a0 a1 a2 (a3 + 1) w34) ∧ (¬ r33 = 0 → w_X12_has a1 a2 (fun r36 w37 => ((r36 = 0 → w_X12_has a1 a3 (fun r39 w40 => ((r39 = 0 → isK w40 a0 12 ∧ w_X12_dreams a0 a2 a3 (fun w43 => l_X12_hour_76 E128 K n a0 a1 a2 (a3 + 1) w43) w40) ∧ (¬ r39 = 0 → l_X12_hour_76 E128 K n a0 a1 a2 (a3 + 1) w40))) w37) ∧ (¬ r36 = 0 → l_X12_hour_76 E128 K n a0 a1 a2 (a3 + 1) w37))) w34))) w28))) w
def l_X12_hour_64 (E134 : Nat → Wd → Prop) (K : Wd → Prop) : Nat → Nat → Int32 → Int32 → Wd → Prop
  | 0, _, _, _, _ => False
  | n + 1, a0, a1, a2, w => isK w a0 12 ∧ w_X12_wells a0 (fun r23 w24 => ((r23 ≤ a2 → E134 a0 w24) ∧ (¬ r23 ≤ a2 → ∃ n48, l_X12_hour_76 (fun b44 b45 b46 w47 => l_X12_hour_64 E134 K n b44 b45 (b46 + 1) w47) K n48 a0 a1 a2 (a2 + 1) w24))) w
def w_X12_hour (a0 : Nat) (K : Wd → Prop) (w : Wd) : Prop :=
  isK w a0 12 ∧ w_X12_upIn a0 0 (fun r2 w3 => ∃ n61, l_X12_hour_8 (fun b19 b20 w21 => ∃ n60, l_X12_hour_64 (fun b49 w50 => isK w50 b49 12 ∧ isK w50 (wR w50 b49 0) 20 ∧ vp_in 26 (wn w50 (wR w50 b49 0)) ∧ vp_in 26 (wn w50 (wR w50 b49 0)) ∧ vp_in 25 (wn w50 (wR w50 b49 0)) ∧ w_X12_upIn b49 0 (fun r56 w57 => isK w57 (wR w50 b49 0) 20 ∧ vp_in 25 (wn w57 (wR w50 b49 0)) ∧ K (uI w57 (wR w50 b49 0) (25 : Int32).toNatClampNeg ((wI (uI w50 (wR w50 b49 0) (26 : Int32).toNatClampNeg ((wI w50 (wR w50 b49 0) (26 : Int32).toNatClampNeg) + 1)) (wR w50 b49 0) (25 : Int32).toNatClampNeg) &&& r56))) (uI w50 (wR w50 b49 0) (26 : Int32).toNatClampNeg ((wI w50 (wR w50 b49 0) (26 : Int32).toNatClampNeg) + 1))) K n60 b19 b20 0 w21) K n61 a0 r2 0 w3) w
theorem t_X12_hour_8 (C : xC x p s m c cX12_hour 4 args RX12) (hlk : meth.locks = false) (hr : meth.sig.returnType = none) {K : Wd → Prop} {E62 : Nat → Int32 → Wd → Prop} (hE62 : ∀ (b0 : Nat) (b1 : Int32) (w : Wd), E62 b0 b1 w → GW x p l e (rmd 3 0 0) s m args below meth c 4 (QV x K below args s 0 0) 62 [(0, .ref (adr x b0)), (1, .int b1)] [] w 0 0) : ∀ (n : Nat) (a0 : Nat) (a1 : Int32) (a2 : Int32) (w : Wd), l_X12_hour_8 E62 K n a0 a1 a2 w → GW x p l e (rmd 3 0 0) s m args below meth c 4 (QV x K below args s 0 0) 8 [(0, .ref (adr x a0)), (1, .int a1), (2, .int a2)] [] w 0 0 := by
  intro n
  induction n with
  | zero => intro _ _ _ _ h; exact False.elim h
  | succ n ih =>
    intro a0 a1 a2 w h
    refine g_iload_n (pc := 8) C dX12_hour_8 (q := 2) rfl ?_
    refine g_aload_n (pc := 9) C dX12_hour_9 (q := 0) rfl ?_
    obtain ⟨k4, h⟩ := h
    refine miX12_239 (pc := 10) C k4 h (Nat.le_of_ble_eq_true rfl) (Nat.le_of_ble_eq_true rfl) ⟨Nat.le_refl _, Nat.le_refl _⟩ dX12_hour_10 (fun r5 w6 h => ?_)
    refine g_icmp_ge (pc := 13) C dX12_hour_13 (tgt := 62) rfl (fun z7 => ?_) (fun z7 => ?_)
    · replace h := h.1 z7
      refine g_sub [0, 1] rfl ?_
      exact hE62 _ _ _ h
    · replace h := h.2 z7
      refine g_iload_n (pc := 16) C dX12_hour_16 (q := 1) rfl ?_
      refine g_iload_n (pc := 17) C dX12_hour_17 (q := 2) rfl ?_
      refine miX12_268 (pc := 18) C h (Nat.le_of_ble_eq_true rfl) (Nat.le_of_ble_eq_true rfl) ⟨Nat.le_refl _, Nat.le_refl _⟩ dX12_hour_18 (fun r8 w9 h => ?_)
      refine g_if_ne (pc := 21) C dX12_hour_21 (tgt := 56) rfl (fun z10 => ?_) (fun z10 => ?_)
      · replace h := h.2 z10
        refine g_iinc (pc := 56) C dX12_hour_56 (q := 2) rfl (v2 := a2 + 1) rfl (Nat.le_of_ble_eq_true rfl) (lo' := [(2, .int (a2 + 1)), (0, .ref (adr x a0)), (1, .int a1)]) rfl ?_
        refine g_goto (pc := 59) C dX12_hour_59 (tgt := 8) rfl ?_
        refine g_sub [1, 2, 0] rfl ?_
        exact ih _ _ _ _ h
      · replace h := h.1 z10
        refine g_aload_n (pc := 24) C dX12_hour_24 (q := 0) rfl ?_
        obtain ⟨k11, h⟩ := h
        obtain ⟨k12, h⟩ := h
        refine gfX12_9 (pc := 25) C k11 (isK_ne k12) dX12_hour_25 ?_
        refine g_bipush (pc := 28) C dX12_hour_28 (v := 15) rfl ?_
        refine g_iload_n (pc := 30) C dX12_hour_30 (q := 2) rfl ?_
        refine g_iadd (pc := 31) C dX12_hour_31 ?_
        refine g_aload_n (pc := 32) C dX12_hour_32 (q := 0) rfl ?_
        refine gfX12_9 (pc := 33) C k11 (isK_ne k12) dX12_hour_33 ?_
        refine g_bipush (pc := 36) C dX12_hour_36 (v := 47) rfl ?_
        refine g_iload_n (pc := 38) C dX12_hour_38 (q := 2) rfl ?_
        refine g_iadd (pc := 39) C dX12_hour_39 ?_
        obtain ⟨k13, h⟩ := h
        refine g_iald (pc := 40) C k12 k13 dX12_hour_40 ?_
        refine g_aload_n (pc := 41) C dX12_hour_41 (q := 0) rfl ?_
        refine gfX12_9 (pc := 42) C k11 (isK_ne k12) dX12_hour_42 ?_
        refine g_bipush (pc := 45) C dX12_hour_45 (v := 15) rfl ?_
        refine g_iload_n (pc := 47) C dX12_hour_47 (q := 2) rfl ?_
        refine g_iadd (pc := 48) C dX12_hour_48 ?_
        obtain ⟨k14, h⟩ := h
        refine g_iald (pc := 49) C k12 k14 dX12_hour_49 ?_
        refine g_iconst (pc := 50) C dX12_hour_50 (v := 1) rfl ?_
        refine g_iadd (pc := 51) C dX12_hour_51 ?_
        refine miX12_297 (pc := 52) C h (Nat.le_of_ble_eq_true rfl) (Nat.le_of_ble_eq_true rfl) ⟨Nat.le_refl _, Nat.le_refl _⟩ dX12_hour_52 (fun r15 w16 h => ?_)
        obtain ⟨k17, h⟩ := h
        obtain ⟨k18, h⟩ := h
        refine g_iast (pc := 55) C k17 k18 dX12_hour_55 ?_
        refine g_iinc (pc := 56) C dX12_hour_56 (q := 2) rfl (v2 := a2 + 1) rfl (Nat.le_of_ble_eq_true rfl) (lo' := [(2, .int (a2 + 1)), (0, .ref (adr x a0)), (1, .int a1)]) rfl ?_
        refine g_goto (pc := 59) C dX12_hour_59 (tgt := 8) rfl ?_
        refine g_sub [1, 2, 0] rfl ?_
        exact ih _ _ _ _ h
theorem t_X12_hour_76 (C : xC x p s m c cX12_hour 4 args RX12) (hlk : meth.locks = false) (hr : meth.sig.returnType = none) {K : Wd → Prop} {E128 : Nat → Int32 → Int32 → Wd → Prop} (hE128 : ∀ (b0 : Nat) (b1 : Int32) (b2 : Int32) (w : Wd), E128 b0 b1 b2 w → GW x p l e (rmd 3 0 0) s m args below meth c 4 (QV x K below args s 0 0) 128 [(0, .ref (adr x b0)), (1, .int b1), (2, .int b2)] [] w 0 0) : ∀ (n : Nat) (a0 : Nat) (a1 : Int32) (a2 : Int32) (a3 : Int32) (w : Wd), l_X12_hour_76 E128 K n a0 a1 a2 a3 w → GW x p l e (rmd 3 0 0) s m args below meth c 4 (QV x K below args s 0 0) 76 [(0, .ref (adr x a0)), (1, .int a1), (2, .int a2), (3, .int a3)] [] w 0 0 := by
  intro n
  induction n with
  | zero => intro _ _ _ _ _ h; exact False.elim h
  | succ n ih =>
    intro a0 a1 a2 a3 w h
    refine g_iload_n (pc := 76) C dX12_hour_76 (q := 3) rfl ?_
    refine g_aload_n (pc := 77) C dX12_hour_77 (q := 0) rfl ?_
    obtain ⟨k26, h⟩ := h
    refine miX12_239 (pc := 78) C k26 h (Nat.le_of_ble_eq_true rfl) (Nat.le_of_ble_eq_true rfl) ⟨Nat.le_refl _, Nat.le_refl _⟩ dX12_hour_78 (fun r27 w28 h => ?_)
    refine g_icmp_ge (pc := 81) C dX12_hour_81 (tgt := 128) rfl (fun z29 => ?_) (fun z29 => ?_)
    · replace h := h.1 z29
      refine g_sub [0, 1, 2] rfl ?_
      exact hE128 _ _ _ _ h
    · replace h := h.2 z29
      refine g_aload_n (pc := 84) C dX12_hour_84 (q := 0) rfl ?_
      obtain ⟨k30, h⟩ := h
      obtain ⟨k31, h⟩ := h
      refine gfX12_9 (pc := 85) C k30 (isK_ne k31) dX12_hour_85 ?_
      refine g_bipush (pc := 88) C dX12_hour_88 (v := 57) rfl ?_
      refine g_iload_n (pc := 90) C dX12_hour_90 (q := 2) rfl ?_
      refine g_iadd (pc := 91) C dX12_hour_91 ?_
      obtain ⟨k32, h⟩ := h
      refine g_iald (pc := 92) C k31 k32 dX12_hour_92 ?_
      refine g_iload_n (pc := 93) C dX12_hour_93 (q := 3) rfl ?_
      refine miX12_268 (pc := 94) C h (Nat.le_of_ble_eq_true rfl) (Nat.le_of_ble_eq_true rfl) ⟨Nat.le_refl _, Nat.le_refl _⟩ dX12_hour_94 (fun r33 w34 h => ?_)
      refine g_if_eq (pc := 97) C dX12_hour_97 (tgt := 122) rfl (fun z35 => ?_) (fun z35 => ?_)
      · replace h := h.1 z35
        refine g_iinc (pc := 122) C dX12_hour_122 (q := 3) rfl (v2 := a3 + 1) rfl (Nat.le_of_ble_eq_true rfl) (lo' := [(3, .int (a3 + 1)), (0, .ref (adr x a0)), (1, .int a1), (2, .int a2)]) rfl ?_
        refine g_goto (pc := 125) C dX12_hour_125 (tgt := 76) rfl ?_
        refine g_sub [1, 2, 3, 0] rfl ?_
        exact ih _ _ _ _ _ h
      · replace h := h.2 z35
        refine g_iload_n (pc := 100) C dX12_hour_100 (q := 1) rfl ?_
        refine g_iload_n (pc := 101) C dX12_hour_101 (q := 2) rfl ?_
        refine miX12_268 (pc := 102) C h (Nat.le_of_ble_eq_true rfl) (Nat.le_of_ble_eq_true rfl) ⟨Nat.le_refl _, Nat.le_refl _⟩ dX12_hour_102 (fun r36 w37 h => ?_)
        refine g_if_ne (pc := 105) C dX12_hour_105 (tgt := 122) rfl (fun z38 => ?_) (fun z38 => ?_)
        · replace h := h.2 z38
          refine g_iinc (pc := 122) C dX12_hour_122 (q := 3) rfl (v2 := a3 + 1) rfl (Nat.le_of_ble_eq_true rfl) (lo' := [(3, .int (a3 + 1)), (0, .ref (adr x a0)), (1, .int a1), (2, .int a2)]) rfl ?_
          refine g_goto (pc := 125) C dX12_hour_125 (tgt := 76) rfl ?_
          refine g_sub [1, 2, 3, 0] rfl ?_
          exact ih _ _ _ _ _ h
        · replace h := h.1 z38
          refine g_iload_n (pc := 108) C dX12_hour_108 (q := 1) rfl ?_
          refine g_iload_n (pc := 109) C dX12_hour_109 (q := 3) rfl ?_
          refine miX12_268 (pc := 110) C h (Nat.le_of_ble_eq_true rfl) (Nat.le_of_ble_eq_true rfl) ⟨Nat.le_refl _, Nat.le_refl _⟩ dX12_hour_110 (fun r39 w40 h => ?_)
          refine g_if_ne (pc := 113) C dX12_hour_113 (tgt := 122) rfl (fun z41 => ?_) (fun z41 => ?_)
          · replace h := h.2 z41
            refine g_iinc (pc := 122) C dX12_hour_122 (q := 3) rfl (v2 := a3 + 1) rfl (Nat.le_of_ble_eq_true rfl) (lo' := [(3, .int (a3 + 1)), (0, .ref (adr x a0)), (1, .int a1), (2, .int a2)]) rfl ?_
            refine g_goto (pc := 125) C dX12_hour_125 (tgt := 76) rfl ?_
            refine g_sub [1, 2, 3, 0] rfl ?_
            exact ih _ _ _ _ _ h
          · replace h := h.1 z41
            refine g_aload_n (pc := 116) C dX12_hour_116 (q := 0) rfl ?_
            refine g_iload_n (pc := 117) C dX12_hour_117 (q := 2) rfl ?_
            refine g_iload_n (pc := 118) C dX12_hour_118 (q := 3) rfl ?_
            obtain ⟨k42, h⟩ := h
            refine miX12_299 (pc := 119) C k42 h (Nat.le_of_ble_eq_true rfl) (Nat.le_of_ble_eq_true rfl) ⟨Nat.le_refl _, Nat.le_refl _⟩ dX12_hour_119 (fun w43 h => ?_)
            refine g_iinc (pc := 122) C dX12_hour_122 (q := 3) rfl (v2 := a3 + 1) rfl (Nat.le_of_ble_eq_true rfl) (lo' := [(3, .int (a3 + 1)), (0, .ref (adr x a0)), (1, .int a1), (2, .int a2)]) rfl ?_
            refine g_goto (pc := 125) C dX12_hour_125 (tgt := 76) rfl ?_
            refine g_sub [1, 2, 3, 0] rfl ?_
            exact ih _ _ _ _ _ h
theorem t_X12_hour_64 (C : xC x p s m c cX12_hour 4 args RX12) (hlk : meth.locks = false) (hr : meth.sig.returnType = none) {K : Wd → Prop} {E134 : Nat → Wd → Prop} (hE134 : ∀ (b0 : Nat) (w : Wd), E134 b0 w → GW x p l e (rmd 3 0 0) s m args below meth c 4 (QV x K below args s 0 0) 134 [(0, .ref (adr x b0))] [] w 0 0) : ∀ (n : Nat) (a0 : Nat) (a1 : Int32) (a2 : Int32) (w : Wd), l_X12_hour_64 E134 K n a0 a1 a2 w → GW x p l e (rmd 3 0 0) s m args below meth c 4 (QV x K below args s 0 0) 64 [(0, .ref (adr x a0)), (1, .int a1), (2, .int a2)] [] w 0 0 := by
  intro n
  induction n with
  | zero => intro _ _ _ _ h; exact False.elim h
  | succ n ih =>
    intro a0 a1 a2 w h
    refine g_iload_n (pc := 64) C dX12_hour_64 (q := 2) rfl ?_
    refine g_aload_n (pc := 65) C dX12_hour_65 (q := 0) rfl ?_
    obtain ⟨k22, h⟩ := h
    refine miX12_239 (pc := 66) C k22 h (Nat.le_of_ble_eq_true rfl) (Nat.le_of_ble_eq_true rfl) ⟨Nat.le_refl _, Nat.le_refl _⟩ dX12_hour_66 (fun r23 w24 h => ?_)
    refine g_icmp_ge (pc := 69) C dX12_hour_69 (tgt := 134) rfl (fun z25 => ?_) (fun z25 => ?_)
    · replace h := h.1 z25
      refine g_sub [0] rfl ?_
      exact hE134 _ _ h
    · replace h := h.2 z25
      refine g_iload_n (pc := 72) C dX12_hour_72 (q := 2) rfl ?_
      refine g_iconst (pc := 73) C dX12_hour_73 (v := 1) rfl ?_
      refine g_iadd (pc := 74) C dX12_hour_74 ?_
      refine g_istore_n (pc := 75) C dX12_hour_75 (Nat.le_of_ble_eq_true rfl) (lo' := [(3, .int (a2 + 1)), (0, .ref (adr x a0)), (1, .int a1), (2, .int a2)]) rfl ?_
      obtain ⟨n48, h⟩ := h
      refine g_sub [1, 2, 3, 0] rfl ?_
      refine t_X12_hour_76 C hlk hr ?_ n48 _ _ _ _ _ h
      · intro b44 b45 b46 w47 h
        refine g_iinc (pc := 128) C dX12_hour_128 (q := 2) rfl (v2 := b46 + 1) rfl (Nat.le_of_ble_eq_true rfl) (lo' := [(2, .int (b46 + 1)), (0, .ref (adr x b44)), (1, .int b45)]) rfl ?_
        refine g_goto (pc := 131) C dX12_hour_131 (tgt := 64) rfl ?_
        refine g_sub [1, 2, 0] rfl ?_
        exact ih _ _ _ _ h
theorem c_X12_hour {x : xG} {l : Launch} {a0 : Nat} {K : Wd → Prop} {w : Wd} (h : w_X12_hour a0 K w) : Met l yX12_hour (xws yX12_hour cX12_hour 4 none) (rmd 3 0 0) (xPc x [.ref (adr x a0)] w) (QcV x K) 0 0 (xA x) := by
  refine xMet (by decide) (Nat.le_of_ble_eq_true rfl) (fun p e s m below meth c C hlk hr _ => ?_)
  show GW x p l e (rmd 3 0 0) s m [.ref (adr x a0)].toArray below meth c 4 (QV x K below [.ref (adr x a0)].toArray s 0 0) 0 [(0, .ref (adr x a0))] [] w 0 0
  refine g_aload_n (pc := 0) C dX12_hour_0 (q := 0) rfl ?_
  refine g_iconst (pc := 1) C dX12_hour_1 (v := 0) rfl ?_
  obtain ⟨k1, h⟩ := h
  refine miX12_294 (pc := 2) C k1 h (Nat.le_of_ble_eq_true rfl) (Nat.le_of_ble_eq_true rfl) ⟨Nat.le_refl _, Nat.le_refl _⟩ dX12_hour_2 (fun r2 w3 h => ?_)
  refine g_istore_n (pc := 5) C dX12_hour_5 (Nat.le_of_ble_eq_true rfl) (lo' := [(1, .int r2), (0, .ref (adr x a0))]) rfl ?_
  refine g_iconst (pc := 6) C dX12_hour_6 (v := 0) rfl ?_
  refine g_istore_n (pc := 7) C dX12_hour_7 (Nat.le_of_ble_eq_true rfl) (lo' := [(2, .int 0), (1, .int r2), (0, .ref (adr x a0))]) rfl ?_
  obtain ⟨n61, h⟩ := h
  refine g_sub [2, 1, 0] rfl ?_
  refine t_X12_hour_8 C hlk hr ?_ n61 _ _ _ _ h
  · intro b19 b20 w21 h
    refine g_iconst (pc := 62) C dX12_hour_62 (v := 0) rfl ?_
    refine g_istore_n (pc := 63) C dX12_hour_63 (Nat.le_of_ble_eq_true rfl) (lo' := [(2, .int 0), (0, .ref (adr x b19)), (1, .int b20)]) rfl ?_
    obtain ⟨n60, h⟩ := h
    refine g_sub [1, 2, 0] rfl ?_
    refine t_X12_hour_64 C hlk hr ?_ n60 _ _ _ _ h
    · intro b49 w50 h
      refine g_aload_n (pc := 134) C dX12_hour_134 (q := 0) rfl ?_
      obtain ⟨k51, h⟩ := h
      obtain ⟨k52, h⟩ := h
      refine gfX12_9 (pc := 135) C k51 (isK_ne k52) dX12_hour_135 ?_
      refine g_bipush (pc := 138) C dX12_hour_138 (v := 26) rfl ?_
      refine g_dup2 (pc := 140) C dX12_hour_140 rfl rfl ?_
      obtain ⟨k53, h⟩ := h
      refine g_iald (pc := 141) C k52 k53 dX12_hour_141 ?_
      refine g_iconst (pc := 142) C dX12_hour_142 (v := 1) rfl ?_
      refine g_iadd (pc := 143) C dX12_hour_143 ?_
      obtain ⟨k54, h⟩ := h
      refine g_iast (pc := 144) C k52 k54 dX12_hour_144 ?_
      refine g_aload_n (pc := 145) C dX12_hour_145 (q := 0) rfl ?_
      refine gfX12_9 (pc := 146) (w := uI w50 (wR w50 b49 0) (26 : Int32).toNatClampNeg ((wI w50 (wR w50 b49 0) (26 : Int32).toNatClampNeg) + 1)) C k51 (isK_ne k52) dX12_hour_146 ?_
      refine g_bipush (pc := 149) C dX12_hour_149 (v := 25) rfl ?_
      refine g_dup2 (pc := 151) C dX12_hour_151 rfl rfl ?_
      obtain ⟨k55, h⟩ := h
      refine g_iald (pc := 152) (w := uI w50 (wR w50 b49 0) (26 : Int32).toNatClampNeg ((wI w50 (wR w50 b49 0) (26 : Int32).toNatClampNeg) + 1)) C k52 k55 dX12_hour_152 ?_
      refine g_aload_n (pc := 153) C dX12_hour_153 (q := 0) rfl ?_
      refine g_iconst (pc := 154) C dX12_hour_154 (v := 0) rfl ?_
      refine miX12_294 (pc := 155) (w := uI w50 (wR w50 b49 0) (26 : Int32).toNatClampNeg ((wI w50 (wR w50 b49 0) (26 : Int32).toNatClampNeg) + 1)) C k51 h (Nat.le_of_ble_eq_true rfl) (Nat.le_of_ble_eq_true rfl) ⟨Nat.le_refl _, Nat.le_refl _⟩ dX12_hour_155 (fun r56 w57 h => ?_)
      refine g_iand (pc := 158) C dX12_hour_158 ?_
      obtain ⟨k58, h⟩ := h
      obtain ⟨k59, h⟩ := h
      refine g_iast (pc := 159) C k58 k59 dX12_hour_159 ?_
      exact g_vret (pc := 160) C hlk hr (Nat.le_refl _) (Nat.le_refl _) dX12_hour_160 h
def w_X12_thunders (a0 : Nat) (K : Int32 → Wd → Prop) (w : Wd) : Prop :=
  isK w a0 12 ∧ w_X12_allWells a0 (fun r2 w3 => isK w3 a0 12 ∧ w_X12_upIn a0 0 (fun r5 w6 => isK w6 a0 12 ∧ w_X12_wake a0 (r2 &&& (r5 ^^^ (-1))) (fun r8 w9 => K r8 w9) w6) w3) w
theorem c_X12_thunders {x : xG} {l : Launch} {a0 : Nat} {K : Int32 → Wd → Prop} {w : Wd} (h : w_X12_thunders a0 K w) : Met l yX12_thunders (xws yX12_thunders cX12_thunders 1 (some .int)) (rmd 3 0 0) (xPc x [.ref (adr x a0)] w) (QcI x K) 0 0 (xA x) := by
  refine xMet (by decide) (Nat.le_of_ble_eq_true rfl) (fun p e s m below meth c C hlk hr _ => ?_)
  show GW x p l e (rmd 3 0 0) s m [.ref (adr x a0)].toArray below meth c 1 (QI x K below [.ref (adr x a0)].toArray s 0 0) 0 [(0, .ref (adr x a0))] [] w 0 0
  refine g_aload_n (pc := 0) C dX12_thunders_0 (q := 0) rfl ?_
  refine g_aload_n (pc := 1) C dX12_thunders_1 (q := 0) rfl ?_
  obtain ⟨k1, h⟩ := h
  refine miX12_322 (pc := 2) C k1 h (Nat.le_of_ble_eq_true rfl) (Nat.le_of_ble_eq_true rfl) ⟨Nat.le_refl _, Nat.le_refl _⟩ dX12_thunders_2 (fun r2 w3 h => ?_)
  refine g_aload_n (pc := 5) C dX12_thunders_5 (q := 0) rfl ?_
  refine g_iconst (pc := 6) C dX12_thunders_6 (v := 0) rfl ?_
  obtain ⟨k4, h⟩ := h
  refine miX12_294 (pc := 7) C k4 h (Nat.le_of_ble_eq_true rfl) (Nat.le_of_ble_eq_true rfl) ⟨Nat.le_refl _, Nat.le_refl _⟩ dX12_thunders_7 (fun r5 w6 h => ?_)
  refine g_iconst (pc := 10) C dX12_thunders_10 (v := (-1)) rfl ?_
  refine g_ixor (pc := 11) C dX12_thunders_11 ?_
  refine g_iand (pc := 12) C dX12_thunders_12 ?_
  obtain ⟨k7, h⟩ := h
  refine miX12_319 (pc := 13) C k7 h (Nat.le_of_ble_eq_true rfl) (Nat.le_of_ble_eq_true rfl) ⟨Nat.le_refl _, Nat.le_refl _⟩ dX12_thunders_13 (fun r8 w9 h => ?_)
  exact g_iret (pc := 16) C hlk hr (Nat.le_refl _) (Nat.le_refl _) dX12_thunders_16 h
theorem miX12_332 (C : xC x p s m c cc nL args RX12) {a0 : Nat} {a1 : Int32} {a2 : Int32} {K : Int32 → Wd → Prop} {D MC MS : Nat} (hq : isK w a0 12) (h : w_X12_draws a0 a1 a2 K w) (hD : 6 + 1 ≤ D) (hW : (st.map fun v => v.category).sum ≤ 8) (hij : i ≤ MC ∧ j ≤ MS) (hd : decode cc pc = .ok (.invokevirtual 332, 3)) (k : ∀ (r : Int32) (u : Wd), K r u → GW x p l e (rmd D MC MS) s m args below meth c nL Q (pc + 3) lo (.int r :: st) u i j) : GW x p l e (rmd D MC MS) s m args below meth c nL Q pc lo (.int a2 :: .int a1 :: .ref (adr x a0) :: st) w i j := g_callVi0 C (As := [.int a1, .int a2]) (ci := 12) (c_X12_draws h) (x_cwV C 2 LMX12_332 ⟨rfl, by decide, by decide, rfl⟩ hD (by decide)) rfl hq (by decide) rfl rfl hW hd hij k
theorem miX12_344 (C : xC x p s m c cc nL args RX12) {a0 : Nat} {K : Int32 → Wd → Prop} {D MC MS : Nat} (hq : isK w a0 12) (h : w_X12_thunders a0 K w) (hD : 3 + 1 ≤ D) (hW : (st.map fun v => v.category).sum ≤ 8) (hij : i ≤ MC ∧ j ≤ MS) (hd : decode cc pc = .ok (.invokevirtual 344, 3)) (k : ∀ (r : Int32) (u : Wd), K r u → GW x p l e (rmd D MC MS) s m args below meth c nL Q (pc + 3) lo (.int r :: st) u i j) : GW x p l e (rmd D MC MS) s m args below meth c nL Q pc lo (.ref (adr x a0) :: st) w i j := g_callVi0 C (As := []) (ci := 12) (c_X12_thunders h) (x_cwV C 0 LMX12_344 ⟨rfl, by decide, by decide, rfl⟩ hD (by decide)) rfl hq (by decide) rfl rfl hW hd hij k
theorem miX12_347 (C : xC x p s m c cc nL args RX12) {a0 : Nat} {K : Wd → Prop} {D MC MS : Nat} (hq : isK w a0 12) (h : w_X12_hour a0 K w) (hD : 3 + 1 ≤ D) (hW : (st.map fun v => v.category).sum ≤ 8) (hij : i ≤ MC ∧ j ≤ MS) (hd : decode cc pc = .ok (.invokevirtual 347, 3)) (k : ∀ (u : Wd), K u → GW x p l e (rmd D MC MS) s m args below meth c nL Q (pc + 3) lo st u i j) : GW x p l e (rmd D MC MS) s m args below meth c nL Q pc lo (.ref (adr x a0) :: st) w i j := g_callVv0 C (As := []) (ci := 12) (c_X12_hour h) (x_cwV C 0 LMX12_347 ⟨rfl, by decide, by decide, rfl⟩ hD (by decide)) rfl hq (by decide) rfl rfl hW hd hij k
def w_X12_does (a0 : Nat) (a1 : Int32) (K : Wd → Prop) (w : Wd) : Prop :=
  ((a1 = (-1) → isK w a0 12 ∧ w_X12_hour a0 (fun w19 => K w19) w) ∧ (¬ a1 = (-1) → ((1000 ≤ a1 → ((2100 ≤ a1 → ((3000 ≤ a1 → isK w a0 12 ∧ w_X12_thunders a0 (fun r6 w7 => K w7) w) ∧ (¬ 3000 ≤ a1 → isK w a0 12 ∧ w_X12_coins a0 (a1 - 2100) (fun r9 w10 => K w10) w))) ∧ (¬ 2100 ≤ a1 → isK w a0 12 ∧ isK w (wR w a0 0) 20 ∧ vp_in ((37 + a1) - 2000) (wn w (wR w a0 0)) ∧ w_X12_shiftsTo a0 (a1 - 2000) (wI w (wR w a0 0) ((37 + a1) - 2000).toNatClampNeg) (fun w14 => K w14) w))) ∧ (¬ 1000 ≤ a1 → isK w a0 12 ∧ w_X12_draws a0 (a1 / 100) (x_irem a1 100) (fun r16 w17 => K w17) w))))
theorem c_X12_does {x : xG} {l : Launch} {a0 : Nat} {a1 : Int32} {K : Wd → Prop} {w : Wd} (h : w_X12_does a0 a1 K w) : Met l yX12_does (xws yX12_does cX12_does 2 none) (rmd 7 0 0) (xPc x [.ref (adr x a0), .int a1] w) (QcV x K) 0 0 (xA x) := by
  refine xMet (by decide) (Nat.le_of_ble_eq_true rfl) (fun p e s m below meth c C hlk hr _ => ?_)
  show GW x p l e (rmd 7 0 0) s m [.ref (adr x a0), .int a1].toArray below meth c 2 (QV x K below [.ref (adr x a0), .int a1].toArray s 0 0) 0 [(0, .ref (adr x a0)), (1, .int a1)] [] w 0 0
  refine g_iload_n (pc := 0) C dX12_does_0 (q := 1) rfl ?_
  refine g_iconst (pc := 1) C dX12_does_1 (v := (-1)) rfl ?_
  refine g_icmp_ne (pc := 2) C dX12_does_2 (tgt := 12) rfl (fun z1 => ?_) (fun z1 => ?_)
  · replace h := h.2 z1
    refine g_iload_n (pc := 12) C dX12_does_12 (q := 1) rfl ?_
    refine g_sipush (pc := 13) C dX12_does_13 (v := 1000) rfl ?_
    refine g_icmp_ge (pc := 16) C dX12_does_16 (tgt := 35) rfl (fun z2 => ?_) (fun z2 => ?_)
    · replace h := h.1 z2
      refine g_iload_n (pc := 35) C dX12_does_35 (q := 1) rfl ?_
      refine g_sipush (pc := 36) C dX12_does_36 (v := 2100) rfl ?_
      refine g_icmp_ge (pc := 39) C dX12_does_39 (tgt := 67) rfl (fun z3 => ?_) (fun z3 => ?_)
      · replace h := h.1 z3
        refine g_iload_n (pc := 67) C dX12_does_67 (q := 1) rfl ?_
        refine g_sipush (pc := 68) C dX12_does_68 (v := 3000) rfl ?_
        refine g_icmp_ge (pc := 71) C dX12_does_71 (tgt := 87) rfl (fun z4 => ?_) (fun z4 => ?_)
        · replace h := h.1 z4
          refine g_aload_n (pc := 87) C dX12_does_87 (q := 0) rfl ?_
          obtain ⟨k5, h⟩ := h
          refine miX12_344 (pc := 88) C k5 h (Nat.le_of_ble_eq_true rfl) (Nat.le_of_ble_eq_true rfl) ⟨Nat.le_refl _, Nat.le_refl _⟩ dX12_does_88 (fun r6 w7 h => ?_)
          refine g_pop (pc := 91) C dX12_does_91 rfl ?_
          exact g_vret (pc := 92) C hlk hr (Nat.le_refl _) (Nat.le_refl _) dX12_does_92 h
        · replace h := h.2 z4
          refine g_aload_n (pc := 74) C dX12_does_74 (q := 0) rfl ?_
          refine g_iload_n (pc := 75) C dX12_does_75 (q := 1) rfl ?_
          refine g_sipush (pc := 76) C dX12_does_76 (v := 2100) rfl ?_
          refine g_isub (pc := 79) C dX12_does_79 ?_
          obtain ⟨k8, h⟩ := h
          refine miX12_341 (pc := 80) C k8 h (Nat.le_of_ble_eq_true rfl) (Nat.le_of_ble_eq_true rfl) ⟨Nat.le_refl _, Nat.le_refl _⟩ dX12_does_80 (fun r9 w10 h => ?_)
          refine g_pop (pc := 83) C dX12_does_83 rfl ?_
          refine g_goto (pc := 84) C dX12_does_84 (tgt := 92) rfl ?_
          exact g_vret (pc := 92) C hlk hr (Nat.le_refl _) (Nat.le_refl _) dX12_does_92 h
      · replace h := h.2 z3
        refine g_aload_n (pc := 42) C dX12_does_42 (q := 0) rfl ?_
        refine g_iload_n (pc := 43) C dX12_does_43 (q := 1) rfl ?_
        refine g_sipush (pc := 44) C dX12_does_44 (v := 2000) rfl ?_
        refine g_isub (pc := 47) C dX12_does_47 ?_
        refine g_aload_n (pc := 48) C dX12_does_48 (q := 0) rfl ?_
        obtain ⟨k11, h⟩ := h
        obtain ⟨k12, h⟩ := h
        refine gfX12_9 (pc := 49) C k11 (isK_ne k12) dX12_does_49 ?_
        refine g_bipush (pc := 52) C dX12_does_52 (v := 37) rfl ?_
        refine g_iload_n (pc := 54) C dX12_does_54 (q := 1) rfl ?_
        refine g_iadd (pc := 55) C dX12_does_55 ?_
        refine g_sipush (pc := 56) C dX12_does_56 (v := 2000) rfl ?_
        refine g_isub (pc := 59) C dX12_does_59 ?_
        obtain ⟨k13, h⟩ := h
        refine g_iald (pc := 60) C k12 k13 dX12_does_60 ?_
        refine miX12_290 (pc := 61) C k11 h (Nat.le_of_ble_eq_true rfl) (Nat.le_of_ble_eq_true rfl) ⟨Nat.le_refl _, Nat.le_refl _⟩ dX12_does_61 (fun w14 h => ?_)
        refine g_goto (pc := 64) C dX12_does_64 (tgt := 92) rfl ?_
        exact g_vret (pc := 92) C hlk hr (Nat.le_refl _) (Nat.le_refl _) dX12_does_92 h
    · replace h := h.2 z2
      refine g_aload_n (pc := 19) C dX12_does_19 (q := 0) rfl ?_
      refine g_iload_n (pc := 20) C dX12_does_20 (q := 1) rfl ?_
      refine g_bipush (pc := 21) C dX12_does_21 (v := 100) rfl ?_
      refine g_idiv (pc := 23) C dX12_does_23 (by decide) ?_
      refine g_iload_n (pc := 24) C dX12_does_24 (q := 1) rfl ?_
      refine g_bipush (pc := 25) C dX12_does_25 (v := 100) rfl ?_
      refine h_irem (pc := 27) C dX12_does_27 (by decide) ?_
      obtain ⟨k15, h⟩ := h
      refine miX12_332 (pc := 28) C k15 h (Nat.le_of_ble_eq_true rfl) (Nat.le_of_ble_eq_true rfl) ⟨Nat.le_refl _, Nat.le_refl _⟩ dX12_does_28 (fun r16 w17 h => ?_)
      refine g_pop (pc := 31) C dX12_does_31 rfl ?_
      refine g_goto (pc := 32) C dX12_does_32 (tgt := 92) rfl ?_
      exact g_vret (pc := 92) C hlk hr (Nat.le_refl _) (Nat.le_refl _) dX12_does_92 h
  · replace h := h.1 z1
    refine g_aload_n (pc := 5) C dX12_does_5 (q := 0) rfl ?_
    obtain ⟨k18, h⟩ := h
    refine miX12_347 (pc := 6) C k18 h (Nat.le_of_ble_eq_true rfl) (Nat.le_of_ble_eq_true rfl) ⟨Nat.le_refl _, Nat.le_refl _⟩ dX12_does_6 (fun w19 h => ?_)
    refine g_goto (pc := 9) C dX12_does_9 (tgt := 92) rfl ?_
    exact g_vret (pc := 92) C hlk hr (Nat.le_refl _) (Nat.le_refl _) dX12_does_92 h
def w_X12_whyDraw (a0 : Nat) (a1 : Int64) (a3 : Int64) (K : Int32 → Wd → Prop) (w : Wd) : Prop :=
  isK w a0 12 ∧ w_X12_isWell a0 a1 (fun r2 w3 => ((r2 = 0 → K 1 w3) ∧ (¬ r2 = 0 → w_X12_within a3 1 99 (fun r5 w6 => ((r5 = 0 → K 1 w6) ∧ (¬ r5 = 0 → isK w6 a0 12 ∧ w_X12_isUp a0 a1.toInt32 (fun r9 w10 => ((r9 = 0 → K 2 w10) ∧ (¬ r9 = 0 → isK w10 a0 12 ∧ isK w10 (wR w10 a0 0) 20 ∧ vp_in 25 (wn w10 (wR w10 a0 0)) ∧ w_X12_has (wI w10 (wR w10 a0 0) (25 : Int32).toNatClampNeg) a1.toInt32 (fun r15 w16 => ((r15 = 0 → isK w16 a0 12 ∧ isK w16 (wR w16 a0 0) 20 ∧ vp_in (15 + a1.toInt32) (wn w16 (wR w16 a0 0)) ∧ ((0 ≤ (lg_cmp ((wI w16 (wR w16 a0 0) (15 + a1.toInt32).toNatClampNeg).toInt64) a3) → K 0 w16) ∧ (¬ 0 ≤ (lg_cmp ((wI w16 (wR w16 a0 0) (15 + a1.toInt32).toNatClampNeg).toInt64) a3) → K 4 w16))) ∧ (¬ r15 = 0 → K 3 w16))) w10))) w6))) w3))) w
theorem c_X12_whyDraw {x : xG} {l : Launch} {a0 : Nat} {a1 : Int64} {a3 : Int64} {K : Int32 → Wd → Prop} {w : Wd} (h : w_X12_whyDraw a0 a1 a3 K w) : Met l yX12_whyDraw (xws yX12_whyDraw cX12_whyDraw 5 (some .int)) (rmd 3 0 0) (xPc x [.ref (adr x a0), .long a1, .long a3] w) (QcI x K) 0 0 (xA x) := by
  refine xMet (by decide) (Nat.le_of_ble_eq_true rfl) (fun p e s m below meth c C hlk hr _ => ?_)
  show GW x p l e (rmd 3 0 0) s m [.ref (adr x a0), .long a1, .long a3].toArray below meth c 5 (QI x K below [.ref (adr x a0), .long a1, .long a3].toArray s 0 0) 0 [(0, .ref (adr x a0)), (1, .long a1), (3, .long a3)] [] w 0 0
  refine g_aload_n (pc := 0) C dX12_whyDraw_0 (q := 0) rfl ?_
  refine g_lload_n (pc := 1) C dX12_whyDraw_1 (q := 1) rfl ?_
  obtain ⟨k1, h⟩ := h
  refine miX12_302 (pc := 2) C k1 h (Nat.le_of_ble_eq_true rfl) (Nat.le_of_ble_eq_true rfl) ⟨Nat.le_refl _, Nat.le_refl _⟩ dX12_whyDraw_2 (fun r2 w3 h => ?_)
  refine g_if_eq (pc := 5) C dX12_whyDraw_5 (tgt := 19) rfl (fun z4 => ?_) (fun z4 => ?_)
  · replace h := h.1 z4
    refine g_iconst (pc := 19) C dX12_whyDraw_19 (v := 1) rfl ?_
    exact g_iret (pc := 20) C hlk hr (Nat.le_refl _) (Nat.le_refl _) dX12_whyDraw_20 h
  · replace h := h.2 z4
    refine g_lload_n (pc := 8) C dX12_whyDraw_8 (q := 2) rfl ?_
    refine g_lconst (pc := 9) C dX12_whyDraw_9 (v := 1) rfl ?_
    refine g_ldc2 (pc := 10) C LCX12_314 dX12_whyDraw_10 ?_
    refine miX12_119 (pc := 13) C h (Nat.le_of_ble_eq_true rfl) (Nat.le_of_ble_eq_true rfl) ⟨Nat.le_refl _, Nat.le_refl _⟩ dX12_whyDraw_13 (fun r5 w6 h => ?_)
    refine g_if_ne (pc := 16) C dX12_whyDraw_16 (tgt := 21) rfl (fun z7 => ?_) (fun z7 => ?_)
    · replace h := h.2 z7
      refine g_aload_n (pc := 21) C dX12_whyDraw_21 (q := 0) rfl ?_
      refine g_lload_n (pc := 22) C dX12_whyDraw_22 (q := 1) rfl ?_
      refine g_l2i (pc := 23) C dX12_whyDraw_23 ?_
      obtain ⟨k8, h⟩ := h
      refine miX12_271 (pc := 24) C k8 h (Nat.le_of_ble_eq_true rfl) (Nat.le_of_ble_eq_true rfl) ⟨Nat.le_refl _, Nat.le_refl _⟩ dX12_whyDraw_24 (fun r9 w10 h => ?_)
      refine g_if_ne (pc := 27) C dX12_whyDraw_27 (tgt := 32) rfl (fun z11 => ?_) (fun z11 => ?_)
      · replace h := h.2 z11
        refine g_aload_n (pc := 32) C dX12_whyDraw_32 (q := 0) rfl ?_
        obtain ⟨k12, h⟩ := h
        obtain ⟨k13, h⟩ := h
        refine gfX12_9 (pc := 33) C k12 (isK_ne k13) dX12_whyDraw_33 ?_
        refine g_bipush (pc := 36) C dX12_whyDraw_36 (v := 25) rfl ?_
        obtain ⟨k14, h⟩ := h
        refine g_iald (pc := 38) C k13 k14 dX12_whyDraw_38 ?_
        refine g_lload_n (pc := 39) C dX12_whyDraw_39 (q := 1) rfl ?_
        refine g_l2i (pc := 40) C dX12_whyDraw_40 ?_
        refine miX12_268 (pc := 41) C h (Nat.le_of_ble_eq_true rfl) (Nat.le_of_ble_eq_true rfl) ⟨Nat.le_refl _, Nat.le_refl _⟩ dX12_whyDraw_41 (fun r15 w16 h => ?_)
        refine g_if_eq (pc := 44) C dX12_whyDraw_44 (tgt := 51) rfl (fun z17 => ?_) (fun z17 => ?_)
        · replace h := h.1 z17
          refine g_aload_n (pc := 51) C dX12_whyDraw_51 (q := 0) rfl ?_
          obtain ⟨k18, h⟩ := h
          obtain ⟨k19, h⟩ := h
          refine gfX12_9 (pc := 52) C k18 (isK_ne k19) dX12_whyDraw_52 ?_
          refine g_bipush (pc := 55) C dX12_whyDraw_55 (v := 15) rfl ?_
          refine g_lload_n (pc := 57) C dX12_whyDraw_57 (q := 1) rfl ?_
          refine g_l2i (pc := 58) C dX12_whyDraw_58 ?_
          refine g_iadd (pc := 59) C dX12_whyDraw_59 ?_
          obtain ⟨k20, h⟩ := h
          refine g_iald (pc := 60) C k19 k20 dX12_whyDraw_60 ?_
          refine g_i2l (pc := 61) C dX12_whyDraw_61 ?_
          refine g_lload_n (pc := 62) C dX12_whyDraw_62 (q := 2) rfl ?_
          refine g_lcmp (pc := 63) C dX12_whyDraw_63 ?_
          refine g_if_ge (pc := 64) C dX12_whyDraw_64 (tgt := 71) rfl (fun z21 => ?_) (fun z21 => ?_)
          · replace h := h.1 z21
            refine g_iconst (pc := 71) C dX12_whyDraw_71 (v := 0) rfl ?_
            exact g_iret (pc := 72) C hlk hr (Nat.le_refl _) (Nat.le_refl _) dX12_whyDraw_72 h
          · replace h := h.2 z21
            refine g_iconst (pc := 67) C dX12_whyDraw_67 (v := 4) rfl ?_
            refine g_goto (pc := 68) C dX12_whyDraw_68 (tgt := 72) rfl ?_
            exact g_iret (pc := 72) C hlk hr (Nat.le_refl _) (Nat.le_refl _) dX12_whyDraw_72 h
        · replace h := h.2 z17
          refine g_iconst (pc := 47) C dX12_whyDraw_47 (v := 3) rfl ?_
          refine g_goto (pc := 48) C dX12_whyDraw_48 (tgt := 72) rfl ?_
          exact g_iret (pc := 72) C hlk hr (Nat.le_refl _) (Nat.le_refl _) dX12_whyDraw_72 h
      · replace h := h.1 z11
        refine g_iconst (pc := 30) C dX12_whyDraw_30 (v := 2) rfl ?_
        exact g_iret (pc := 31) C hlk hr (Nat.le_refl _) (Nat.le_refl _) dX12_whyDraw_31 h
    · replace h := h.1 z7
      refine g_iconst (pc := 19) C dX12_whyDraw_19 (v := 1) rfl ?_
      exact g_iret (pc := 20) C hlk hr (Nat.le_refl _) (Nat.le_refl _) dX12_whyDraw_20 h
theorem miX12_325 (C : xC x p s m c cc nL args RX12) {a0 : Nat} {a1 : Int64} {a3 : Int64} {K : Int32 → Wd → Prop} {D MC MS : Nat} (hq : isK w a0 12) (h : w_X12_whyDraw a0 a1 a3 K w) (hD : 3 + 1 ≤ D) (hW : (st.map fun v => v.category).sum ≤ 8) (hij : i ≤ MC ∧ j ≤ MS) (hd : decode cc pc = .ok (.invokevirtual 325, 3)) (k : ∀ (r : Int32) (u : Wd), K r u → GW x p l e (rmd D MC MS) s m args below meth c nL Q (pc + 3) lo (.int r :: st) u i j) : GW x p l e (rmd D MC MS) s m args below meth c nL Q pc lo (.long a3 :: .long a1 :: .ref (adr x a0) :: st) w i j := g_callVi0 C (As := [.long a1, .long a3]) (ci := 12) (c_X12_whyDraw h) (x_cwV C 2 LMX12_325 ⟨rfl, by decide, by decide, rfl⟩ hD (by decide)) rfl hq (by decide) rfl rfl hW hd hij k
def w_X12_draw (a0 : Nat) (a1 : Int32) (a2 : Int32) (K : Int32 → Wd → Prop) (w : Wd) : Prop :=
  isK w a0 12 ∧ w_X12_whyDraw a0 a1.toInt64 a2.toInt64 (fun r2 w3 => ((r2 = 0 → isK w3 a0 12 ∧ w_X12_keeps a0 (fun w6 => isK w6 a0 12 ∧ w_X12_draws a0 a1 a2 (fun r8 w9 => K r8 w9) w6) w3) ∧ (¬ r2 = 0 → K (-r2) w3))) (uI w a0 4 0)
theorem c_X12_draw {x : xG} {l : Launch} {a0 : Nat} {a1 : Int32} {a2 : Int32} {K : Int32 → Wd → Prop} {w : Wd} (h : w_X12_draw a0 a1 a2 K w) : Met l yX12_draw (xws yX12_draw cX12_draw 4 (some .int)) (rmd 7 0 0) (xPc x [.ref (adr x a0), .int a1, .int a2] w) (QcI x K) 0 0 (xA x) := by
  refine xMet (by decide) (Nat.le_of_ble_eq_true rfl) (fun p e s m below meth c C hlk hr _ => ?_)
  show GW x p l e (rmd 7 0 0) s m [.ref (adr x a0), .int a1, .int a2].toArray below meth c 4 (QI x K below [.ref (adr x a0), .int a1, .int a2].toArray s 0 0) 0 [(0, .ref (adr x a0)), (1, .int a1), (2, .int a2)] [] w 0 0
  refine g_aload_n (pc := 0) C dX12_draw_0 (q := 0) rfl ?_
  refine g_iconst (pc := 1) C dX12_draw_1 (v := 0) rfl ?_
  obtain ⟨k1, h⟩ := h
  refine pfX12_58 (pc := 2) C k1 dX12_draw_2 ?_
  refine g_aload_n (pc := 5) C dX12_draw_5 (q := 0) rfl ?_
  refine g_iload_n (pc := 6) C dX12_draw_6 (q := 1) rfl ?_
  refine g_i2l (pc := 7) C dX12_draw_7 ?_
  refine g_iload_n (pc := 8) C dX12_draw_8 (q := 2) rfl ?_
  refine g_i2l (pc := 9) C dX12_draw_9 ?_
  refine miX12_325 (pc := 10) (w := uI w a0 4 0) C k1 h (Nat.le_of_ble_eq_true rfl) (Nat.le_of_ble_eq_true rfl) ⟨Nat.le_refl _, Nat.le_refl _⟩ dX12_draw_10 (fun r2 w3 h => ?_)
  refine g_istore_n (pc := 13) C dX12_draw_13 (Nat.le_of_ble_eq_true rfl) (lo' := [(3, .int r2), (0, .ref (adr x a0)), (1, .int a1), (2, .int a2)]) rfl ?_
  refine g_iload_n (pc := 14) C dX12_draw_14 (q := 0) rfl ?_
  refine g_if_eq (pc := 15) C dX12_draw_15 (tgt := 21) rfl (fun z4 => ?_) (fun z4 => ?_)
  · replace h := h.1 z4
    refine g_aload_n (pc := 21) C dX12_draw_21 (q := 1) rfl ?_
    obtain ⟨k5, h⟩ := h
    refine miX12_329 (pc := 22) C k5 h (Nat.le_of_ble_eq_true rfl) (Nat.le_of_ble_eq_true rfl) ⟨Nat.le_refl _, Nat.le_refl _⟩ dX12_draw_22 (fun w6 h => ?_)
    refine g_aload_n (pc := 25) C dX12_draw_25 (q := 1) rfl ?_
    refine g_iload_n (pc := 26) C dX12_draw_26 (q := 2) rfl ?_
    refine g_iload_n (pc := 27) C dX12_draw_27 (q := 3) rfl ?_
    obtain ⟨k7, h⟩ := h
    refine miX12_332 (pc := 28) C k7 h (Nat.le_of_ble_eq_true rfl) (Nat.le_of_ble_eq_true rfl) ⟨Nat.le_refl _, Nat.le_refl _⟩ dX12_draw_28 (fun r8 w9 h => ?_)
    exact g_iret (pc := 31) C hlk hr (Nat.le_refl _) (Nat.le_refl _) dX12_draw_31 h
  · replace h := h.2 z4
    refine g_iload_n (pc := 18) C dX12_draw_18 (q := 0) rfl ?_
    refine g_ineg (pc := 19) C dX12_draw_19 ?_
    exact g_iret (pc := 20) C hlk hr (Nat.le_refl _) (Nat.le_refl _) dX12_draw_20 h
def l_X12_putsAside_2  (K : Wd → Prop) : Nat → Nat → Int32 → Wd → Prop
  | 0, _, _, _ => False
  | n + 1, a0, a1, w => ((22 ≤ a1 → K w) ∧ (¬ 22 ≤ a1 → isK w a0 12 ∧ isK w (wR w a0 18) 20 ∧ isK w (wR w a0 0) 20 ∧ vp_in (5 + a1) (wn w (wR w a0 0)) ∧ vp_in a1 (wn w (wR w a0 18)) ∧ l_X12_putsAside_2 K n a0 (a1 + 1) (uI w (wR w a0 18) a1.toNatClampNeg (wI w (wR w a0 0) (5 + a1).toNatClampNeg))))
def w_X12_putsAside (a0 : Nat) (K : Wd → Prop) (w : Wd) : Prop :=
  ∃ n7, l_X12_putsAside_2  K n7 a0 0 w
theorem t_X12_putsAside_2 (C : xC x p s m c cX12_putsAside 2 args RX12) (hlk : meth.locks = false) (hr : meth.sig.returnType = none) {K : Wd → Prop}   : ∀ (n : Nat) (a0 : Nat) (a1 : Int32) (w : Wd), l_X12_putsAside_2 K n a0 a1 w → GW x p l e (rmd 0 0 0) s m args below meth c 2 (QV x K below args s 0 0) 2 [(0, .ref (adr x a0)), (1, .int a1)] [] w 0 0 := by
  intro n
  induction n with
  | zero => intro _ _ _ h; exact False.elim h
  | succ n ih =>
    intro a0 a1 w h
    refine g_iload_n (pc := 2) C dX12_putsAside_2 (q := 1) rfl ?_
    refine g_bipush (pc := 3) C dX12_putsAside_3 (v := 22) rfl ?_
    refine g_icmp_ge (pc := 5) C dX12_putsAside_5 (tgt := 28) rfl (fun z1 => ?_) (fun z1 => ?_)
    · replace h := h.1 z1
      exact g_vret (pc := 28) C hlk hr (Nat.le_refl _) (Nat.le_refl _) dX12_putsAside_28 h
    · replace h := h.2 z1
      refine g_aload_n (pc := 8) C dX12_putsAside_8 (q := 0) rfl ?_
      obtain ⟨k2, h⟩ := h
      obtain ⟨k3, h⟩ := h
      refine gfX12_33 (pc := 9) C k2 (isK_ne k3) dX12_putsAside_9 ?_
      refine g_iload_n (pc := 12) C dX12_putsAside_12 (q := 1) rfl ?_
      refine g_aload_n (pc := 13) C dX12_putsAside_13 (q := 0) rfl ?_
      obtain ⟨k4, h⟩ := h
      refine gfX12_9 (pc := 14) C k2 (isK_ne k4) dX12_putsAside_14 ?_
      refine g_iconst (pc := 17) C dX12_putsAside_17 (v := 5) rfl ?_
      refine g_iload_n (pc := 18) C dX12_putsAside_18 (q := 1) rfl ?_
      refine g_iadd (pc := 19) C dX12_putsAside_19 ?_
      obtain ⟨k5, h⟩ := h
      refine g_iald (pc := 20) C k4 k5 dX12_putsAside_20 ?_
      obtain ⟨k6, h⟩ := h
      refine g_iast (pc := 21) C k3 k6 dX12_putsAside_21 ?_
      refine g_iinc (pc := 22) C dX12_putsAside_22 (q := 1) rfl (v2 := a1 + 1) rfl (Nat.le_of_ble_eq_true rfl) (lo' := [(1, .int (a1 + 1)), (0, .ref (adr x a0))]) rfl ?_
      refine g_goto (pc := 25) C dX12_putsAside_25 (tgt := 2) rfl ?_
      refine g_sub [1, 0] rfl ?_
      exact ih _ _ _ h
theorem c_X12_putsAside {x : xG} {l : Launch} {a0 : Nat} {K : Wd → Prop} {w : Wd} (h : w_X12_putsAside a0 K w) : Met l yX12_putsAside (xws yX12_putsAside cX12_putsAside 2 none) (rmd 0 0 0) (xPc x [.ref (adr x a0)] w) (QcV x K) 0 0 (xA x) := by
  refine xMet (by decide) (Nat.le_of_ble_eq_true rfl) (fun p e s m below meth c C hlk hr _ => ?_)
  show GW x p l e (rmd 0 0 0) s m [.ref (adr x a0)].toArray below meth c 2 (QV x K below [.ref (adr x a0)].toArray s 0 0) 0 [(0, .ref (adr x a0))] [] w 0 0
  refine g_iconst (pc := 0) C dX12_putsAside_0 (v := 0) rfl ?_
  refine g_istore_n (pc := 1) C dX12_putsAside_1 (Nat.le_of_ble_eq_true rfl) (lo' := [(1, .int 0), (0, .ref (adr x a0))]) rfl ?_
  obtain ⟨n7, h⟩ := h
  refine g_sub [1, 0] rfl ?_
  refine t_X12_putsAside_2 C hlk hr n7 _ _ _ h
def l_X12_putsBack_2  (K : Wd → Prop) : Nat → Nat → Int32 → Wd → Prop
  | 0, _, _, _ => False
  | n + 1, a0, a1, w => ((22 ≤ a1 → K w) ∧ (¬ 22 ≤ a1 → isK w a0 12 ∧ isK w (wR w a0 0) 20 ∧ isK w (wR w a0 18) 20 ∧ vp_in a1 (wn w (wR w a0 18)) ∧ vp_in (5 + a1) (wn w (wR w a0 0)) ∧ l_X12_putsBack_2 K n a0 (a1 + 1) (uI w (wR w a0 0) (5 + a1).toNatClampNeg (wI w (wR w a0 18) a1.toNatClampNeg))))
def w_X12_putsBack (a0 : Nat) (K : Wd → Prop) (w : Wd) : Prop :=
  ∃ n7, l_X12_putsBack_2  K n7 a0 0 w
theorem t_X12_putsBack_2 (C : xC x p s m c cX12_putsBack 2 args RX12) (hlk : meth.locks = false) (hr : meth.sig.returnType = none) {K : Wd → Prop}   : ∀ (n : Nat) (a0 : Nat) (a1 : Int32) (w : Wd), l_X12_putsBack_2 K n a0 a1 w → GW x p l e (rmd 0 0 0) s m args below meth c 2 (QV x K below args s 0 0) 2 [(0, .ref (adr x a0)), (1, .int a1)] [] w 0 0 := by
  intro n
  induction n with
  | zero => intro _ _ _ h; exact False.elim h
  | succ n ih =>
    intro a0 a1 w h
    refine g_iload_n (pc := 2) C dX12_putsBack_2 (q := 1) rfl ?_
    refine g_bipush (pc := 3) C dX12_putsBack_3 (v := 22) rfl ?_
    refine g_icmp_ge (pc := 5) C dX12_putsBack_5 (tgt := 28) rfl (fun z1 => ?_) (fun z1 => ?_)
    · replace h := h.1 z1
      exact g_vret (pc := 28) C hlk hr (Nat.le_refl _) (Nat.le_refl _) dX12_putsBack_28 h
    · replace h := h.2 z1
      refine g_aload_n (pc := 8) C dX12_putsBack_8 (q := 0) rfl ?_
      obtain ⟨k2, h⟩ := h
      obtain ⟨k3, h⟩ := h
      refine gfX12_9 (pc := 9) C k2 (isK_ne k3) dX12_putsBack_9 ?_
      refine g_iconst (pc := 12) C dX12_putsBack_12 (v := 5) rfl ?_
      refine g_iload_n (pc := 13) C dX12_putsBack_13 (q := 1) rfl ?_
      refine g_iadd (pc := 14) C dX12_putsBack_14 ?_
      refine g_aload_n (pc := 15) C dX12_putsBack_15 (q := 0) rfl ?_
      obtain ⟨k4, h⟩ := h
      refine gfX12_33 (pc := 16) C k2 (isK_ne k4) dX12_putsBack_16 ?_
      refine g_iload_n (pc := 19) C dX12_putsBack_19 (q := 1) rfl ?_
      obtain ⟨k5, h⟩ := h
      refine g_iald (pc := 20) C k4 k5 dX12_putsBack_20 ?_
      obtain ⟨k6, h⟩ := h
      refine g_iast (pc := 21) C k3 k6 dX12_putsBack_21 ?_
      refine g_iinc (pc := 22) C dX12_putsBack_22 (q := 1) rfl (v2 := a1 + 1) rfl (Nat.le_of_ble_eq_true rfl) (lo' := [(1, .int (a1 + 1)), (0, .ref (adr x a0))]) rfl ?_
      refine g_goto (pc := 25) C dX12_putsBack_25 (tgt := 2) rfl ?_
      refine g_sub [1, 0] rfl ?_
      exact ih _ _ _ h
theorem c_X12_putsBack {x : xG} {l : Launch} {a0 : Nat} {K : Wd → Prop} {w : Wd} (h : w_X12_putsBack a0 K w) : Met l yX12_putsBack (xws yX12_putsBack cX12_putsBack 2 none) (rmd 0 0 0) (xPc x [.ref (adr x a0)] w) (QcV x K) 0 0 (xA x) := by
  refine xMet (by decide) (Nat.le_of_ble_eq_true rfl) (fun p e s m below meth c C hlk hr _ => ?_)
  show GW x p l e (rmd 0 0 0) s m [.ref (adr x a0)].toArray below meth c 2 (QV x K below [.ref (adr x a0)].toArray s 0 0) 0 [(0, .ref (adr x a0))] [] w 0 0
  refine g_iconst (pc := 0) C dX12_putsBack_0 (v := 0) rfl ?_
  refine g_istore_n (pc := 1) C dX12_putsBack_1 (Nat.le_of_ble_eq_true rfl) (lo' := [(1, .int 0), (0, .ref (adr x a0))]) rfl ?_
  obtain ⟨n7, h⟩ := h
  refine g_sub [1, 0] rfl ?_
  refine t_X12_putsBack_2 C hlk hr n7 _ _ _ h
def w_X12_isQuiet (a0 : Nat) (a1 : Int32) (a2 : Int32) (K : Int32 → Wd → Prop) (w : Wd) : Prop :=
  isK w a0 12 ∧ w_X12_whyDraw a0 a1.toInt64 a2.toInt64 (fun r2 w3 => ((r2 = 0 → isK w3 a0 12 ∧ w_X12_chainOf a0 a1 a2 (fun r6 w7 => ((r6 = 0 → K 1 w7) ∧ (¬ r6 = 0 → K 0 w7))) w3) ∧ (¬ r2 = 0 → K 0 w3))) w
theorem c_X12_isQuiet {x : xG} {l : Launch} {a0 : Nat} {a1 : Int32} {a2 : Int32} {K : Int32 → Wd → Prop} {w : Wd} (h : w_X12_isQuiet a0 a1 a2 K w) : Met l yX12_isQuiet (xws yX12_isQuiet cX12_isQuiet 3 (some .boolean)) (rmd 6 0 0) (xPc x [.ref (adr x a0), .int a1, .int a2] w) (QcI x K) 0 0 (xA x) := by
  refine xMet (by decide) (Nat.le_of_ble_eq_true rfl) (fun p e s m below meth c C hlk hr _ => ?_)
  show GW x p l e (rmd 6 0 0) s m [.ref (adr x a0), .int a1, .int a2].toArray below meth c 3 (QI x K below [.ref (adr x a0), .int a1, .int a2].toArray s 0 0) 0 [(0, .ref (adr x a0)), (1, .int a1), (2, .int a2)] [] w 0 0
  refine g_aload_n (pc := 0) C dX12_isQuiet_0 (q := 0) rfl ?_
  refine g_iload_n (pc := 1) C dX12_isQuiet_1 (q := 1) rfl ?_
  refine g_i2l (pc := 2) C dX12_isQuiet_2 ?_
  refine g_iload_n (pc := 3) C dX12_isQuiet_3 (q := 2) rfl ?_
  refine g_i2l (pc := 4) C dX12_isQuiet_4 ?_
  obtain ⟨k1, h⟩ := h
  refine miX12_325 (pc := 5) C k1 h (Nat.le_of_ble_eq_true rfl) (Nat.le_of_ble_eq_true rfl) ⟨Nat.le_refl _, Nat.le_refl _⟩ dX12_isQuiet_5 (fun r2 w3 h => ?_)
  refine g_if_ne (pc := 8) C dX12_isQuiet_8 (tgt := 24) rfl (fun z4 => ?_) (fun z4 => ?_)
  · replace h := h.2 z4
    refine g_iconst (pc := 24) C dX12_isQuiet_24 (v := 0) rfl ?_
    exact g_zret (pc := 25) C hlk hr (Nat.le_refl _) (Nat.le_refl _) dX12_isQuiet_25 (Or.inl rfl) h
  · replace h := h.1 z4
    refine g_aload_n (pc := 11) C dX12_isQuiet_11 (q := 0) rfl ?_
    refine g_iload_n (pc := 12) C dX12_isQuiet_12 (q := 1) rfl ?_
    refine g_iload_n (pc := 13) C dX12_isQuiet_13 (q := 2) rfl ?_
    obtain ⟨k5, h⟩ := h
    refine miX12_316 (pc := 14) C k5 h (Nat.le_of_ble_eq_true rfl) (Nat.le_of_ble_eq_true rfl) ⟨Nat.le_refl _, Nat.le_refl _⟩ dX12_isQuiet_14 (fun r6 w7 h => ?_)
    refine g_if_ne (pc := 17) C dX12_isQuiet_17 (tgt := 24) rfl (fun z8 => ?_) (fun z8 => ?_)
    · replace h := h.2 z8
      refine g_iconst (pc := 24) C dX12_isQuiet_24 (v := 0) rfl ?_
      exact g_zret (pc := 25) C hlk hr (Nat.le_refl _) (Nat.le_refl _) dX12_isQuiet_25 (Or.inl rfl) h
    · replace h := h.1 z8
      refine g_iconst (pc := 20) C dX12_isQuiet_20 (v := 1) rfl ?_
      refine g_goto (pc := 21) C dX12_isQuiet_21 (tgt := 25) rfl ?_
      exact g_zret (pc := 25) C hlk hr (Nat.le_refl _) (Nat.le_refl _) dX12_isQuiet_25 (Or.inr rfl) h
theorem miX12_405 (C : xC x p s m c cc nL args RX12) {a0 : Nat} {a1 : Int32} {a2 : Int32} {K : Int32 → Wd → Prop} {D MC MS : Nat} (hq : isK w a0 12) (h : w_X12_isQuiet a0 a1 a2 K w) (hD : 6 + 1 ≤ D) (hW : (st.map fun v => v.category).sum ≤ 8) (hij : i ≤ MC ∧ j ≤ MS) (hd : decode cc pc = .ok (.invokevirtual 405, 3)) (k : ∀ (r : Int32) (u : Wd), K r u → GW x p l e (rmd D MC MS) s m args below meth c nL Q (pc + 3) lo (.int r :: st) u i j) : GW x p l e (rmd D MC MS) s m args below meth c nL Q pc lo (.int a2 :: .int a1 :: .ref (adr x a0) :: st) w i j := g_callVi0 C (As := [.int a1, .int a2]) (ci := 12) (c_X12_isQuiet h) (x_cwV C 2 LMX12_405 ⟨rfl, by decide, by decide, rfl⟩ hD (by decide)) rfl hq (by decide) rfl rfl hW hd hij k
def l_X12_quietFor_2  (K : Int32 → Wd → Prop) : Nat → Nat → Int32 → Int32 → Wd → Prop
  | 0, _, _, _, _ => False
  | n + 1, a0, a1, a2, w => isK w a0 12 ∧ w_X12_wells a0 (fun r2 w3 => ((r2 ≤ a2 → K (-1) w3) ∧ (¬ r2 ≤ a2 → isK w3 a0 12 ∧ isK w3 (wR w3 a0 0) 20 ∧ vp_in (73 + a1) (wn w3 (wR w3 a0 0)) ∧ w_X12_has (wI w3 (wR w3 a0 0) (73 + a1).toNatClampNeg) a2 (fun r8 w9 => ((r8 = 0 → l_X12_quietFor_2 K n a0 a1 (a2 + 1) w9) ∧ (¬ r8 = 0 → isK w9 a0 12 ∧ isK w9 (wR w9 a0 0) 20 ∧ vp_in (67 + a1) (wn w9 (wR w9 a0 0)) ∧ w_X12_isQuiet a0 a2 (wI w9 (wR w9 a0 0) (67 + a1).toNatClampNeg) (fun r14 w15 => ((r14 = 0 → l_X12_quietFor_2 K n a0 a1 (a2 + 1) w15) ∧ (¬ r14 = 0 → K a2 w15))) w9))) w3))) w
def w_X12_quietFor (a0 : Nat) (a1 : Int32) (K : Int32 → Wd → Prop) (w : Wd) : Prop :=
  ∃ n17, l_X12_quietFor_2  K n17 a0 a1 0 w
theorem t_X12_quietFor_2 (C : xC x p s m c cX12_quietFor 3 args RX12) (hlk : meth.locks = false) (hr : meth.sig.returnType = some .int) {K : Int32 → Wd → Prop}   : ∀ (n : Nat) (a0 : Nat) (a1 : Int32) (a2 : Int32) (w : Wd), l_X12_quietFor_2 K n a0 a1 a2 w → GW x p l e (rmd 7 0 0) s m args below meth c 3 (QI x K below args s 0 0) 2 [(0, .ref (adr x a0)), (1, .int a1), (2, .int a2)] [] w 0 0 := by
  intro n
  induction n with
  | zero => intro _ _ _ _ h; exact False.elim h
  | succ n ih =>
    intro a0 a1 a2 w h
    refine g_iload_n (pc := 2) C dX12_quietFor_2 (q := 2) rfl ?_
    refine g_aload_n (pc := 3) C dX12_quietFor_3 (q := 0) rfl ?_
    obtain ⟨k1, h⟩ := h
    refine miX12_239 (pc := 4) C k1 h (Nat.le_of_ble_eq_true rfl) (Nat.le_of_ble_eq_true rfl) ⟨Nat.le_refl _, Nat.le_refl _⟩ dX12_quietFor_4 (fun r2 w3 h => ?_)
    refine g_icmp_ge (pc := 7) C dX12_quietFor_7 (tgt := 51) rfl (fun z4 => ?_) (fun z4 => ?_)
    · replace h := h.1 z4
      refine g_iconst (pc := 51) C dX12_quietFor_51 (v := (-1)) rfl ?_
      exact g_iret (pc := 52) C hlk hr (Nat.le_refl _) (Nat.le_refl _) dX12_quietFor_52 h
    · replace h := h.2 z4
      refine g_aload_n (pc := 10) C dX12_quietFor_10 (q := 0) rfl ?_
      obtain ⟨k5, h⟩ := h
      obtain ⟨k6, h⟩ := h
      refine gfX12_9 (pc := 11) C k5 (isK_ne k6) dX12_quietFor_11 ?_
      refine g_bipush (pc := 14) C dX12_quietFor_14 (v := 73) rfl ?_
      refine g_iload_n (pc := 16) C dX12_quietFor_16 (q := 1) rfl ?_
      refine g_iadd (pc := 17) C dX12_quietFor_17 ?_
      obtain ⟨k7, h⟩ := h
      refine g_iald (pc := 18) C k6 k7 dX12_quietFor_18 ?_
      refine g_iload_n (pc := 19) C dX12_quietFor_19 (q := 2) rfl ?_
      refine miX12_268 (pc := 20) C h (Nat.le_of_ble_eq_true rfl) (Nat.le_of_ble_eq_true rfl) ⟨Nat.le_refl _, Nat.le_refl _⟩ dX12_quietFor_20 (fun r8 w9 h => ?_)
      refine g_if_eq (pc := 23) C dX12_quietFor_23 (tgt := 45) rfl (fun z10 => ?_) (fun z10 => ?_)
      · replace h := h.1 z10
        refine g_iinc (pc := 45) C dX12_quietFor_45 (q := 2) rfl (v2 := a2 + 1) rfl (Nat.le_of_ble_eq_true rfl) (lo' := [(2, .int (a2 + 1)), (0, .ref (adr x a0)), (1, .int a1)]) rfl ?_
        refine g_goto (pc := 48) C dX12_quietFor_48 (tgt := 2) rfl ?_
        refine g_sub [1, 2, 0] rfl ?_
        exact ih _ _ _ _ h
      · replace h := h.2 z10
        refine g_aload_n (pc := 26) C dX12_quietFor_26 (q := 0) rfl ?_
        refine g_iload_n (pc := 27) C dX12_quietFor_27 (q := 2) rfl ?_
        refine g_aload_n (pc := 28) C dX12_quietFor_28 (q := 0) rfl ?_
        obtain ⟨k11, h⟩ := h
        obtain ⟨k12, h⟩ := h
        refine gfX12_9 (pc := 29) C k11 (isK_ne k12) dX12_quietFor_29 ?_
        refine g_bipush (pc := 32) C dX12_quietFor_32 (v := 67) rfl ?_
        refine g_iload_n (pc := 34) C dX12_quietFor_34 (q := 1) rfl ?_
        refine g_iadd (pc := 35) C dX12_quietFor_35 ?_
        obtain ⟨k13, h⟩ := h
        refine g_iald (pc := 36) C k12 k13 dX12_quietFor_36 ?_
        refine miX12_405 (pc := 37) C k11 h (Nat.le_of_ble_eq_true rfl) (Nat.le_of_ble_eq_true rfl) ⟨Nat.le_refl _, Nat.le_refl _⟩ dX12_quietFor_37 (fun r14 w15 h => ?_)
        refine g_if_eq (pc := 40) C dX12_quietFor_40 (tgt := 45) rfl (fun z16 => ?_) (fun z16 => ?_)
        · replace h := h.1 z16
          refine g_iinc (pc := 45) C dX12_quietFor_45 (q := 2) rfl (v2 := a2 + 1) rfl (Nat.le_of_ble_eq_true rfl) (lo' := [(2, .int (a2 + 1)), (0, .ref (adr x a0)), (1, .int a1)]) rfl ?_
          refine g_goto (pc := 48) C dX12_quietFor_48 (tgt := 2) rfl ?_
          refine g_sub [1, 2, 0] rfl ?_
          exact ih _ _ _ _ h
        · replace h := h.2 z16
          refine g_iload_n (pc := 43) C dX12_quietFor_43 (q := 2) rfl ?_
          exact g_iret (pc := 44) C hlk hr (Nat.le_refl _) (Nat.le_refl _) dX12_quietFor_44 h
theorem c_X12_quietFor {x : xG} {l : Launch} {a0 : Nat} {a1 : Int32} {K : Int32 → Wd → Prop} {w : Wd} (h : w_X12_quietFor a0 a1 K w) : Met l yX12_quietFor (xws yX12_quietFor cX12_quietFor 3 (some .int)) (rmd 7 0 0) (xPc x [.ref (adr x a0), .int a1] w) (QcI x K) 0 0 (xA x) := by
  refine xMet (by decide) (Nat.le_of_ble_eq_true rfl) (fun p e s m below meth c C hlk hr _ => ?_)
  show GW x p l e (rmd 7 0 0) s m [.ref (adr x a0), .int a1].toArray below meth c 3 (QI x K below [.ref (adr x a0), .int a1].toArray s 0 0) 0 [(0, .ref (adr x a0)), (1, .int a1)] [] w 0 0
  refine g_iconst (pc := 0) C dX12_quietFor_0 (v := 0) rfl ?_
  refine g_istore_n (pc := 1) C dX12_quietFor_1 (Nat.le_of_ble_eq_true rfl) (lo' := [(2, .int 0), (0, .ref (adr x a0)), (1, .int a1)]) rfl ?_
  obtain ⟨n17, h⟩ := h
  refine g_sub [1, 2, 0] rfl ?_
  refine t_X12_quietFor_2 C hlk hr n17 _ _ _ _ h
theorem miX12_375 (C : xC x p s m c cc nL args RX12) {a0 : Nat} {K : Wd → Prop} {D MC MS : Nat} (hq : isK w a0 12) (h : w_X12_putsAside a0 K w) (hD : 0 + 1 ≤ D) (hW : (st.map fun v => v.category).sum ≤ 8) (hij : i ≤ MC ∧ j ≤ MS) (hd : decode cc pc = .ok (.invokevirtual 375, 3)) (k : ∀ (u : Wd), K u → GW x p l e (rmd D MC MS) s m args below meth c nL Q (pc + 3) lo st u i j) : GW x p l e (rmd D MC MS) s m args below meth c nL Q pc lo (.ref (adr x a0) :: st) w i j := g_callVv0 C (As := []) (ci := 12) (c_X12_putsAside h) (x_cwV C 0 LMX12_375 ⟨rfl, by decide, by decide, rfl⟩ hD (by decide)) rfl hq (by decide) rfl rfl hW hd hij k
theorem miX12_384 (C : xC x p s m c cc nL args RX12) {a0 : Nat} {K : Wd → Prop} {D MC MS : Nat} (hq : isK w a0 12) (h : w_X12_putsBack a0 K w) (hD : 0 + 1 ≤ D) (hW : (st.map fun v => v.category).sum ≤ 8) (hij : i ≤ MC ∧ j ≤ MS) (hd : decode cc pc = .ok (.invokevirtual 384, 3)) (k : ∀ (u : Wd), K u → GW x p l e (rmd D MC MS) s m args below meth c nL Q (pc + 3) lo st u i j) : GW x p l e (rmd D MC MS) s m args below meth c nL Q pc lo (.ref (adr x a0) :: st) w i j := g_callVv0 C (As := []) (ci := 12) (c_X12_putsBack h) (x_cwV C 0 LMX12_384 ⟨rfl, by decide, by decide, rfl⟩ hD (by decide)) rfl hq (by decide) rfl rfl hW hd hij k
theorem miX12_420 (C : xC x p s m c cc nL args RX12) {a0 : Nat} {a1 : Int32} {K : Int32 → Wd → Prop} {D MC MS : Nat} (hq : isK w a0 12) (h : w_X12_quietFor a0 a1 K w) (hD : 7 + 1 ≤ D) (hW : (st.map fun v => v.category).sum ≤ 8) (hij : i ≤ MC ∧ j ≤ MS) (hd : decode cc pc = .ok (.invokevirtual 420, 3)) (k : ∀ (r : Int32) (u : Wd), K r u → GW x p l e (rmd D MC MS) s m args below meth c nL Q (pc + 3) lo (.int r :: st) u i j) : GW x p l e (rmd D MC MS) s m args below meth c nL Q pc lo (.int a1 :: .ref (adr x a0) :: st) w i j := g_callVi0 C (As := [.int a1]) (ci := 12) (c_X12_quietFor h) (x_cwV C 1 LMX12_420 ⟨rfl, by decide, by decide, rfl⟩ hD (by decide)) rfl hq (by decide) rfl rfl hW hd hij k
def l_X12_laysQuiet_6 (E29 : Nat → Wd → Prop) (K : Wd → Prop) : Nat → Nat → Int32 → Wd → Prop
  | 0, _, _, _ => False
  | n + 1, a0, a1, w => isK w a0 12 ∧ isK w (wR w a0 0) 20 ∧ vp_in 2 (wn w (wR w a0 0)) ∧ (((wI w (wR w a0 0) (2 : Int32).toNatClampNeg) ≤ a1 → E29 a0 w) ∧ (¬ (wI w (wR w a0 0) (2 : Int32).toNatClampNeg) ≤ a1 → isK w (wR w a0 21) 21 ∧ vp_in a1 (wn w (wR w a0 21)) ∧ l_X12_laysQuiet_6 E29 K n a0 (a1 + 1) (uL w (wR w a0 21) a1.toNatClampNeg 0)))
def l_X12_laysQuiet_39 (E80 : Nat → Int32 → Wd → Prop) (K : Wd → Prop) : Nat → Nat → Int32 → Int32 → Wd → Prop
  | 0, _, _, _, _ => False
  | n + 1, a0, a1, a2, w => isK w a0 12 ∧ isK w (wR w a0 0) 20 ∧ vp_in 2 (wn w (wR w a0 0)) ∧ (((wI w (wR w a0 0) (2 : Int32).toNatClampNeg) ≤ a2 → E80 a0 a1 w) ∧ (¬ (wI w (wR w a0 0) (2 : Int32).toNatClampNeg) ≤ a2 → isK w (wR w a0 21) 21 ∧ vp_in a2 (wn w (wR w a0 21)) ∧ w_X12_quietFor a0 a2 (fun r20 w21 => ((r20 = (-1) → isK w21 (wR w a0 21) 21 ∧ vp_in a2 (wn w21 (wR w a0 21)) ∧ l_X12_laysQuiet_39 E80 K n a0 a1 (a2 + 1) (uL w21 (wR w a0 21) a2.toNatClampNeg ((wL w (wR w a0 21) a2.toNatClampNeg) ||| 0))) ∧ (¬ r20 = (-1) → isK w21 (wR w a0 21) 21 ∧ vp_in a2 (wn w21 (wR w a0 21)) ∧ l_X12_laysQuiet_39 E80 K n a0 a1 (a2 + 1) (uL w21 (wR w a0 21) a2.toNatClampNeg ((wL w (wR w a0 21) a2.toNatClampNeg) ||| (x_lshl 1 a1)))))) w))
def l_X12_laysQuiet_31  (K : Wd → Prop) : Nat → Nat → Int32 → Wd → Prop
  | 0, _, _, _ => False
  | n + 1, a0, a1, w => ((40 < a1 → isK w a0 12 ∧ w_X12_putsBack a0 (fun w13 => K w13) w) ∧ (¬ 40 < a1 → ∃ n32, l_X12_laysQuiet_39 (fun b27 b28 w29 => isK w29 b27 12 ∧ w_X12_hour b27 (fun w31 => l_X12_laysQuiet_31 K n b27 (b28 + 1) w31) w29) K n32 a0 a1 0 w))
def w_X12_laysQuiet (a0 : Nat) (K : Wd → Prop) (w : Wd) : Prop :=
  isK w a0 12 ∧ w_X12_putsAside a0 (fun w2 => ∃ n34, l_X12_laysQuiet_6 (fun b9 w10 => ∃ n33, l_X12_laysQuiet_31  K n33 b9 0 w10) K n34 a0 0 w2) w
theorem t_X12_laysQuiet_6 (C : xC x p s m c cX12_laysQuiet 3 args RX12) (hlk : meth.locks = false) (hr : meth.sig.returnType = none) {K : Wd → Prop} {E29 : Nat → Wd → Prop} (hE29 : ∀ (b0 : Nat) (w : Wd), E29 b0 w → GW x p l e (rmd 8 0 0) s m args below meth c 3 (QV x K below args s 0 0) 29 [(0, .ref (adr x b0))] [] w 0 0) : ∀ (n : Nat) (a0 : Nat) (a1 : Int32) (w : Wd), l_X12_laysQuiet_6 E29 K n a0 a1 w → GW x p l e (rmd 8 0 0) s m args below meth c 3 (QV x K below args s 0 0) 6 [(0, .ref (adr x a0)), (1, .int a1)] [] w 0 0 := by
  intro n
  induction n with
  | zero => intro _ _ _ h; exact False.elim h
  | succ n ih =>
    intro a0 a1 w h
    refine g_iload_n (pc := 6) C dX12_laysQuiet_6 (q := 1) rfl ?_
    refine g_aload_n (pc := 7) C dX12_laysQuiet_7 (q := 0) rfl ?_
    obtain ⟨k3, h⟩ := h
    obtain ⟨k4, h⟩ := h
    refine gfX12_9 (pc := 8) C k3 (isK_ne k4) dX12_laysQuiet_8 ?_
    refine g_iconst (pc := 11) C dX12_laysQuiet_11 (v := 2) rfl ?_
    obtain ⟨k5, h⟩ := h
    refine g_iald (pc := 12) C k4 k5 dX12_laysQuiet_12 ?_
    refine g_icmp_ge (pc := 13) C dX12_laysQuiet_13 (tgt := 29) rfl (fun z6 => ?_) (fun z6 => ?_)
    · replace h := h.1 z6
      refine g_sub [0] rfl ?_
      exact hE29 _ _ h
    · replace h := h.2 z6
      refine g_aload_n (pc := 16) C dX12_laysQuiet_16 (q := 0) rfl ?_
      obtain ⟨k7, h⟩ := h
      refine gfX12_39 (pc := 17) C k3 (isK_ne k7) dX12_laysQuiet_17 ?_
      refine g_iload_n (pc := 20) C dX12_laysQuiet_20 (q := 1) rfl ?_
      refine g_lconst (pc := 21) C dX12_laysQuiet_21 (v := 0) rfl ?_
      obtain ⟨k8, h⟩ := h
      refine g_last (pc := 22) C k7 k8 dX12_laysQuiet_22 ?_
      refine g_iinc (pc := 23) C dX12_laysQuiet_23 (q := 1) rfl (v2 := a1 + 1) rfl (Nat.le_of_ble_eq_true rfl) (lo' := [(1, .int (a1 + 1)), (0, .ref (adr x a0))]) rfl ?_
      refine g_goto (pc := 26) C dX12_laysQuiet_26 (tgt := 6) rfl ?_
      refine g_sub [1, 0] rfl ?_
      exact ih _ _ _ h
theorem t_X12_laysQuiet_39 (C : xC x p s m c cX12_laysQuiet 3 args RX12) (hlk : meth.locks = false) (hr : meth.sig.returnType = none) {K : Wd → Prop} {E80 : Nat → Int32 → Wd → Prop} (hE80 : ∀ (b0 : Nat) (b1 : Int32) (w : Wd), E80 b0 b1 w → GW x p l e (rmd 8 0 0) s m args below meth c 3 (QV x K below args s 0 0) 80 [(0, .ref (adr x b0)), (1, .int b1)] [] w 0 0) : ∀ (n : Nat) (a0 : Nat) (a1 : Int32) (a2 : Int32) (w : Wd), l_X12_laysQuiet_39 E80 K n a0 a1 a2 w → GW x p l e (rmd 8 0 0) s m args below meth c 3 (QV x K below args s 0 0) 39 [(0, .ref (adr x a0)), (1, .int a1), (2, .int a2)] [] w 0 0 := by
  intro n
  induction n with
  | zero => intro _ _ _ _ h; exact False.elim h
  | succ n ih =>
    intro a0 a1 a2 w h
    refine g_iload_n (pc := 39) C dX12_laysQuiet_39 (q := 2) rfl ?_
    refine g_aload_n (pc := 40) C dX12_laysQuiet_40 (q := 0) rfl ?_
    obtain ⟨k14, h⟩ := h
    obtain ⟨k15, h⟩ := h
    refine gfX12_9 (pc := 41) C k14 (isK_ne k15) dX12_laysQuiet_41 ?_
    refine g_iconst (pc := 44) C dX12_laysQuiet_44 (v := 2) rfl ?_
    obtain ⟨k16, h⟩ := h
    refine g_iald (pc := 45) C k15 k16 dX12_laysQuiet_45 ?_
    refine g_icmp_ge (pc := 46) C dX12_laysQuiet_46 (tgt := 80) rfl (fun z17 => ?_) (fun z17 => ?_)
    · replace h := h.1 z17
      refine g_sub [0, 1] rfl ?_
      exact hE80 _ _ _ h
    · replace h := h.2 z17
      refine g_aload_n (pc := 49) C dX12_laysQuiet_49 (q := 0) rfl ?_
      obtain ⟨k18, h⟩ := h
      refine gfX12_39 (pc := 50) C k14 (isK_ne k18) dX12_laysQuiet_50 ?_
      refine g_iload_n (pc := 53) C dX12_laysQuiet_53 (q := 2) rfl ?_
      refine g_dup2 (pc := 54) C dX12_laysQuiet_54 rfl rfl ?_
      obtain ⟨k19, h⟩ := h
      refine g_lald (pc := 55) C k18 k19 dX12_laysQuiet_55 ?_
      refine g_aload_n (pc := 56) C dX12_laysQuiet_56 (q := 0) rfl ?_
      refine g_iload_n (pc := 57) C dX12_laysQuiet_57 (q := 2) rfl ?_
      refine miX12_420 (pc := 58) C k14 h (Nat.le_of_ble_eq_true rfl) (Nat.le_of_ble_eq_true rfl) ⟨Nat.le_refl _, Nat.le_refl _⟩ dX12_laysQuiet_58 (fun r20 w21 h => ?_)
      refine g_iconst (pc := 61) C dX12_laysQuiet_61 (v := (-1)) rfl ?_
      refine g_icmp_ne (pc := 62) C dX12_laysQuiet_62 (tgt := 69) rfl (fun z22 => ?_) (fun z22 => ?_)
      · replace h := h.2 z22
        refine g_lconst (pc := 69) C dX12_laysQuiet_69 (v := 1) rfl ?_
        refine g_iload_n (pc := 70) C dX12_laysQuiet_70 (q := 1) rfl ?_
        refine h_lshl (pc := 71) C dX12_laysQuiet_71 ?_
        refine g_lor (pc := 72) C dX12_laysQuiet_72 ?_
        obtain ⟨k23, h⟩ := h
        obtain ⟨k24, h⟩ := h
        refine g_last (pc := 73) C k23 k24 dX12_laysQuiet_73 ?_
        refine g_iinc (pc := 74) C dX12_laysQuiet_74 (q := 2) rfl (v2 := a2 + 1) rfl (Nat.le_of_ble_eq_true rfl) (lo' := [(2, .int (a2 + 1)), (0, .ref (adr x a0)), (1, .int a1)]) rfl ?_
        refine g_goto (pc := 77) C dX12_laysQuiet_77 (tgt := 39) rfl ?_
        refine g_sub [1, 2, 0] rfl ?_
        exact ih _ _ _ _ h
      · replace h := h.1 z22
        refine g_lconst (pc := 65) C dX12_laysQuiet_65 (v := 0) rfl ?_
        refine g_goto (pc := 66) C dX12_laysQuiet_66 (tgt := 72) rfl ?_
        refine g_lor (pc := 72) C dX12_laysQuiet_72 ?_
        obtain ⟨k25, h⟩ := h
        obtain ⟨k26, h⟩ := h
        refine g_last (pc := 73) C k25 k26 dX12_laysQuiet_73 ?_
        refine g_iinc (pc := 74) C dX12_laysQuiet_74 (q := 2) rfl (v2 := a2 + 1) rfl (Nat.le_of_ble_eq_true rfl) (lo' := [(2, .int (a2 + 1)), (0, .ref (adr x a0)), (1, .int a1)]) rfl ?_
        refine g_goto (pc := 77) C dX12_laysQuiet_77 (tgt := 39) rfl ?_
        refine g_sub [1, 2, 0] rfl ?_
        exact ih _ _ _ _ h
theorem t_X12_laysQuiet_31 (C : xC x p s m c cX12_laysQuiet 3 args RX12) (hlk : meth.locks = false) (hr : meth.sig.returnType = none) {K : Wd → Prop}   : ∀ (n : Nat) (a0 : Nat) (a1 : Int32) (w : Wd), l_X12_laysQuiet_31 K n a0 a1 w → GW x p l e (rmd 8 0 0) s m args below meth c 3 (QV x K below args s 0 0) 31 [(0, .ref (adr x a0)), (1, .int a1)] [] w 0 0 := by
  intro n
  induction n with
  | zero => intro _ _ _ h; exact False.elim h
  | succ n ih =>
    intro a0 a1 w h
    refine g_iload_n (pc := 31) C dX12_laysQuiet_31 (q := 1) rfl ?_
    refine g_bipush (pc := 32) C dX12_laysQuiet_32 (v := 40) rfl ?_
    refine g_icmp_gt (pc := 34) C dX12_laysQuiet_34 (tgt := 90) rfl (fun z11 => ?_) (fun z11 => ?_)
    · replace h := h.1 z11
      refine g_aload_n (pc := 90) C dX12_laysQuiet_90 (q := 0) rfl ?_
      obtain ⟨k12, h⟩ := h
      refine miX12_384 (pc := 91) C k12 h (Nat.le_of_ble_eq_true rfl) (Nat.le_of_ble_eq_true rfl) ⟨Nat.le_refl _, Nat.le_refl _⟩ dX12_laysQuiet_91 (fun w13 h => ?_)
      exact g_vret (pc := 94) C hlk hr (Nat.le_refl _) (Nat.le_refl _) dX12_laysQuiet_94 h
    · replace h := h.2 z11
      refine g_iconst (pc := 37) C dX12_laysQuiet_37 (v := 0) rfl ?_
      refine g_istore_n (pc := 38) C dX12_laysQuiet_38 (Nat.le_of_ble_eq_true rfl) (lo' := [(2, .int 0), (0, .ref (adr x a0)), (1, .int a1)]) rfl ?_
      obtain ⟨n32, h⟩ := h
      refine g_sub [1, 2, 0] rfl ?_
      refine t_X12_laysQuiet_39 C hlk hr ?_ n32 _ _ _ _ h
      · intro b27 b28 w29 h
        refine g_aload_n (pc := 80) C dX12_laysQuiet_80 (q := 0) rfl ?_
        obtain ⟨k30, h⟩ := h
        refine miX12_347 (pc := 81) C k30 h (Nat.le_of_ble_eq_true rfl) (Nat.le_of_ble_eq_true rfl) ⟨Nat.le_refl _, Nat.le_refl _⟩ dX12_laysQuiet_81 (fun w31 h => ?_)
        refine g_iinc (pc := 84) C dX12_laysQuiet_84 (q := 1) rfl (v2 := b28 + 1) rfl (Nat.le_of_ble_eq_true rfl) (lo' := [(1, .int (b28 + 1)), (0, .ref (adr x b27))]) rfl ?_
        refine g_goto (pc := 87) C dX12_laysQuiet_87 (tgt := 31) rfl ?_
        refine g_sub [1, 0] rfl ?_
        exact ih _ _ _ h
theorem c_X12_laysQuiet {x : xG} {l : Launch} {a0 : Nat} {K : Wd → Prop} {w : Wd} (h : w_X12_laysQuiet a0 K w) : Met l yX12_laysQuiet (xws yX12_laysQuiet cX12_laysQuiet 3 none) (rmd 8 0 0) (xPc x [.ref (adr x a0)] w) (QcV x K) 0 0 (xA x) := by
  refine xMet (by decide) (Nat.le_of_ble_eq_true rfl) (fun p e s m below meth c C hlk hr _ => ?_)
  show GW x p l e (rmd 8 0 0) s m [.ref (adr x a0)].toArray below meth c 3 (QV x K below [.ref (adr x a0)].toArray s 0 0) 0 [(0, .ref (adr x a0))] [] w 0 0
  refine g_aload_n (pc := 0) C dX12_laysQuiet_0 (q := 0) rfl ?_
  obtain ⟨k1, h⟩ := h
  refine miX12_375 (pc := 1) C k1 h (Nat.le_of_ble_eq_true rfl) (Nat.le_of_ble_eq_true rfl) ⟨Nat.le_refl _, Nat.le_refl _⟩ dX12_laysQuiet_1 (fun w2 h => ?_)
  refine g_iconst (pc := 4) C dX12_laysQuiet_4 (v := 0) rfl ?_
  refine g_istore_n (pc := 5) C dX12_laysQuiet_5 (Nat.le_of_ble_eq_true rfl) (lo' := [(1, .int 0), (0, .ref (adr x a0))]) rfl ?_
  obtain ⟨n34, h⟩ := h
  refine g_sub [1, 0] rfl ?_
  refine t_X12_laysQuiet_6 C hlk hr ?_ n34 _ _ _ h
  · intro b9 w10 h
    refine g_iconst (pc := 29) C dX12_laysQuiet_29 (v := 0) rfl ?_
    refine g_istore_n (pc := 30) C dX12_laysQuiet_30 (Nat.le_of_ble_eq_true rfl) (lo' := [(1, .int 0), (0, .ref (adr x b9))]) rfl ?_
    obtain ⟨n33, h⟩ := h
    refine g_sub [1, 0] rfl ?_
    refine t_X12_laysQuiet_31 C hlk hr n33 _ _ _ h
end ME
