/-! methods: X12_readLine, X12_hills, X7_isWord, X7_expectWord, X7_nameHere, X7_readAtom, X7_readSum, X7_readTerm, X7_readBoth, X7_readTruth, X7_readUnit, X7_readChoice, X7_readHouse, X7_readWell -/
section ME
variable {x : xG} {p : Program} {l : Launch} {e : Env} {R : Room} {s : State} {m : MethodId} {args : Array Value} {below : List Frame} {meth : Method} {c : Code} {Q : State → Prop} {cc : ByteArray} {nL : Nat} {pc : Nat} {lo : List (Nat × Value)} {st : List Value} {w : Wd} {i j : Nat}
theorem miX12_150 (C : xC x p s m c cc nL args RX12) {a0 : Nat} {K : Wd → Prop} {D MC MS : Nat} (hq : isK w a0 12) (h : w_X12_readTruth a0 K w) (hD : 211 + 1 ≤ D) (hW : (st.map fun v => v.category).sum ≤ 8) (hij : i ≤ MC ∧ j ≤ MS) (hd : decode cc pc = .ok (.invokevirtual 150, 3)) (k : ∀ (u : Wd), K u → GW x p l e (rmd D MC MS) s m args below meth c nL Q (pc + 3) lo st u i j) : GW x p l e (rmd D MC MS) s m args below meth c nL Q pc lo (.ref (adr x a0) :: st) w i j := g_callVv0 C (As := []) (ci := 12) (c_X12_readTruth h) (x_cwV C 0 LMX12_150 ⟨rfl, by decide, by decide, rfl⟩ hD (by decide)) rfl hq (by decide) rfl rfl hW hd hij k
theorem miX12_212 (C : xC x p s m c cc nL args RX12) {a0 : Nat} {K : Wd → Prop} {D MC MS : Nat} (hq : isK w a0 12) (h : w_X12_readWell a0 K w) (hD : 10 + 1 ≤ D) (hW : (st.map fun v => v.category).sum ≤ 8) (hij : i ≤ MC ∧ j ≤ MS) (hd : decode cc pc = .ok (.invokevirtual 212, 3)) (k : ∀ (u : Wd), K u → GW x p l e (rmd D MC MS) s m args below meth c nL Q (pc + 3) lo st u i j) : GW x p l e (rmd D MC MS) s m args below meth c nL Q pc lo (.ref (adr x a0) :: st) w i j := g_callVv0 C (As := []) (ci := 12) (c_X12_readWell h) (x_cwV C 0 LMX12_212 ⟨rfl, by decide, by decide, rfl⟩ hD (by decide)) rfl hq (by decide) rfl rfl hW hd hij k
theorem miX12_217 (C : xC x p s m c cc nL args RX12) {a0 : Nat} {K : Wd → Prop} {D MC MS : Nat} (hq : isK w a0 12) (h : w_X12_readHouse a0 K w) (hD : 10 + 1 ≤ D) (hW : (st.map fun v => v.category).sum ≤ 8) (hij : i ≤ MC ∧ j ≤ MS) (hd : decode cc pc = .ok (.invokevirtual 217, 3)) (k : ∀ (u : Wd), K u → GW x p l e (rmd D MC MS) s m args below meth c nL Q (pc + 3) lo st u i j) : GW x p l e (rmd D MC MS) s m args below meth c nL Q pc lo (.ref (adr x a0) :: st) w i j := g_callVv0 C (As := []) (ci := 12) (c_X12_readHouse h) (x_cwV C 0 LMX12_217 ⟨rfl, by decide, by decide, rfl⟩ hD (by decide)) rfl hq (by decide) rfl rfl hW hd hij k
theorem miX12_222 (C : xC x p s m c cc nL args RX12) {a0 : Nat} {K : Wd → Prop} {D MC MS : Nat} (hq : isK w a0 12) (h : w_X12_readBeside a0 K w) (hD : 4 + 1 ≤ D) (hW : (st.map fun v => v.category).sum ≤ 8) (hij : i ≤ MC ∧ j ≤ MS) (hd : decode cc pc = .ok (.invokevirtual 222, 3)) (k : ∀ (u : Wd), K u → GW x p l e (rmd D MC MS) s m args below meth c nL Q (pc + 3) lo st u i j) : GW x p l e (rmd D MC MS) s m args below meth c nL Q pc lo (.ref (adr x a0) :: st) w i j := g_callVv0 C (As := []) (ci := 12) (c_X12_readBeside h) (x_cwV C 0 LMX12_222 ⟨rfl, by decide, by decide, rfl⟩ hD (by decide)) rfl hq (by decide) rfl rfl hW hd hij k
theorem miX12_227 (C : xC x p s m c cc nL args RX12) {a0 : Nat} {K : Wd → Prop} {D MC MS : Nat} (hq : isK w a0 12) (h : w_X12_readStop a0 K w) (hD : 3 + 1 ≤ D) (hW : (st.map fun v => v.category).sum ≤ 8) (hij : i ≤ MC ∧ j ≤ MS) (hd : decode cc pc = .ok (.invokevirtual 227, 3)) (k : ∀ (u : Wd), K u → GW x p l e (rmd D MC MS) s m args below meth c nL Q (pc + 3) lo st u i j) : GW x p l e (rmd D MC MS) s m args below meth c nL Q pc lo (.ref (adr x a0) :: st) w i j := g_callVv0 C (As := []) (ci := 12) (c_X12_readStop h) (x_cwV C 0 LMX12_227 ⟨rfl, by decide, by decide, rfl⟩ hD (by decide)) rfl hq (by decide) rfl rfl hW hd hij k
def w_X12_readLine (a0 : Nat) (K : Wd → Prop) (w : Wd) : Prop :=
  isK w a0 12 ∧ w_X12_isWord a0 3 (fun r2 w3 => ((r2 = 0 → isK w3 a0 12 ∧ w_X12_isWord a0 10 (fun r6 w7 => ((r6 = 0 → isK w7 a0 12 ∧ w_X12_took a0 9 (fun r10 w11 => ((r10 = 0 → isK w11 a0 12 ∧ w_X12_took a0 19 (fun r14 w15 => ((r14 = 0 → isK w15 a0 12 ∧ w_X12_took a0 12 (fun r18 w19 => ((r18 = 0 → isK w19 a0 12 ∧ w_X12_blames a0 2 (fun w22 => isK w22 a0 12 ∧ w_X12_readStop a0 (fun w24 => K w24) w22) w19) ∧ (¬ r18 = 0 → isK w19 a0 12 ∧ isK w19 (wR w19 a0 1) 20 ∧ vp_in 3 (wn w19 (wR w19 a0 1)) ∧ w_X12_readTruth a0 (fun w28 => isK w28 a0 12 ∧ w_X12_readStop a0 (fun w30 => K w30) w28) (uI w19 (wR w19 a0 1) (3 : Int32).toNatClampNeg 0)))) w15) ∧ (¬ r14 = 0 → isK w15 a0 12 ∧ isK w15 (wR w15 a0 1) 20 ∧ w_X12_number a0 0 999 (fun r33 w34 => isK w34 (wR w15 a0 1) 20 ∧ vp_in 26 (wn w34 (wR w15 a0 1)) ∧ isK w34 a0 12 ∧ w_X12_readStop a0 (fun w38 => K w38) (uI w34 (wR w15 a0 1) (26 : Int32).toNatClampNeg r33)) w15))) w11) ∧ (¬ r10 = 0 → isK w11 a0 12 ∧ w_X12_readBeside a0 (fun w40 => isK w40 a0 12 ∧ w_X12_readStop a0 (fun w42 => K w42) w40) w11))) w7) ∧ (¬ r6 = 0 → isK w7 a0 12 ∧ w_X12_readHouse a0 (fun w44 => isK w44 a0 12 ∧ w_X12_readStop a0 (fun w46 => K w46) w44) w7))) w3) ∧ (¬ r2 = 0 → isK w3 a0 12 ∧ w_X12_readWell a0 (fun w48 => isK w48 a0 12 ∧ w_X12_readStop a0 (fun w50 => K w50) w48) w3))) w
theorem c_X12_readLine {x : xG} {l : Launch} {a0 : Nat} {K : Wd → Prop} {w : Wd} (h : w_X12_readLine a0 K w) : Met l yX12_readLine (xws yX12_readLine cX12_readLine 1 none) (rmd 212 0 0) (xPc x [.ref (adr x a0)] w) (QcV x K) 0 0 (xA x) := by
  refine xMet (by decide) (Nat.le_of_ble_eq_true rfl) (fun p e s m below meth c C hlk hr _ => ?_)
  show GW x p l e (rmd 212 0 0) s m [.ref (adr x a0)].toArray below meth c 1 (QV x K below [.ref (adr x a0)].toArray s 0 0) 0 [(0, .ref (adr x a0))] [] w 0 0
  refine g_aload_n (pc := 0) C dX12_readLine_0 (q := 0) rfl ?_
  refine g_ldcS (pc := 1) C (q := 33) (k0 := 1) rfl (Nat.le_of_ble_eq_true rfl) dX12_readLine_1 ?_
  obtain ⟨k1, h⟩ := h
  refine miX12_108 (pc := 3) C k1 h (Nat.le_of_ble_eq_true rfl) (Nat.le_of_ble_eq_true rfl) ⟨Nat.le_refl _, Nat.le_refl _⟩ dX12_readLine_3 (fun r2 w3 h => ?_)
  refine g_if_eq (pc := 6) C dX12_readLine_6 (tgt := 16) rfl (fun z4 => ?_) (fun z4 => ?_)
  · replace h := h.1 z4
    refine g_aload_n (pc := 16) C dX12_readLine_16 (q := 0) rfl ?_
    refine g_ldcS (pc := 17) C (q := 39) (k0 := 8) rfl (Nat.le_of_ble_eq_true rfl) dX12_readLine_17 ?_
    obtain ⟨k5, h⟩ := h
    refine miX12_108 (pc := 19) C k5 h (Nat.le_of_ble_eq_true rfl) (Nat.le_of_ble_eq_true rfl) ⟨Nat.le_refl _, Nat.le_refl _⟩ dX12_readLine_19 (fun r6 w7 h => ?_)
    refine g_if_eq (pc := 22) C dX12_readLine_22 (tgt := 32) rfl (fun z8 => ?_) (fun z8 => ?_)
    · replace h := h.1 z8
      refine g_aload_n (pc := 32) C dX12_readLine_32 (q := 0) rfl ?_
      refine g_ldcS (pc := 33) C (q := 41) (k0 := 7) rfl (Nat.le_of_ble_eq_true rfl) dX12_readLine_33 ?_
      obtain ⟨k9, h⟩ := h
      refine miX12_123 (pc := 35) C k9 h (Nat.le_of_ble_eq_true rfl) (Nat.le_of_ble_eq_true rfl) ⟨Nat.le_refl _, Nat.le_refl _⟩ dX12_readLine_35 (fun r10 w11 h => ?_)
      refine g_if_eq (pc := 38) C dX12_readLine_38 (tgt := 48) rfl (fun z12 => ?_) (fun z12 => ?_)
      · replace h := h.1 z12
        refine g_aload_n (pc := 48) C dX12_readLine_48 (q := 0) rfl ?_
        refine g_ldcS (pc := 49) C (q := 42) (k0 := 17) rfl (Nat.le_of_ble_eq_true rfl) dX12_readLine_49 ?_
        obtain ⟨k13, h⟩ := h
        refine miX12_123 (pc := 51) C k13 h (Nat.le_of_ble_eq_true rfl) (Nat.le_of_ble_eq_true rfl) ⟨Nat.le_refl _, Nat.le_refl _⟩ dX12_readLine_51 (fun r14 w15 h => ?_)
        refine g_if_eq (pc := 54) C dX12_readLine_54 (tgt := 75) rfl (fun z16 => ?_) (fun z16 => ?_)
        · replace h := h.1 z16
          refine g_aload_n (pc := 75) C dX12_readLine_75 (q := 0) rfl ?_
          refine g_ldcS (pc := 76) C (q := 43) (k0 := 10) rfl (Nat.le_of_ble_eq_true rfl) dX12_readLine_76 ?_
          obtain ⟨k17, h⟩ := h
          refine miX12_123 (pc := 78) C k17 h (Nat.le_of_ble_eq_true rfl) (Nat.le_of_ble_eq_true rfl) ⟨Nat.le_refl _, Nat.le_refl _⟩ dX12_readLine_78 (fun r18 w19 h => ?_)
          refine g_if_eq (pc := 81) C dX12_readLine_81 (tgt := 98) rfl (fun z20 => ?_) (fun z20 => ?_)
          · replace h := h.1 z20
            refine g_aload_n (pc := 98) C dX12_readLine_98 (q := 0) rfl ?_
            refine g_iconst (pc := 99) C dX12_readLine_99 (v := 2) rfl ?_
            obtain ⟨k21, h⟩ := h
            refine miX12_115 (pc := 100) C k21 h (Nat.le_of_ble_eq_true rfl) (Nat.le_of_ble_eq_true rfl) ⟨Nat.le_refl _, Nat.le_refl _⟩ dX12_readLine_100 (fun w22 h => ?_)
            refine g_aload_n (pc := 103) C dX12_readLine_103 (q := 0) rfl ?_
            obtain ⟨k23, h⟩ := h
            refine miX12_227 (pc := 104) C k23 h (Nat.le_of_ble_eq_true rfl) (Nat.le_of_ble_eq_true rfl) ⟨Nat.le_refl _, Nat.le_refl _⟩ dX12_readLine_104 (fun w24 h => ?_)
            exact g_vret (pc := 107) C hlk hr (Nat.le_refl _) (Nat.le_refl _) dX12_readLine_107 h
          · replace h := h.2 z20
            refine g_aload_n (pc := 84) C dX12_readLine_84 (q := 0) rfl ?_
            obtain ⟨k25, h⟩ := h
            obtain ⟨k26, h⟩ := h
            refine gfX12_13 (pc := 85) C k25 (isK_ne k26) dX12_readLine_85 ?_
            refine g_iconst (pc := 88) C dX12_readLine_88 (v := 3) rfl ?_
            refine g_iconst (pc := 89) C dX12_readLine_89 (v := 0) rfl ?_
            obtain ⟨k27, h⟩ := h
            refine g_iast (pc := 90) C k26 k27 dX12_readLine_90 ?_
            refine g_aload_n (pc := 91) C dX12_readLine_91 (q := 0) rfl ?_
            refine miX12_150 (pc := 92) (w := uI w19 (wR w19 a0 1) (3 : Int32).toNatClampNeg 0) C k25 h (Nat.le_of_ble_eq_true rfl) (Nat.le_of_ble_eq_true rfl) ⟨Nat.le_refl _, Nat.le_refl _⟩ dX12_readLine_92 (fun w28 h => ?_)
            refine g_goto (pc := 95) C dX12_readLine_95 (tgt := 103) rfl ?_
            refine g_aload_n (pc := 103) C dX12_readLine_103 (q := 0) rfl ?_
            obtain ⟨k29, h⟩ := h
            refine miX12_227 (pc := 104) C k29 h (Nat.le_of_ble_eq_true rfl) (Nat.le_of_ble_eq_true rfl) ⟨Nat.le_refl _, Nat.le_refl _⟩ dX12_readLine_104 (fun w30 h => ?_)
            exact g_vret (pc := 107) C hlk hr (Nat.le_refl _) (Nat.le_refl _) dX12_readLine_107 h
        · replace h := h.2 z16
          refine g_aload_n (pc := 57) C dX12_readLine_57 (q := 0) rfl ?_
          obtain ⟨k31, h⟩ := h
          obtain ⟨k32, h⟩ := h
          refine gfX12_13 (pc := 58) C k31 (isK_ne k32) dX12_readLine_58 ?_
          refine g_bipush (pc := 61) C dX12_readLine_61 (v := 26) rfl ?_
          refine g_aload_n (pc := 63) C dX12_readLine_63 (q := 0) rfl ?_
          refine g_iconst (pc := 64) C dX12_readLine_64 (v := 0) rfl ?_
          refine g_sipush (pc := 65) C dX12_readLine_65 (v := 999) rfl ?_
          refine miX12_184 (pc := 68) C k31 h (Nat.le_of_ble_eq_true rfl) (Nat.le_of_ble_eq_true rfl) ⟨Nat.le_refl _, Nat.le_refl _⟩ dX12_readLine_68 (fun r33 w34 h => ?_)
          obtain ⟨k35, h⟩ := h
          obtain ⟨k36, h⟩ := h
          refine g_iast (pc := 71) C k35 k36 dX12_readLine_71 ?_
          refine g_goto (pc := 72) C dX12_readLine_72 (tgt := 103) rfl ?_
          refine g_aload_n (pc := 103) C dX12_readLine_103 (q := 0) rfl ?_
          obtain ⟨k37, h⟩ := h
          refine miX12_227 (pc := 104) (w := uI w34 (wR w15 a0 1) (26 : Int32).toNatClampNeg r33) C k37 h (Nat.le_of_ble_eq_true rfl) (Nat.le_of_ble_eq_true rfl) ⟨Nat.le_refl _, Nat.le_refl _⟩ dX12_readLine_104 (fun w38 h => ?_)
          exact g_vret (pc := 107) C hlk hr (Nat.le_refl _) (Nat.le_refl _) dX12_readLine_107 h
      · replace h := h.2 z12
        refine g_aload_n (pc := 41) C dX12_readLine_41 (q := 0) rfl ?_
        obtain ⟨k39, h⟩ := h
        refine miX12_222 (pc := 42) C k39 h (Nat.le_of_ble_eq_true rfl) (Nat.le_of_ble_eq_true rfl) ⟨Nat.le_refl _, Nat.le_refl _⟩ dX12_readLine_42 (fun w40 h => ?_)
        refine g_goto (pc := 45) C dX12_readLine_45 (tgt := 103) rfl ?_
        refine g_aload_n (pc := 103) C dX12_readLine_103 (q := 0) rfl ?_
        obtain ⟨k41, h⟩ := h
        refine miX12_227 (pc := 104) C k41 h (Nat.le_of_ble_eq_true rfl) (Nat.le_of_ble_eq_true rfl) ⟨Nat.le_refl _, Nat.le_refl _⟩ dX12_readLine_104 (fun w42 h => ?_)
        exact g_vret (pc := 107) C hlk hr (Nat.le_refl _) (Nat.le_refl _) dX12_readLine_107 h
    · replace h := h.2 z8
      refine g_aload_n (pc := 25) C dX12_readLine_25 (q := 0) rfl ?_
      obtain ⟨k43, h⟩ := h
      refine miX12_217 (pc := 26) C k43 h (Nat.le_of_ble_eq_true rfl) (Nat.le_of_ble_eq_true rfl) ⟨Nat.le_refl _, Nat.le_refl _⟩ dX12_readLine_26 (fun w44 h => ?_)
      refine g_goto (pc := 29) C dX12_readLine_29 (tgt := 103) rfl ?_
      refine g_aload_n (pc := 103) C dX12_readLine_103 (q := 0) rfl ?_
      obtain ⟨k45, h⟩ := h
      refine miX12_227 (pc := 104) C k45 h (Nat.le_of_ble_eq_true rfl) (Nat.le_of_ble_eq_true rfl) ⟨Nat.le_refl _, Nat.le_refl _⟩ dX12_readLine_104 (fun w46 h => ?_)
      exact g_vret (pc := 107) C hlk hr (Nat.le_refl _) (Nat.le_refl _) dX12_readLine_107 h
  · replace h := h.2 z4
    refine g_aload_n (pc := 9) C dX12_readLine_9 (q := 0) rfl ?_
    obtain ⟨k47, h⟩ := h
    refine miX12_212 (pc := 10) C k47 h (Nat.le_of_ble_eq_true rfl) (Nat.le_of_ble_eq_true rfl) ⟨Nat.le_refl _, Nat.le_refl _⟩ dX12_readLine_10 (fun w48 h => ?_)
    refine g_goto (pc := 13) C dX12_readLine_13 (tgt := 103) rfl ?_
    refine g_aload_n (pc := 103) C dX12_readLine_103 (q := 0) rfl ?_
    obtain ⟨k49, h⟩ := h
    refine miX12_227 (pc := 104) C k49 h (Nat.le_of_ble_eq_true rfl) (Nat.le_of_ble_eq_true rfl) ⟨Nat.le_refl _, Nat.le_refl _⟩ dX12_readLine_104 (fun w50 h => ?_)
    exact g_vret (pc := 107) C hlk hr (Nat.le_refl _) (Nat.le_refl _) dX12_readLine_107 h
theorem miX12_233 (C : xC x p s m c cc nL args RX12) {a0 : Nat} {K : Wd → Prop} {D MC MS : Nat} (hq : isK w a0 12) (h : w_X12_readLine a0 K w) (hD : 212 + 1 ≤ D) (hW : (st.map fun v => v.category).sum ≤ 8) (hij : i ≤ MC ∧ j ≤ MS) (hd : decode cc pc = .ok (.invokevirtual 233, 3)) (k : ∀ (u : Wd), K u → GW x p l e (rmd D MC MS) s m args below meth c nL Q (pc + 3) lo st u i j) : GW x p l e (rmd D MC MS) s m args below meth c nL Q pc lo (.ref (adr x a0) :: st) w i j := g_callVv0 C (As := []) (ci := 12) (c_X12_readLine h) (x_cwV C 0 LMX12_233 ⟨rfl, by decide, by decide, rfl⟩ hD (by decide)) rfl hq (by decide) rfl rfl hW hd hij k
def l_X12_hills_52 (E72 : Nat → Wd → Prop) (K : Int32 → Wd → Prop) : Nat → Nat → Int32 → Wd → Prop
  | 0, _, _, _ => False
  | n + 1, a0, a2, w => ((1215 ≤ a2 → E72 a0 w) ∧ (¬ 1215 ≤ a2 → isK w a0 12 ∧ isK w (wR w a0 1) 20 ∧ vp_in a2 (wn w (wR w a0 1)) ∧ l_X12_hills_52 E72 K n a0 (a2 + 1) (uI w (wR w a0 1) a2.toNatClampNeg 0)))
def l_X12_hills_76 (E97 : Nat → Wd → Prop) (K : Int32 → Wd → Prop) : Nat → Nat → Wd → Prop
  | 0, _, _ => False
  | n + 1, a0, w => isK w a0 12 ∧ (((wI w a0 12) = 0 → (((wI w a0 10) = 0 → E97 a0 w) ∧ (¬ (wI w a0 10) = 0 → w_X12_readLine a0 (fun w17 => l_X12_hills_76 E97 K n a0 w17) w))) ∧ (¬ (wI w a0 12) = 0 → E97 a0 w))
def l_X12_hills_141  (K : Int32 → Wd → Prop) : Nat → Nat → Int32 → Wd → Prop
  | 0, _, _, _ => False
  | n + 1, a0, a2, w => ((1215 ≤ a2 → isK w a0 12 ∧ isK w (wR w a0 0) 20 ∧ vp_in 0 (wn w (wR w a0 0)) ∧ K (wI w (wR w a0 0) (0 : Int32).toNatClampNeg) w) ∧ (¬ 1215 ≤ a2 → isK w a0 12 ∧ isK w (wR w a0 0) 20 ∧ isK w (wR w a0 1) 20 ∧ vp_in a2 (wn w (wR w a0 1)) ∧ vp_in a2 (wn w (wR w a0 0)) ∧ l_X12_hills_141 K n a0 (a2 + 1) (uI w (wR w a0 0) a2.toNatClampNeg (wI w (wR w a0 1) a2.toNatClampNeg))))
def j_X12_hills_97  (K : Int32 → Wd → Prop) (a0 : Nat) (w : Wd) : Prop :=
  isK w a0 12 ∧ (((wI (uI w a0 14 (wI w a0 12)) a0 12) = 0 → (((wI (uI (uI w a0 14 (wI w a0 12)) a0 15 (-1)) a0 12) = 0 → ∃ n34, l_X12_hills_141  K n34 a0 0 (uI (uI w a0 14 (wI w a0 12)) a0 15 (-1))) ∧ (¬ (wI (uI (uI w a0 14 (wI w a0 12)) a0 15 (-1)) a0 12) = 0 → K ((-10) - (wI (uI (uI w a0 14 (wI w a0 12)) a0 15 (-1)) a0 12)) (uI (uI w a0 14 (wI w a0 12)) a0 15 (-1))))) ∧ (¬ (wI (uI w a0 14 (wI w a0 12)) a0 12) = 0 → (((wI (uI (uI w a0 14 (wI w a0 12)) a0 15 (wI (uI w a0 14 (wI w a0 12)) a0 13)) a0 12) = 0 → ∃ n32, l_X12_hills_141  K n32 a0 0 (uI (uI w a0 14 (wI w a0 12)) a0 15 (wI (uI w a0 14 (wI w a0 12)) a0 13))) ∧ (¬ (wI (uI (uI w a0 14 (wI w a0 12)) a0 15 (wI (uI w a0 14 (wI w a0 12)) a0 13)) a0 12) = 0 → K ((-10) - (wI (uI (uI w a0 14 (wI w a0 12)) a0 15 (wI (uI w a0 14 (wI w a0 12)) a0 13)) a0 12)) (uI (uI w a0 14 (wI w a0 12)) a0 15 (wI (uI w a0 14 (wI w a0 12)) a0 13))))))
def w_X12_hills (a0 : Nat) (a1 : Int32) (K : Int32 → Wd → Prop) (w : Wd) : Prop :=
  isK w a0 12 ∧ w_X12_within a1.toInt64 0 ((wI (uI w a0 4 0) a0 6).toInt64) (fun r2 w3 => ((r2 = 0 → isK w3 a0 12 ∧ w_X12_fails a0 1 (fun r38 w39 => K r38 w39) w3) ∧ (¬ r2 = 0 → isK w3 a0 12 ∧ ∃ n36, l_X12_hills_52 (fun b10 w11 => isK w11 b10 12 ∧ w_X12_readsOn b10 (fun w13 => ∃ n35, l_X12_hills_76 (fun b18 w19 => j_X12_hills_97 K b18 w19) K n35 b10 w13) w11) K n36 a0 0 (uI (uI (uI (uI (uI w3 a0 7 a1) a0 6 0) a0 8 0) a0 12 0) a0 16 0)))) (uI w a0 4 0)
theorem t_X12_hills_52 (C : xC x p s m c cX12_hills 3 args RX12) (hlk : meth.locks = false) (hr : meth.sig.returnType = some .int) {K : Int32 → Wd → Prop} {E72 : Nat → Wd → Prop} (hE72 : ∀ (b0 : Nat) (w : Wd), E72 b0 w → GW x p l e (rmd 213 0 0) s m args below meth c 3 (QI x K below args s 0 0) 72 [(0, .ref (adr x b0))] [] w 0 0) : ∀ (n : Nat) (a0 : Nat) (a2 : Int32) (w : Wd), l_X12_hills_52 E72 K n a0 a2 w → GW x p l e (rmd 213 0 0) s m args below meth c 3 (QI x K below args s 0 0) 52 [(0, .ref (adr x a0)), (2, .int a2)] [] w 0 0 := by
  intro n
  induction n with
  | zero => intro _ _ _ h; exact False.elim h
  | succ n ih =>
    intro a0 a2 w h
    refine g_iload_n (pc := 52) C dX12_hills_52 (q := 1) rfl ?_
    refine g_sipush (pc := 53) C dX12_hills_53 (v := 1215) rfl ?_
    refine g_icmp_ge (pc := 56) C dX12_hills_56 (tgt := 72) rfl (fun z6 => ?_) (fun z6 => ?_)
    · replace h := h.1 z6
      refine g_sub [0] rfl ?_
      exact hE72 _ _ h
    · replace h := h.2 z6
      refine g_aload_n (pc := 59) C dX12_hills_59 (q := 0) rfl ?_
      obtain ⟨k7, h⟩ := h
      obtain ⟨k8, h⟩ := h
      refine gfX12_13 (pc := 60) C k7 (isK_ne k8) dX12_hills_60 ?_
      refine g_iload_n (pc := 63) C dX12_hills_63 (q := 1) rfl ?_
      refine g_iconst (pc := 64) C dX12_hills_64 (v := 0) rfl ?_
      obtain ⟨k9, h⟩ := h
      refine g_iast (pc := 65) C k8 k9 dX12_hills_65 ?_
      refine g_iinc (pc := 66) C dX12_hills_66 (q := 1) rfl (v2 := a2 + 1) rfl (Nat.le_of_ble_eq_true rfl) (lo' := [(2, .int (a2 + 1)), (0, .ref (adr x a0))]) rfl ?_
      refine g_goto (pc := 69) C dX12_hills_69 (tgt := 52) rfl ?_
      refine g_sub [1, 0] rfl ?_
      exact ih _ _ _ h
theorem t_X12_hills_76 (C : xC x p s m c cX12_hills 3 args RX12) (hlk : meth.locks = false) (hr : meth.sig.returnType = some .int) {K : Int32 → Wd → Prop} {E97 : Nat → Wd → Prop} (hE97 : ∀ (b0 : Nat) (w : Wd), E97 b0 w → GW x p l e (rmd 213 0 0) s m args below meth c 3 (QI x K below args s 0 0) 97 [(0, .ref (adr x b0))] [] w 0 0) : ∀ (n : Nat) (a0 : Nat) (w : Wd), l_X12_hills_76 E97 K n a0 w → GW x p l e (rmd 213 0 0) s m args below meth c 3 (QI x K below args s 0 0) 76 [(0, .ref (adr x a0))] [] w 0 0 := by
  intro n
  induction n with
  | zero => intro _ _ h; exact False.elim h
  | succ n ih =>
    intro a0 w h
    refine g_aload_n (pc := 76) C dX12_hills_76 (q := 0) rfl ?_
    obtain ⟨k14, h⟩ := h
    refine gfX12_93 (pc := 77) C k14 dX12_hills_77 ?_
    refine g_if_ne (pc := 80) C dX12_hills_80 (tgt := 97) rfl (fun z15 => ?_) (fun z15 => ?_)
    · replace h := h.2 z15
      exact hE97 _ _ h
    · replace h := h.1 z15
      refine g_aload_n (pc := 83) C dX12_hills_83 (q := 0) rfl ?_
      refine gfX12_73 (pc := 84) C k14 dX12_hills_84 ?_
      refine g_if_eq (pc := 87) C dX12_hills_87 (tgt := 97) rfl (fun z16 => ?_) (fun z16 => ?_)
      · replace h := h.1 z16
        exact hE97 _ _ h
      · replace h := h.2 z16
        refine g_aload_n (pc := 90) C dX12_hills_90 (q := 0) rfl ?_
        refine miX12_233 (pc := 91) C k14 h (Nat.le_of_ble_eq_true rfl) (Nat.le_of_ble_eq_true rfl) ⟨Nat.le_refl _, Nat.le_refl _⟩ dX12_hills_91 (fun w17 h => ?_)
        refine g_goto (pc := 94) C dX12_hills_94 (tgt := 76) rfl ?_
        exact ih _ _ h
theorem t_X12_hills_141 (C : xC x p s m c cX12_hills 3 args RX12) (hlk : meth.locks = false) (hr : meth.sig.returnType = some .int) {K : Int32 → Wd → Prop}   : ∀ (n : Nat) (a0 : Nat) (a2 : Int32) (w : Wd), l_X12_hills_141 K n a0 a2 w → GW x p l e (rmd 213 0 0) s m args below meth c 3 (QI x K below args s 0 0) 141 [(0, .ref (adr x a0)), (2, .int a2)] [] w 0 0 := by
  intro n
  induction n with
  | zero => intro _ _ _ h; exact False.elim h
  | succ n ih =>
    intro a0 a2 w h
    refine g_iload_n (pc := 141) C dX12_hills_141 (q := 1) rfl ?_
    refine g_sipush (pc := 142) C dX12_hills_142 (v := 1215) rfl ?_
    refine g_icmp_ge (pc := 145) C dX12_hills_145 (tgt := 166) rfl (fun z23 => ?_) (fun z23 => ?_)
    · replace h := h.1 z23
      refine g_aload_n (pc := 166) C dX12_hills_166 (q := 0) rfl ?_
      obtain ⟨k24, h⟩ := h
      obtain ⟨k25, h⟩ := h
      refine gfX12_9 (pc := 167) C k24 (isK_ne k25) dX12_hills_167 ?_
      refine g_iconst (pc := 170) C dX12_hills_170 (v := 0) rfl ?_
      obtain ⟨k26, h⟩ := h
      refine g_iald (pc := 171) C k25 k26 dX12_hills_171 ?_
      exact g_iret (pc := 172) C hlk hr (Nat.le_refl _) (Nat.le_refl _) dX12_hills_172 h
    · replace h := h.2 z23
      refine g_aload_n (pc := 148) C dX12_hills_148 (q := 0) rfl ?_
      obtain ⟨k27, h⟩ := h
      obtain ⟨k28, h⟩ := h
      refine gfX12_9 (pc := 149) C k27 (isK_ne k28) dX12_hills_149 ?_
      refine g_iload_n (pc := 152) C dX12_hills_152 (q := 1) rfl ?_
      refine g_aload_n (pc := 153) C dX12_hills_153 (q := 0) rfl ?_
      obtain ⟨k29, h⟩ := h
      refine gfX12_13 (pc := 154) C k27 (isK_ne k29) dX12_hills_154 ?_
      refine g_iload_n (pc := 157) C dX12_hills_157 (q := 1) rfl ?_
      obtain ⟨k30, h⟩ := h
      refine g_iald (pc := 158) C k29 k30 dX12_hills_158 ?_
      obtain ⟨k31, h⟩ := h
      refine g_iast (pc := 159) C k28 k31 dX12_hills_159 ?_
      refine g_iinc (pc := 160) C dX12_hills_160 (q := 1) rfl (v2 := a2 + 1) rfl (Nat.le_of_ble_eq_true rfl) (lo' := [(2, .int (a2 + 1)), (0, .ref (adr x a0))]) rfl ?_
      refine g_goto (pc := 163) C dX12_hills_163 (tgt := 141) rfl ?_
      refine g_sub [1, 0] rfl ?_
      exact ih _ _ _ h
theorem t_X12_hills_97 (C : xC x p s m c cX12_hills 3 args RX12) (hlk : meth.locks = false) (hr : meth.sig.returnType = some .int) {K : Int32 → Wd → Prop}   (a0 : Nat) (w : Wd) (h : j_X12_hills_97 K a0 w) : GW x p l e (rmd 213 0 0) s m args below meth c 3 (QI x K below args s 0 0) 97 [(0, .ref (adr x a0))] [] w 0 0 := by
  refine g_aload_n (pc := 97) C dX12_hills_97 (q := 0) rfl ?_
  refine g_aload_n (pc := 98) C dX12_hills_98 (q := 0) rfl ?_
  obtain ⟨k20, h⟩ := h
  refine gfX12_93 (pc := 99) C k20 dX12_hills_99 ?_
  refine pfX12_236 (pc := 102) C k20 dX12_hills_102 ?_
  refine g_aload_n (pc := 105) C dX12_hills_105 (q := 0) rfl ?_
  refine g_aload_n (pc := 106) C dX12_hills_106 (q := 0) rfl ?_
  refine gfX12_93 (pc := 107) (w := uI w a0 14 (wI w a0 12)) C k20 dX12_hills_107 ?_
  refine g_if_ne (pc := 110) C dX12_hills_110 (tgt := 117) rfl (fun z21 => ?_) (fun z21 => ?_)
  · replace h := h.2 z21
    refine g_aload_n (pc := 117) C dX12_hills_117 (q := 0) rfl ?_
    refine gfX12_96 (pc := 118) (w := uI w a0 14 (wI w a0 12)) C k20 dX12_hills_118 ?_
    refine pfX12_26 (pc := 121) (w := uI w a0 14 (wI w a0 12)) C k20 dX12_hills_121 ?_
    refine g_aload_n (pc := 124) C dX12_hills_124 (q := 0) rfl ?_
    refine gfX12_93 (pc := 125) (w := uI (uI w a0 14 (wI w a0 12)) a0 15 (wI (uI w a0 14 (wI w a0 12)) a0 13)) C k20 dX12_hills_125 ?_
    refine g_if_eq (pc := 128) C dX12_hills_128 (tgt := 139) rfl (fun z22 => ?_) (fun z22 => ?_)
    · replace h := h.1 z22
      refine g_iconst (pc := 139) C dX12_hills_139 (v := 0) rfl ?_
      refine g_istore_n (pc := 140) C dX12_hills_140 (Nat.le_of_ble_eq_true rfl) (lo' := [(2, .int 0), (0, .ref (adr x a0))]) rfl ?_
      obtain ⟨n32, h⟩ := h
      refine g_sub [1, 0] rfl ?_
      refine t_X12_hills_141 C hlk hr n32 _ _ _ h
    · replace h := h.2 z22
      refine g_bipush (pc := 131) C dX12_hills_131 (v := (-10)) rfl ?_
      refine g_aload_n (pc := 133) C dX12_hills_133 (q := 0) rfl ?_
      refine gfX12_93 (pc := 134) (w := uI (uI w a0 14 (wI w a0 12)) a0 15 (wI (uI w a0 14 (wI w a0 12)) a0 13)) C k20 dX12_hills_134 ?_
      refine g_isub (pc := 137) C dX12_hills_137 ?_
      exact g_iret (pc := 138) C hlk hr (Nat.le_refl _) (Nat.le_refl _) dX12_hills_138 h
  · replace h := h.1 z21
    refine g_iconst (pc := 113) C dX12_hills_113 (v := (-1)) rfl ?_
    refine g_goto (pc := 114) C dX12_hills_114 (tgt := 121) rfl ?_
    refine pfX12_26 (pc := 121) (w := uI w a0 14 (wI w a0 12)) C k20 dX12_hills_121 ?_
    refine g_aload_n (pc := 124) C dX12_hills_124 (q := 0) rfl ?_
    refine gfX12_93 (pc := 125) (w := uI (uI w a0 14 (wI w a0 12)) a0 15 (-1)) C k20 dX12_hills_125 ?_
    refine g_if_eq (pc := 128) C dX12_hills_128 (tgt := 139) rfl (fun z33 => ?_) (fun z33 => ?_)
    · replace h := h.1 z33
      refine g_iconst (pc := 139) C dX12_hills_139 (v := 0) rfl ?_
      refine g_istore_n (pc := 140) C dX12_hills_140 (Nat.le_of_ble_eq_true rfl) (lo' := [(2, .int 0), (0, .ref (adr x a0))]) rfl ?_
      obtain ⟨n34, h⟩ := h
      refine g_sub [1, 0] rfl ?_
      refine t_X12_hills_141 C hlk hr n34 _ _ _ h
    · replace h := h.2 z33
      refine g_bipush (pc := 131) C dX12_hills_131 (v := (-10)) rfl ?_
      refine g_aload_n (pc := 133) C dX12_hills_133 (q := 0) rfl ?_
      refine gfX12_93 (pc := 134) (w := uI (uI w a0 14 (wI w a0 12)) a0 15 (-1)) C k20 dX12_hills_134 ?_
      refine g_isub (pc := 137) C dX12_hills_137 ?_
      exact g_iret (pc := 138) C hlk hr (Nat.le_refl _) (Nat.le_refl _) dX12_hills_138 h
theorem c_X12_hills {x : xG} {l : Launch} {a0 : Nat} {a1 : Int32} {K : Int32 → Wd → Prop} {w : Wd} (h : w_X12_hills a0 a1 K w) : Met l yX12_hills (xws yX12_hills cX12_hills 3 (some .int)) (rmd 213 0 0) (xPc x [.ref (adr x a0), .int a1] w) (QcI x K) 0 0 (xA x) := by
  refine xMet (by decide) (Nat.le_of_ble_eq_true rfl) (fun p e s m below meth c C hlk hr _ => ?_)
  show GW x p l e (rmd 213 0 0) s m [.ref (adr x a0), .int a1].toArray below meth c 3 (QI x K below [.ref (adr x a0), .int a1].toArray s 0 0) 0 [(0, .ref (adr x a0)), (1, .int a1)] [] w 0 0
  refine g_aload_n (pc := 0) C dX12_hills_0 (q := 0) rfl ?_
  refine g_iconst (pc := 1) C dX12_hills_1 (v := 0) rfl ?_
  obtain ⟨k1, h⟩ := h
  refine pfX12_58 (pc := 2) C k1 dX12_hills_2 ?_
  refine g_iload_n (pc := 5) C dX12_hills_5 (q := 1) rfl ?_
  refine g_i2l (pc := 6) C dX12_hills_6 ?_
  refine g_lconst (pc := 7) C dX12_hills_7 (v := 0) rfl ?_
  refine g_aload_n (pc := 8) C dX12_hills_8 (q := 0) rfl ?_
  refine gfX12_61 (pc := 9) (w := uI w a0 4 0) C k1 dX12_hills_9 ?_
  refine g_i2l (pc := 12) C dX12_hills_12 ?_
  refine miX12_119 (pc := 13) (w := uI w a0 4 0) C h (Nat.le_of_ble_eq_true rfl) (Nat.le_of_ble_eq_true rfl) ⟨Nat.le_refl _, Nat.le_refl _⟩ dX12_hills_13 (fun r2 w3 h => ?_)
  refine g_if_ne (pc := 16) C dX12_hills_16 (tgt := 25) rfl (fun z4 => ?_) (fun z4 => ?_)
  · replace h := h.2 z4
    refine g_aload_n (pc := 25) C dX12_hills_25 (q := 0) rfl ?_
    refine g_iload_n (pc := 26) C dX12_hills_26 (q := 1) rfl ?_
    obtain ⟨k5, h⟩ := h
    refine pfX12_64 (pc := 27) C k5 dX12_hills_27 ?_
    refine g_aload_n (pc := 30) C dX12_hills_30 (q := 0) rfl ?_
    refine g_iconst (pc := 31) C dX12_hills_31 (v := 0) rfl ?_
    refine pfX12_61 (pc := 32) (w := uI w3 a0 7 a1) C k5 dX12_hills_32 ?_
    refine g_aload_n (pc := 35) C dX12_hills_35 (q := 0) rfl ?_
    refine g_iconst (pc := 36) C dX12_hills_36 (v := 0) rfl ?_
    refine pfX12_67 (pc := 37) (w := uI (uI w3 a0 7 a1) a0 6 0) C k5 dX12_hills_37 ?_
    refine g_aload_n (pc := 40) C dX12_hills_40 (q := 0) rfl ?_
    refine g_iconst (pc := 41) C dX12_hills_41 (v := 0) rfl ?_
    refine pfX12_93 (pc := 42) (w := uI (uI (uI w3 a0 7 a1) a0 6 0) a0 8 0) C k5 dX12_hills_42 ?_
    refine g_aload_n (pc := 45) C dX12_hills_45 (q := 0) rfl ?_
    refine g_iconst (pc := 46) C dX12_hills_46 (v := 0) rfl ?_
    refine pfX12_126 (pc := 47) (w := uI (uI (uI (uI w3 a0 7 a1) a0 6 0) a0 8 0) a0 12 0) C k5 dX12_hills_47 ?_
    refine g_iconst (pc := 50) C dX12_hills_50 (v := 0) rfl ?_
    refine g_istore_n (pc := 51) C dX12_hills_51 (Nat.le_of_ble_eq_true rfl) (lo' := [(2, .int 0), (0, .ref (adr x a0)), (1, .int a1)]) rfl ?_
    obtain ⟨n36, h⟩ := h
    refine g_sub [1, 0] rfl ?_
    refine t_X12_hills_52 C hlk hr ?_ n36 _ _ _ h
    · intro b10 w11 h
      refine g_aload_n (pc := 72) C dX12_hills_72 (q := 0) rfl ?_
      obtain ⟨k12, h⟩ := h
      refine miX12_112 (pc := 73) C k12 h (Nat.le_of_ble_eq_true rfl) (Nat.le_of_ble_eq_true rfl) ⟨Nat.le_refl _, Nat.le_refl _⟩ dX12_hills_73 (fun w13 h => ?_)
      obtain ⟨n35, h⟩ := h
      refine t_X12_hills_76 C hlk hr ?_ n35 _ _ h
      · intro b18 w19 h
        exact t_X12_hills_97 C hlk hr  _ _ h
  · replace h := h.1 z4
    refine g_aload_n (pc := 19) C dX12_hills_19 (q := 0) rfl ?_
    refine g_iconst (pc := 20) C dX12_hills_20 (v := 1) rfl ?_
    obtain ⟨k37, h⟩ := h
    refine miX12_230 (pc := 21) C k37 h (Nat.le_of_ble_eq_true rfl) (Nat.le_of_ble_eq_true rfl) ⟨Nat.le_refl _, Nat.le_refl _⟩ dX12_hills_21 (fun r38 w39 h => ?_)
    exact g_iret (pc := 24) C hlk hr (Nat.le_refl _) (Nat.le_refl _) dX12_hills_24 h
theorem miX7_217 (C : xC x p s m c cc nL args RX7) {a0 : Nat} {K : Int32 → Wd → Prop} {D MC MS : Nat} (h : w_J0_length_8abf5 a0 K w) (hD : 6 + 1 ≤ D) (hW : (st.map fun v => v.category).sum ≤ 8) (hij : i ≤ MC ∧ j ≤ MS) (hd : decode cc pc = .ok (.invokevirtual 217, 3)) (k : ∀ (r : Int32) (u : Wd), K r u → GW x p l e (rmd D MC MS) s m args below meth c nL Q (pc + 3) lo (.int r :: st) u i j) : GW x p l e (rmd D MC MS) s m args below meth c nL Q pc lo (.ref (adr x a0) :: st) w i j := g_callT0 C (As := []) h.1 (c_J0_length_8abf5 h) (x_cwV C 0 LMX7_217 ⟨rfl, by decide, by decide, rfl⟩ hD (by decide)) rfl rfl hW hd hij k
theorem miX7_225 (C : xC x p s m c cc nL args RX7) {a0 : Nat} {a1 : Int32} {K : Int32 → Wd → Prop} {D MC MS : Nat} (h : w_J0_charAt_5068e a0 a1 K w) (hD : 6 + 1 ≤ D) (hW : (st.map fun v => v.category).sum ≤ 8) (hij : i ≤ MC ∧ j ≤ MS) (hd : decode cc pc = .ok (.invokevirtual 225, 3)) (k : ∀ (r : Int32) (u : Wd), K r u → GW x p l e (rmd D MC MS) s m args below meth c nL Q (pc + 3) lo (.int r :: st) u i j) : GW x p l e (rmd D MC MS) s m args below meth c nL Q pc lo (.int a1 :: .ref (adr x a0) :: st) w i j := g_callT0 C (As := [.int a1]) h.1 (c_J0_charAt_5068e h) (x_cwV C 1 LMX7_225 ⟨rfl, by decide, by decide, rfl⟩ hD (by decide)) rfl rfl hW hd hij k
def l_X7_isWord_28  (K : Int32 → Wd → Prop) : Nat → Nat → Nat → Int32 → Wd → Prop
  | 0, _, _, _, _ => False
  | n + 1, a0, a1, a2, w => w_J0_length_8abf5 a1 (fun r6 w7 => ((r6 ≤ a2 → K 1 w7) ∧ (¬ r6 ≤ a2 → isK w7 a0 7 ∧ w_X7_byteAt a0 ((wI w7 a0 6) + a2) (fun r10 w11 => w_J0_charAt_5068e a1 a2 (fun r12 w13 => ((r10 = r12 → l_X7_isWord_28 K n a0 a1 (a2 + 1) w13) ∧ (¬ r10 = r12 → K 0 w13))) w11) w7))) w
def w_X7_isWord (a0 : Nat) (a1 : Nat) (K : Int32 → Wd → Prop) (w : Wd) : Prop :=
  isK w a0 7 ∧ (((wI w a0 8) = 2 → w_J0_length_8abf5 a1 (fun r3 w4 => ((((wI w a0 7) - (wI w a0 6)) = r3 → ∃ n15, l_X7_isWord_28  K n15 a0 a1 0 w4) ∧ (¬ ((wI w a0 7) - (wI w a0 6)) = r3 → K 0 w4))) w) ∧ (¬ (wI w a0 8) = 2 → K 0 w))
theorem t_X7_isWord_28 (C : xC x p s m c cX7_isWord 3 args RX7) (hlk : meth.locks = false) (hr : meth.sig.returnType = some .boolean) {K : Int32 → Wd → Prop}   : ∀ (n : Nat) (a0 : Nat) (a1 : Nat) (a2 : Int32) (w : Wd), l_X7_isWord_28 K n a0 a1 a2 w → GW x p l e (rmd 7 0 0) s m args below meth c 3 (QI x K below args s 0 0) 28 [(0, .ref (adr x a0)), (1, .ref (adr x a1)), (2, .int a2)] [] w 0 0 := by
  intro n
  induction n with
  | zero => intro _ _ _ _ h; exact False.elim h
  | succ n ih =>
    intro a0 a1 a2 w h
    refine g_iload_n (pc := 28) C dX7_isWord_28 (q := 2) rfl ?_
    refine g_aload_n (pc := 29) C dX7_isWord_29 (q := 1) rfl ?_
    refine miX7_217 (pc := 30) C h (Nat.le_of_ble_eq_true rfl) (Nat.le_of_ble_eq_true rfl) ⟨Nat.le_refl _, Nat.le_refl _⟩ dX7_isWord_30 (fun r6 w7 h => ?_)
    refine g_icmp_ge (pc := 33) C dX7_isWord_33 (tgt := 62) rfl (fun z8 => ?_) (fun z8 => ?_)
    · replace h := h.1 z8
      refine g_iconst (pc := 62) C dX7_isWord_62 (v := 1) rfl ?_
      exact g_zret (pc := 63) C hlk hr (Nat.le_refl _) (Nat.le_refl _) dX7_isWord_63 (Or.inr rfl) h
    · replace h := h.2 z8
      refine g_aload_n (pc := 36) C dX7_isWord_36 (q := 0) rfl ?_
      refine g_aload_n (pc := 37) C dX7_isWord_37 (q := 0) rfl ?_
      obtain ⟨k9, h⟩ := h
      refine gfX7_28 (pc := 38) C k9 dX7_isWord_38 ?_
      refine g_iload_n (pc := 41) C dX7_isWord_41 (q := 2) rfl ?_
      refine g_iadd (pc := 42) C dX7_isWord_42 ?_
      refine miX7_221 (pc := 43) C k9 h (Nat.le_of_ble_eq_true rfl) (Nat.le_of_ble_eq_true rfl) ⟨Nat.le_refl _, Nat.le_refl _⟩ dX7_isWord_43 (fun r10 w11 h => ?_)
      refine g_aload_n (pc := 46) C dX7_isWord_46 (q := 1) rfl ?_
      refine g_iload_n (pc := 47) C dX7_isWord_47 (q := 2) rfl ?_
      refine miX7_225 (pc := 48) C h (Nat.le_of_ble_eq_true rfl) (Nat.le_of_ble_eq_true rfl) ⟨Nat.le_refl _, Nat.le_refl _⟩ dX7_isWord_48 (fun r12 w13 h => ?_)
      refine g_icmp_eq (pc := 51) C dX7_isWord_51 (tgt := 56) rfl (fun z14 => ?_) (fun z14 => ?_)
      · replace h := h.1 z14
        refine g_iinc (pc := 56) C dX7_isWord_56 (q := 2) rfl (v2 := a2 + 1) rfl (Nat.le_of_ble_eq_true rfl) (lo' := [(2, .int (a2 + 1)), (0, .ref (adr x a0)), (1, .ref (adr x a1))]) rfl ?_
        refine g_goto (pc := 59) C dX7_isWord_59 (tgt := 28) rfl ?_
        refine g_sub [1, 2, 0] rfl ?_
        exact ih _ _ _ _ h
      · replace h := h.2 z14
        refine g_iconst (pc := 54) C dX7_isWord_54 (v := 0) rfl ?_
        exact g_zret (pc := 55) C hlk hr (Nat.le_refl _) (Nat.le_refl _) dX7_isWord_55 (Or.inl rfl) h
theorem c_X7_isWord {x : xG} {l : Launch} {a0 : Nat} {a1 : Nat} {K : Int32 → Wd → Prop} {w : Wd} (h : w_X7_isWord a0 a1 K w) : Met l yX7_isWord (xws yX7_isWord cX7_isWord 3 (some .boolean)) (rmd 7 0 0) (xPc x [.ref (adr x a0), .ref (adr x a1)] w) (QcI x K) 0 0 (xA x) := by
  refine xMet (by decide) (Nat.le_of_ble_eq_true rfl) (fun p e s m below meth c C hlk hr _ => ?_)
  show GW x p l e (rmd 7 0 0) s m [.ref (adr x a0), .ref (adr x a1)].toArray below meth c 3 (QI x K below [.ref (adr x a0), .ref (adr x a1)].toArray s 0 0) 0 [(0, .ref (adr x a0)), (1, .ref (adr x a1))] [] w 0 0
  refine g_aload_n (pc := 0) C dX7_isWord_0 (q := 0) rfl ?_
  obtain ⟨k1, h⟩ := h
  refine gfX7_34 (pc := 1) C k1 dX7_isWord_1 ?_
  refine g_iconst (pc := 4) C dX7_isWord_4 (v := 2) rfl ?_
  refine g_icmp_ne (pc := 5) C dX7_isWord_5 (tgt := 24) rfl (fun z2 => ?_) (fun z2 => ?_)
  · replace h := h.2 z2
    refine g_iconst (pc := 24) C dX7_isWord_24 (v := 0) rfl ?_
    exact g_zret (pc := 25) C hlk hr (Nat.le_refl _) (Nat.le_refl _) dX7_isWord_25 (Or.inl rfl) h
  · replace h := h.1 z2
    refine g_aload_n (pc := 8) C dX7_isWord_8 (q := 0) rfl ?_
    refine gfX7_31 (pc := 9) C k1 dX7_isWord_9 ?_
    refine g_aload_n (pc := 12) C dX7_isWord_12 (q := 0) rfl ?_
    refine gfX7_28 (pc := 13) C k1 dX7_isWord_13 ?_
    refine g_isub (pc := 16) C dX7_isWord_16 ?_
    refine g_aload_n (pc := 17) C dX7_isWord_17 (q := 1) rfl ?_
    refine miX7_217 (pc := 18) C h (Nat.le_of_ble_eq_true rfl) (Nat.le_of_ble_eq_true rfl) ⟨Nat.le_refl _, Nat.le_refl _⟩ dX7_isWord_18 (fun r3 w4 h => ?_)
    refine g_icmp_eq (pc := 21) C dX7_isWord_21 (tgt := 26) rfl (fun z5 => ?_) (fun z5 => ?_)
    · replace h := h.1 z5
      refine g_iconst (pc := 26) C dX7_isWord_26 (v := 0) rfl ?_
      refine g_istore_n (pc := 27) C dX7_isWord_27 (Nat.le_of_ble_eq_true rfl) (lo' := [(2, .int 0), (0, .ref (adr x a0)), (1, .ref (adr x a1))]) rfl ?_
      obtain ⟨n15, h⟩ := h
      refine g_sub [1, 2, 0] rfl ?_
      refine t_X7_isWord_28 C hlk hr n15 _ _ _ _ h
    · replace h := h.2 z5
      refine g_iconst (pc := 24) C dX7_isWord_24 (v := 0) rfl ?_
      exact g_zret (pc := 25) C hlk hr (Nat.le_refl _) (Nat.le_refl _) dX7_isWord_25 (Or.inl rfl) h
theorem miX7_73 (C : xC x p s m c cc nL args RX7) {a0 : Nat} {a1 : Nat} {K : Int32 → Wd → Prop} {D MC MS : Nat} (hq : isK w a0 7) (h : w_X7_isWord a0 a1 K w) (hD : 7 + 1 ≤ D) (hW : (st.map fun v => v.category).sum ≤ 8) (hij : i ≤ MC ∧ j ≤ MS) (hd : decode cc pc = .ok (.invokevirtual 73, 3)) (k : ∀ (r : Int32) (u : Wd), K r u → GW x p l e (rmd D MC MS) s m args below meth c nL Q (pc + 3) lo (.int r :: st) u i j) : GW x p l e (rmd D MC MS) s m args below meth c nL Q pc lo (.ref (adr x a1) :: .ref (adr x a0) :: st) w i j := g_callVi0 C (As := [.ref (adr x a1)]) (ci := 7) (c_X7_isWord h) (x_cwV C 1 LMX7_73 ⟨rfl, by decide, by decide, rfl⟩ hD (by decide)) rfl hq (by decide) rfl rfl hW hd hij k
def w_X7_expectWord (a0 : Nat) (a1 : Nat) (K : Int32 → Wd → Prop) (w : Wd) : Prop :=
  isK w a0 7 ∧ w_X7_isWord a0 a1 (fun r2 w3 => ((r2 = 0 → isK w3 a0 7 ∧ w_X7_refuse a0 2 (fun r6 w7 => (r6 = 0 ∨ r6 = 1) ∧ K r6 w7) w3) ∧ (¬ r2 = 0 → isK w3 a0 7 ∧ w_X7_advance a0 (fun r9 w10 => (r9 = 0 ∨ r9 = 1) ∧ K r9 w10) w3))) w
theorem c_X7_expectWord {x : xG} {l : Launch} {a0 : Nat} {a1 : Nat} {K : Int32 → Wd → Prop} {w : Wd} (h : w_X7_expectWord a0 a1 K w) : Met l yX7_expectWord (xws yX7_expectWord cX7_expectWord 2 (some .boolean)) (rmd 8 0 0) (xPc x [.ref (adr x a0), .ref (adr x a1)] w) (QcI x K) 0 0 (xA x) := by
  refine xMet (by decide) (Nat.le_of_ble_eq_true rfl) (fun p e s m below meth c C hlk hr _ => ?_)
  show GW x p l e (rmd 8 0 0) s m [.ref (adr x a0), .ref (adr x a1)].toArray below meth c 2 (QI x K below [.ref (adr x a0), .ref (adr x a1)].toArray s 0 0) 0 [(0, .ref (adr x a0)), (1, .ref (adr x a1))] [] w 0 0
  refine g_aload_n (pc := 0) C dX7_expectWord_0 (q := 0) rfl ?_
  refine g_aload_n (pc := 1) C dX7_expectWord_1 (q := 1) rfl ?_
  obtain ⟨k1, h⟩ := h
  refine miX7_73 (pc := 2) C k1 h (Nat.le_of_ble_eq_true rfl) (Nat.le_of_ble_eq_true rfl) ⟨Nat.le_refl _, Nat.le_refl _⟩ dX7_expectWord_2 (fun r2 w3 h => ?_)
  refine g_if_eq (pc := 5) C dX7_expectWord_5 (tgt := 15) rfl (fun z4 => ?_) (fun z4 => ?_)
  · replace h := h.1 z4
    refine g_aload_n (pc := 15) C dX7_expectWord_15 (q := 0) rfl ?_
    refine g_iconst (pc := 16) C dX7_expectWord_16 (v := 2) rfl ?_
    obtain ⟨k5, h⟩ := h
    refine miX7_100 (pc := 17) C k5 h (Nat.le_of_ble_eq_true rfl) (Nat.le_of_ble_eq_true rfl) ⟨Nat.le_refl _, Nat.le_refl _⟩ dX7_expectWord_17 (fun r6 w7 h => ?_)
    exact g_zret (pc := 20) C hlk hr (Nat.le_refl _) (Nat.le_refl _) dX7_expectWord_20 h.1 h.2
  · replace h := h.2 z4
    refine g_aload_n (pc := 8) C dX7_expectWord_8 (q := 0) rfl ?_
    obtain ⟨k8, h⟩ := h
    refine miX7_57 (pc := 9) C k8 h (Nat.le_of_ble_eq_true rfl) (Nat.le_of_ble_eq_true rfl) ⟨Nat.le_refl _, Nat.le_refl _⟩ dX7_expectWord_9 (fun r9 w10 h => ?_)
    refine g_goto (pc := 12) C dX7_expectWord_12 (tgt := 20) rfl ?_
    exact g_zret (pc := 20) C hlk hr (Nat.le_refl _) (Nat.le_refl _) dX7_expectWord_20 h.1 h.2
def w_X7_nameHere (a0 : Nat) (K : Int32 → Wd → Prop) (w : Wd) : Prop :=
  isK w a0 7 ∧ w_X7_isWord a0 14 (fun r2 w3 => ((r2 = 0 → isK w3 a0 7 ∧ w_X7_isWord a0 15 (fun r6 w7 => ((r6 = 0 → isK w7 a0 7 ∧ w_X7_isWord a0 16 (fun r10 w11 => ((r10 = 0 → isK w11 a0 7 ∧ w_X7_isWord a0 17 (fun r14 w15 => ((r14 = 0 → isK w15 a0 7 ∧ w_X7_isWord a0 18 (fun r18 w19 => ((r18 = 0 → isK w19 a0 7 ∧ w_X7_isWord a0 19 (fun r22 w23 => ((r22 = 0 → isK w23 a0 7 ∧ w_X7_isWord a0 20 (fun r26 w27 => ((r26 = 0 → isK w27 a0 7 ∧ w_X7_isWord a0 21 (fun r30 w31 => ((r30 = 0 → K (-1) w31) ∧ (¬ r30 = 0 → K 1007 w31))) w27) ∧ (¬ r26 = 0 → K 1006 w27))) w23) ∧ (¬ r22 = 0 → K 1005 w23))) w19) ∧ (¬ r18 = 0 → K 1004 w19))) w15) ∧ (¬ r14 = 0 → K 1003 w15))) w11) ∧ (¬ r10 = 0 → K 1002 w11))) w7) ∧ (¬ r6 = 0 → K 1001 w7))) w3) ∧ (¬ r2 = 0 → K 1000 w3))) w
theorem c_X7_nameHere {x : xG} {l : Launch} {a0 : Nat} {K : Int32 → Wd → Prop} {w : Wd} (h : w_X7_nameHere a0 K w) : Met l yX7_nameHere (xws yX7_nameHere cX7_nameHere 1 (some .int)) (rmd 8 0 0) (xPc x [.ref (adr x a0)] w) (QcI x K) 0 0 (xA x) := by
  refine xMet (by decide) (Nat.le_of_ble_eq_true rfl) (fun p e s m below meth c C hlk hr _ => ?_)
  show GW x p l e (rmd 8 0 0) s m [.ref (adr x a0)].toArray below meth c 1 (QI x K below [.ref (adr x a0)].toArray s 0 0) 0 [(0, .ref (adr x a0))] [] w 0 0
  refine g_aload_n (pc := 0) C dX7_nameHere_0 (q := 0) rfl ?_
  refine g_ldcS (pc := 1) C (q := 12) (k0 := 12) rfl (Nat.le_of_ble_eq_true rfl) dX7_nameHere_1 ?_
  obtain ⟨k1, h⟩ := h
  refine miX7_73 (pc := 3) C k1 h (Nat.le_of_ble_eq_true rfl) (Nat.le_of_ble_eq_true rfl) ⟨Nat.le_refl _, Nat.le_refl _⟩ dX7_nameHere_3 (fun r2 w3 h => ?_)
  refine g_if_eq (pc := 6) C dX7_nameHere_6 (tgt := 13) rfl (fun z4 => ?_) (fun z4 => ?_)
  · replace h := h.1 z4
    refine g_aload_n (pc := 13) C dX7_nameHere_13 (q := 0) rfl ?_
    refine g_ldcS (pc := 14) C (q := 13) (k0 := 13) rfl (Nat.le_of_ble_eq_true rfl) dX7_nameHere_14 ?_
    obtain ⟨k5, h⟩ := h
    refine miX7_73 (pc := 16) C k5 h (Nat.le_of_ble_eq_true rfl) (Nat.le_of_ble_eq_true rfl) ⟨Nat.le_refl _, Nat.le_refl _⟩ dX7_nameHere_16 (fun r6 w7 h => ?_)
    refine g_if_eq (pc := 19) C dX7_nameHere_19 (tgt := 26) rfl (fun z8 => ?_) (fun z8 => ?_)
    · replace h := h.1 z8
      refine g_aload_n (pc := 26) C dX7_nameHere_26 (q := 0) rfl ?_
      refine g_ldcS (pc := 27) C (q := 14) (k0 := 14) rfl (Nat.le_of_ble_eq_true rfl) dX7_nameHere_27 ?_
      obtain ⟨k9, h⟩ := h
      refine miX7_73 (pc := 29) C k9 h (Nat.le_of_ble_eq_true rfl) (Nat.le_of_ble_eq_true rfl) ⟨Nat.le_refl _, Nat.le_refl _⟩ dX7_nameHere_29 (fun r10 w11 h => ?_)
      refine g_if_eq (pc := 32) C dX7_nameHere_32 (tgt := 39) rfl (fun z12 => ?_) (fun z12 => ?_)
      · replace h := h.1 z12
        refine g_aload_n (pc := 39) C dX7_nameHere_39 (q := 0) rfl ?_
        refine g_ldcS (pc := 40) C (q := 15) (k0 := 15) rfl (Nat.le_of_ble_eq_true rfl) dX7_nameHere_40 ?_
        obtain ⟨k13, h⟩ := h
        refine miX7_73 (pc := 42) C k13 h (Nat.le_of_ble_eq_true rfl) (Nat.le_of_ble_eq_true rfl) ⟨Nat.le_refl _, Nat.le_refl _⟩ dX7_nameHere_42 (fun r14 w15 h => ?_)
        refine g_if_eq (pc := 45) C dX7_nameHere_45 (tgt := 52) rfl (fun z16 => ?_) (fun z16 => ?_)
        · replace h := h.1 z16
          refine g_aload_n (pc := 52) C dX7_nameHere_52 (q := 0) rfl ?_
          refine g_ldcS (pc := 53) C (q := 16) (k0 := 16) rfl (Nat.le_of_ble_eq_true rfl) dX7_nameHere_53 ?_
          obtain ⟨k17, h⟩ := h
          refine miX7_73 (pc := 55) C k17 h (Nat.le_of_ble_eq_true rfl) (Nat.le_of_ble_eq_true rfl) ⟨Nat.le_refl _, Nat.le_refl _⟩ dX7_nameHere_55 (fun r18 w19 h => ?_)
          refine g_if_eq (pc := 58) C dX7_nameHere_58 (tgt := 65) rfl (fun z20 => ?_) (fun z20 => ?_)
          · replace h := h.1 z20
            refine g_aload_n (pc := 65) C dX7_nameHere_65 (q := 0) rfl ?_
            refine g_ldcS (pc := 66) C (q := 17) (k0 := 17) rfl (Nat.le_of_ble_eq_true rfl) dX7_nameHere_66 ?_
            obtain ⟨k21, h⟩ := h
            refine miX7_73 (pc := 68) C k21 h (Nat.le_of_ble_eq_true rfl) (Nat.le_of_ble_eq_true rfl) ⟨Nat.le_refl _, Nat.le_refl _⟩ dX7_nameHere_68 (fun r22 w23 h => ?_)
            refine g_if_eq (pc := 71) C dX7_nameHere_71 (tgt := 78) rfl (fun z24 => ?_) (fun z24 => ?_)
            · replace h := h.1 z24
              refine g_aload_n (pc := 78) C dX7_nameHere_78 (q := 0) rfl ?_
              refine g_ldcS (pc := 79) C (q := 18) (k0 := 18) rfl (Nat.le_of_ble_eq_true rfl) dX7_nameHere_79 ?_
              obtain ⟨k25, h⟩ := h
              refine miX7_73 (pc := 81) C k25 h (Nat.le_of_ble_eq_true rfl) (Nat.le_of_ble_eq_true rfl) ⟨Nat.le_refl _, Nat.le_refl _⟩ dX7_nameHere_81 (fun r26 w27 h => ?_)
              refine g_if_eq (pc := 84) C dX7_nameHere_84 (tgt := 91) rfl (fun z28 => ?_) (fun z28 => ?_)
              · replace h := h.1 z28
                refine g_aload_n (pc := 91) C dX7_nameHere_91 (q := 0) rfl ?_
                refine g_ldcS (pc := 92) C (q := 19) (k0 := 19) rfl (Nat.le_of_ble_eq_true rfl) dX7_nameHere_92 ?_
                obtain ⟨k29, h⟩ := h
                refine miX7_73 (pc := 94) C k29 h (Nat.le_of_ble_eq_true rfl) (Nat.le_of_ble_eq_true rfl) ⟨Nat.le_refl _, Nat.le_refl _⟩ dX7_nameHere_94 (fun r30 w31 h => ?_)
                refine g_if_eq (pc := 97) C dX7_nameHere_97 (tgt := 106) rfl (fun z32 => ?_) (fun z32 => ?_)
                · replace h := h.1 z32
                  refine g_iconst (pc := 106) C dX7_nameHere_106 (v := (-1)) rfl ?_
                  exact g_iret (pc := 107) C hlk hr (Nat.le_refl _) (Nat.le_refl _) dX7_nameHere_107 h
                · replace h := h.2 z32
                  refine g_sipush (pc := 100) C dX7_nameHere_100 (v := 1007) rfl ?_
                  refine g_goto (pc := 103) C dX7_nameHere_103 (tgt := 107) rfl ?_
                  exact g_iret (pc := 107) C hlk hr (Nat.le_refl _) (Nat.le_refl _) dX7_nameHere_107 h
              · replace h := h.2 z28
                refine g_sipush (pc := 87) C dX7_nameHere_87 (v := 1006) rfl ?_
                exact g_iret (pc := 90) C hlk hr (Nat.le_refl _) (Nat.le_refl _) dX7_nameHere_90 h
            · replace h := h.2 z24
              refine g_sipush (pc := 74) C dX7_nameHere_74 (v := 1005) rfl ?_
              exact g_iret (pc := 77) C hlk hr (Nat.le_refl _) (Nat.le_refl _) dX7_nameHere_77 h
          · replace h := h.2 z20
            refine g_sipush (pc := 61) C dX7_nameHere_61 (v := 1004) rfl ?_
            exact g_iret (pc := 64) C hlk hr (Nat.le_refl _) (Nat.le_refl _) dX7_nameHere_64 h
        · replace h := h.2 z16
          refine g_sipush (pc := 48) C dX7_nameHere_48 (v := 1003) rfl ?_
          exact g_iret (pc := 51) C hlk hr (Nat.le_refl _) (Nat.le_refl _) dX7_nameHere_51 h
      · replace h := h.2 z12
        refine g_sipush (pc := 35) C dX7_nameHere_35 (v := 1002) rfl ?_
        exact g_iret (pc := 38) C hlk hr (Nat.le_refl _) (Nat.le_refl _) dX7_nameHere_38 h
    · replace h := h.2 z8
      refine g_sipush (pc := 22) C dX7_nameHere_22 (v := 1001) rfl ?_
      exact g_iret (pc := 25) C hlk hr (Nat.le_refl _) (Nat.le_refl _) dX7_nameHere_25 h
  · replace h := h.2 z4
    refine g_sipush (pc := 9) C dX7_nameHere_9 (v := 1000) rfl ?_
    exact g_iret (pc := 12) C hlk hr (Nat.le_refl _) (Nat.le_refl _) dX7_nameHere_12 h
theorem miX7_64 (C : xC x p s m c cc nL args RX7) {a0 : Nat} {a1 : Int32} {K : Int32 → Wd → Prop} {D MC MS : Nat} (hq : isK w a0 7) (h : w_X7_expectSign a0 a1 K w) (hD : 2 + 1 ≤ D) (hW : (st.map fun v => v.category).sum ≤ 8) (hij : i ≤ MC ∧ j ≤ MS) (hd : decode cc pc = .ok (.invokevirtual 64, 3)) (k : ∀ (r : Int32) (u : Wd), K r u → GW x p l e (rmd D MC MS) s m args below meth c nL Q (pc + 3) lo (.int r :: st) u i j) : GW x p l e (rmd D MC MS) s m args below meth c nL Q pc lo (.int a1 :: .ref (adr x a0) :: st) w i j := g_callVi0 C (As := [.int a1]) (ci := 7) (c_X7_expectSign h) (x_cwV C 1 LMX7_64 ⟨rfl, by decide, by decide, rfl⟩ hD (by decide)) rfl hq (by decide) rfl rfl hW hd hij k
theorem miX7_167 (C : xC x p s m c cc nL args RX7) {a0 : Nat} {a1 : Int32} {K : Wd → Prop} {D MC MS : Nat} (hq : isK w a0 7) (h : w_X7_emit a0 a1 K w) (hD : 0 + 1 ≤ D) (hW : (st.map fun v => v.category).sum ≤ 8) (hij : i ≤ MC ∧ j ≤ MS) (hd : decode cc pc = .ok (.invokevirtual 167, 3)) (k : ∀ (u : Wd), K u → GW x p l e (rmd D MC MS) s m args below meth c nL Q (pc + 3) lo st u i j) : GW x p l e (rmd D MC MS) s m args below meth c nL Q pc lo (.int a1 :: .ref (adr x a0) :: st) w i j := g_callVv0 C (As := [.int a1]) (ci := 7) (c_X7_emit h) (x_cwV C 1 LMX7_167 ⟨rfl, by decide, by decide, rfl⟩ hD (by decide)) rfl hq (by decide) rfl rfl hW hd hij k
theorem miX7_178 (C : xC x p s m c cc nL args RX7) {a0 : Nat} {a1 : Int32} {K : Int32 → Wd → Prop} {D MC MS : Nat} (hq : isK w a0 7) (h : w_X7_mayNest a0 a1 K w) (hD : 1 + 1 ≤ D) (hW : (st.map fun v => v.category).sum ≤ 8) (hij : i ≤ MC ∧ j ≤ MS) (hd : decode cc pc = .ok (.invokevirtual 178, 3)) (k : ∀ (r : Int32) (u : Wd), K r u → GW x p l e (rmd D MC MS) s m args below meth c nL Q (pc + 3) lo (.int r :: st) u i j) : GW x p l e (rmd D MC MS) s m args below meth c nL Q pc lo (.int a1 :: .ref (adr x a0) :: st) w i j := g_callVi0 C (As := [.int a1]) (ci := 7) (c_X7_mayNest h) (x_cwV C 1 LMX7_178 ⟨rfl, by decide, by decide, rfl⟩ hD (by decide)) rfl hq (by decide) rfl rfl hW hd hij k
theorem miX7_197 (C : xC x p s m c cc nL args RX7) {a0 : Nat} {K : Int32 → Wd → Prop} {D MC MS : Nat} (hq : isK w a0 7) (h : w_X7_nameHere a0 K w) (hD : 8 + 1 ≤ D) (hW : (st.map fun v => v.category).sum ≤ 8) (hij : i ≤ MC ∧ j ≤ MS) (hd : decode cc pc = .ok (.invokevirtual 197, 3)) (k : ∀ (r : Int32) (u : Wd), K r u → GW x p l e (rmd D MC MS) s m args below meth c nL Q (pc + 3) lo (.int r :: st) u i j) : GW x p l e (rmd D MC MS) s m args below meth c nL Q pc lo (.ref (adr x a0) :: st) w i j := g_callVi0 C (As := []) (ci := 7) (c_X7_nameHere h) (x_cwV C 0 LMX7_197 ⟨rfl, by decide, by decide, rfl⟩ hD (by decide)) rfl hq (by decide) rfl rfl hW hd hij k
theorem miRX7_184 (C : xC x p s m c cc nL args RX7) {a0 : Nat} {a1 : Int32} {K : Int32 → Wd → Prop} {D MC MS : Nat} (hq : isK w a0 7) {d : Nat} (h : Met l yX7_readSum (xws yX7_readSum cX7_readSum 4 (some .boolean)) (rmd d 0 0) (xPc x [.ref (adr x a0), .int a1] w) (QcI x K) 0 0 (xA x)) (hD : d + 1 ≤ D) (hW : (st.map fun v => v.category).sum ≤ 8) (hij : i ≤ MC ∧ j ≤ MS) (hd : decode cc pc = .ok (.invokevirtual 184, 3)) (k : ∀ (r : Int32) (u : Wd), K r u → GW x p l e (rmd D MC MS) s m args below meth c nL Q (pc + 3) lo (.int r :: st) u i j) : GW x p l e (rmd D MC MS) s m args below meth c nL Q pc lo (.int a1 :: .ref (adr x a0) :: st) w i j := g_callVi0 C (As := [.int a1]) (ci := 7) h (x_cwV C 1 LMX7_184 ⟨rfl, by decide, by decide, rfl⟩ hD (by decide)) rfl hq (by decide) rfl rfl hW hd hij k
theorem miRX7_191 (C : xC x p s m c cc nL args RX7) {a0 : Nat} {a1 : Int32} {K : Int32 → Wd → Prop} {D MC MS : Nat} (hq : isK w a0 7) {d : Nat} (h : Met l yX7_readTerm (xws yX7_readTerm cX7_readTerm 3 (some .boolean)) (rmd d 0 0) (xPc x [.ref (adr x a0), .int a1] w) (QcI x K) 0 0 (xA x)) (hD : d + 1 ≤ D) (hW : (st.map fun v => v.category).sum ≤ 8) (hij : i ≤ MC ∧ j ≤ MS) (hd : decode cc pc = .ok (.invokevirtual 191, 3)) (k : ∀ (r : Int32) (u : Wd), K r u → GW x p l e (rmd D MC MS) s m args below meth c nL Q (pc + 3) lo (.int r :: st) u i j) : GW x p l e (rmd D MC MS) s m args below meth c nL Q pc lo (.int a1 :: .ref (adr x a0) :: st) w i j := g_callVi0 C (As := [.int a1]) (ci := 7) h (x_cwV C 1 LMX7_191 ⟨rfl, by decide, by decide, rfl⟩ hD (by decide)) rfl hq (by decide) rfl rfl hW hd hij k
theorem miRX7_194 (C : xC x p s m c cc nL args RX7) {a0 : Nat} {a1 : Int32} {K : Int32 → Wd → Prop} {D MC MS : Nat} (hq : isK w a0 7) {d : Nat} (h : Met l yX7_readAtom (xws yX7_readAtom cX7_readAtom 3 (some .boolean)) (rmd d 0 0) (xPc x [.ref (adr x a0), .int a1] w) (QcI x K) 0 0 (xA x)) (hD : d + 1 ≤ D) (hW : (st.map fun v => v.category).sum ≤ 8) (hij : i ≤ MC ∧ j ≤ MS) (hd : decode cc pc = .ok (.invokevirtual 194, 3)) (k : ∀ (r : Int32) (u : Wd), K r u → GW x p l e (rmd D MC MS) s m args below meth c nL Q (pc + 3) lo (.int r :: st) u i j) : GW x p l e (rmd D MC MS) s m args below meth c nL Q pc lo (.int a1 :: .ref (adr x a0) :: st) w i j := g_callVi0 C (As := [.int a1]) (ci := 7) h (x_cwV C 1 LMX7_194 ⟨rfl, by decide, by decide, rfl⟩ hD (by decide)) rfl hq (by decide) rfl rfl hW hd hij k
def j_X7_readAtom_68 (P : Nat → Nat → Int32 → (Int32 → Wd → Prop) → Wd → Prop)  (K : Int32 → Wd → Prop) (a0 : Nat) (s0 : Int32) (w : Wd) : Prop :=
  ((0 ≤ s0 → isK w a0 7 ∧ w_X7_emit a0 s0 (fun w11 => isK w11 a0 7 ∧ w_X7_advance a0 (fun r13 w14 => (r13 = 0 ∨ r13 = 1) ∧ K r13 w14) w11) w) ∧ (¬ 0 ≤ s0 → isK w a0 7 ∧ w_X7_refuse a0 2 (fun r16 w17 => (r16 = 0 ∨ r16 = 1) ∧ K r16 w17) w))
def b_X7_readAtom (P : Nat → Nat → Int32 → (Int32 → Wd → Prop) → Wd → Prop) (a0 : Nat) (a1 : Int32) (K : Int32 → Wd → Prop) (w : Wd) : Prop :=
  isK w a0 7 ∧ w_X7_isSign a0 40 (fun r2 w3 => ((r2 = 0 → isK w3 a0 7 ∧ (((wI w3 a0 8) = 1 → j_X7_readAtom_68 P K a0 (wI w3 a0 9) w3) ∧ (¬ (wI w3 a0 8) = 1 → w_X7_nameHere a0 (fun r7 w8 => j_X7_readAtom_68 P K a0 r7 w8) w3))) ∧ (¬ r2 = 0 → isK w3 a0 7 ∧ w_X7_mayNest a0 a1 (fun r19 w20 => ((r19 = 0 → K 0 w20) ∧ (¬ r19 = 0 → isK w20 a0 7 ∧ w_X7_advance a0 (fun r23 w24 => ((r23 = 0 → K 0 w24) ∧ (¬ r23 = 0 → isK w24 a0 7 ∧ P 1 a0 (a1 + 1) (fun r27 w28 => ((r27 = 0 → K 0 w28) ∧ (¬ r27 = 0 → isK w28 a0 7 ∧ w_X7_expectSign a0 41 (fun r31 w32 => ((r31 = 0 → K 0 w32) ∧ (¬ r31 = 0 → K 1 w32))) w28))) w24))) w20))) w3))) w
def j_X7_readSum_55 (P : Nat → Nat → Int32 → (Int32 → Wd → Prop) → Wd → Prop) (B : Nat → Int32 → Int32 → Wd → Prop)  (K : Int32 → Wd → Prop) (a0 : Nat) (a1 : Int32) (a2 : Int32) (s0 : Int32) (w : Wd) : Prop :=
  isK w a0 7 ∧ w_X7_advance a0 (fun r15 w16 => ((r15 = 0 → K 0 w16) ∧ (¬ r15 = 0 → isK w16 a0 7 ∧ P 2 a0 a1 (fun r19 w20 => ((r19 = 0 → K 0 w20) ∧ (¬ r19 = 0 → isK w20 a0 7 ∧ w_X7_emit a0 s0 (fun w23 => B a0 a1 (a2 + 1) w23) w20))) w16))) w
def l_X7_readSum_12 (P : Nat → Nat → Int32 → (Int32 → Wd → Prop) → Wd → Prop)  (K : Int32 → Wd → Prop) : Nat → Nat → Int32 → Int32 → Wd → Prop
  | 0, _, _, _, _ => False
  | n + 1, a0, a1, a2, w => ((900 ≤ a2 → K 1 w) ∧ (¬ 900 ≤ a2 → isK w a0 7 ∧ w_X7_isSign a0 43 (fun r7 w8 => ((r7 = 0 → isK w8 a0 7 ∧ w_X7_isSign a0 45 (fun r25 w26 => ((r25 = 0 → K 1 w26) ∧ (¬ r25 = 0 → isK w26 a0 7 ∧ w_X7_isSign a0 43 (fun r29 w30 => ((r29 = 0 → j_X7_readSum_55 P (l_X7_readSum_12 P K n) K a0 a1 a2 2001 w30) ∧ (¬ r29 = 0 → j_X7_readSum_55 P (l_X7_readSum_12 P K n) K a0 a1 a2 2000 w30))) w26))) w8) ∧ (¬ r7 = 0 → isK w8 a0 7 ∧ w_X7_isSign a0 43 (fun r11 w12 => ((r11 = 0 → j_X7_readSum_55 P (l_X7_readSum_12 P K n) K a0 a1 a2 2001 w12) ∧ (¬ r11 = 0 → j_X7_readSum_55 P (l_X7_readSum_12 P K n) K a0 a1 a2 2000 w12))) w8))) w))
def b_X7_readSum (P : Nat → Nat → Int32 → (Int32 → Wd → Prop) → Wd → Prop) (a0 : Nat) (a1 : Int32) (K : Int32 → Wd → Prop) (w : Wd) : Prop :=
  isK w a0 7 ∧ P 2 a0 a1 (fun r2 w3 => ((r2 = 0 → K 0 w3) ∧ (¬ r2 = 0 → ∃ n32, l_X7_readSum_12 P  K n32 a0 a1 0 w3))) w
def l_X7_readTerm_12 (P : Nat → Nat → Int32 → (Int32 → Wd → Prop) → Wd → Prop)  (K : Int32 → Wd → Prop) : Nat → Nat → Int32 → Int32 → Wd → Prop
  | 0, _, _, _, _ => False
  | n + 1, a0, a1, a2, w => ((900 ≤ a2 → K 1 w) ∧ (¬ 900 ≤ a2 → isK w a0 7 ∧ w_X7_isSign a0 42 (fun r7 w8 => ((r7 = 0 → K 1 w8) ∧ (¬ r7 = 0 → isK w8 a0 7 ∧ w_X7_advance a0 (fun r11 w12 => ((r11 = 0 → K 0 w12) ∧ (¬ r11 = 0 → isK w12 a0 7 ∧ P 0 a0 a1 (fun r15 w16 => ((r15 = 0 → K 0 w16) ∧ (¬ r15 = 0 → isK w16 a0 7 ∧ w_X7_emit a0 2002 (fun w19 => l_X7_readTerm_12 P K n a0 a1 (a2 + 1) w19) w16))) w12))) w8))) w))
def b_X7_readTerm (P : Nat → Nat → Int32 → (Int32 → Wd → Prop) → Wd → Prop) (a0 : Nat) (a1 : Int32) (K : Int32 → Wd → Prop) (w : Wd) : Prop :=
  isK w a0 7 ∧ P 0 a0 a1 (fun r2 w3 => ((r2 = 0 → K 0 w3) ∧ (¬ r2 = 0 → ∃ n20, l_X7_readTerm_12 P  K n20 a0 a1 0 w3))) w
theorem t_X7_readAtom_68 (C : xC x p s m c cX7_readAtom 3 args RX7) (hlk : meth.locks = false) (hr : meth.sig.returnType = some .boolean) {K : Int32 → Wd → Prop} {d : Nat} (hd0 : 9 ≤ d) {P : Nat → Nat → Int32 → (Int32 → Wd → Prop) → Wd → Prop} (hP0 : ∀ (q0 : Nat) (q1 : Int32) (K : Int32 → Wd → Prop) (w : Wd), P 0 q0 q1 K w → Met l yX7_readAtom (xws yX7_readAtom cX7_readAtom 3 (some .boolean)) (rmd d 0 0) (xPc x [.ref (adr x q0), .int q1] w) (QcI x K) 0 0 (xA x)) (hP1 : ∀ (q0 : Nat) (q1 : Int32) (K : Int32 → Wd → Prop) (w : Wd), P 1 q0 q1 K w → Met l yX7_readSum (xws yX7_readSum cX7_readSum 4 (some .boolean)) (rmd d 0 0) (xPc x [.ref (adr x q0), .int q1] w) (QcI x K) 0 0 (xA x)) (hP2 : ∀ (q0 : Nat) (q1 : Int32) (K : Int32 → Wd → Prop) (w : Wd), P 2 q0 q1 K w → Met l yX7_readTerm (xws yX7_readTerm cX7_readTerm 3 (some .boolean)) (rmd d 0 0) (xPc x [.ref (adr x q0), .int q1] w) (QcI x K) 0 0 (xA x))   (a0 : Nat) (s0 : Int32) (w : Wd) (h : j_X7_readAtom_68 P K a0 s0 w) : GW x p l e (rmd (d + 1) 0 0) s m args below meth c 3 (QI x K below args s 0 0) 68 [(0, .ref (adr x a0))] [.int s0] w 0 0 := by
  refine g_istore_n (pc := 68) C dX7_readAtom_68 (Nat.le_of_ble_eq_true rfl) (lo' := [(2, .int s0), (0, .ref (adr x a0))]) rfl ?_
  refine g_iload_n (pc := 69) C dX7_readAtom_69 (q := 0) rfl ?_
  refine g_if_ge (pc := 70) C dX7_readAtom_70 (tgt := 79) rfl (fun z9 => ?_) (fun z9 => ?_)
  · replace h := h.1 z9
    refine g_aload_n (pc := 79) C dX7_readAtom_79 (q := 1) rfl ?_
    refine g_iload_n (pc := 80) C dX7_readAtom_80 (q := 0) rfl ?_
    obtain ⟨k10, h⟩ := h
    refine miX7_167 (pc := 81) C k10 h (Nat.le_trans (Nat.le_of_ble_eq_true rfl) (Nat.succ_le_succ hd0)) (Nat.le_of_ble_eq_true rfl) ⟨Nat.le_refl _, Nat.le_refl _⟩ dX7_readAtom_81 (fun w11 h => ?_)
    refine g_aload_n (pc := 84) C dX7_readAtom_84 (q := 1) rfl ?_
    obtain ⟨k12, h⟩ := h
    refine miX7_57 (pc := 85) C k12 h (Nat.le_trans (Nat.le_of_ble_eq_true rfl) (Nat.succ_le_succ hd0)) (Nat.le_of_ble_eq_true rfl) ⟨Nat.le_refl _, Nat.le_refl _⟩ dX7_readAtom_85 (fun r13 w14 h => ?_)
    exact g_zret (pc := 88) C hlk hr (Nat.le_refl _) (Nat.le_refl _) dX7_readAtom_88 h.1 h.2
  · replace h := h.2 z9
    refine g_aload_n (pc := 73) C dX7_readAtom_73 (q := 1) rfl ?_
    refine g_iconst (pc := 74) C dX7_readAtom_74 (v := 2) rfl ?_
    obtain ⟨k15, h⟩ := h
    refine miX7_100 (pc := 75) C k15 h (Nat.le_trans (Nat.le_of_ble_eq_true rfl) (Nat.succ_le_succ hd0)) (Nat.le_of_ble_eq_true rfl) ⟨Nat.le_refl _, Nat.le_refl _⟩ dX7_readAtom_75 (fun r16 w17 h => ?_)
    exact g_zret (pc := 78) C hlk hr (Nat.le_refl _) (Nat.le_refl _) dX7_readAtom_78 h.1 h.2
theorem t_X7_readAtom (C : xC x p s m c cX7_readAtom 3 args RX7) (hlk : meth.locks = false) (hr : meth.sig.returnType = some .boolean) {K : Int32 → Wd → Prop} {d : Nat} (hd0 : 9 ≤ d) {P : Nat → Nat → Int32 → (Int32 → Wd → Prop) → Wd → Prop} (hP0 : ∀ (q0 : Nat) (q1 : Int32) (K : Int32 → Wd → Prop) (w : Wd), P 0 q0 q1 K w → Met l yX7_readAtom (xws yX7_readAtom cX7_readAtom 3 (some .boolean)) (rmd d 0 0) (xPc x [.ref (adr x q0), .int q1] w) (QcI x K) 0 0 (xA x)) (hP1 : ∀ (q0 : Nat) (q1 : Int32) (K : Int32 → Wd → Prop) (w : Wd), P 1 q0 q1 K w → Met l yX7_readSum (xws yX7_readSum cX7_readSum 4 (some .boolean)) (rmd d 0 0) (xPc x [.ref (adr x q0), .int q1] w) (QcI x K) 0 0 (xA x)) (hP2 : ∀ (q0 : Nat) (q1 : Int32) (K : Int32 → Wd → Prop) (w : Wd), P 2 q0 q1 K w → Met l yX7_readTerm (xws yX7_readTerm cX7_readTerm 3 (some .boolean)) (rmd d 0 0) (xPc x [.ref (adr x q0), .int q1] w) (QcI x K) 0 0 (xA x)) (a0 : Nat) (a1 : Int32) (w : Wd) (h : b_X7_readAtom P a0 a1 K w) : GW x p l e (rmd (d + 1) 0 0) s m args below meth c 3 (QI x K below args s 0 0) 0 (lv_args 0 [.ref (adr x a0), .int a1]) [] w 0 0 := by
  show GW x p l e (rmd (d + 1) 0 0) s m args below meth c 3 (QI x K below args s 0 0) 0 [(0, .ref (adr x a0)), (1, .int a1)] [] w 0 0
  refine g_aload_n (pc := 0) C dX7_readAtom_0 (q := 0) rfl ?_
  refine g_bipush (pc := 1) C dX7_readAtom_1 (v := 40) rfl ?_
  obtain ⟨k1, h⟩ := h
  refine miX7_181 (pc := 3) C k1 h (Nat.le_trans (Nat.le_of_ble_eq_true rfl) (Nat.succ_le_succ hd0)) (Nat.le_of_ble_eq_true rfl) ⟨Nat.le_refl _, Nat.le_refl _⟩ dX7_readAtom_3 (fun r2 w3 h => ?_)
  refine g_if_eq (pc := 6) C dX7_readAtom_6 (tgt := 49) rfl (fun z4 => ?_) (fun z4 => ?_)
  · replace h := h.1 z4
    refine g_aload_n (pc := 49) C dX7_readAtom_49 (q := 0) rfl ?_
    obtain ⟨k5, h⟩ := h
    refine gfX7_34 (pc := 50) C k5 dX7_readAtom_50 ?_
    refine g_iconst (pc := 53) C dX7_readAtom_53 (v := 1) rfl ?_
    refine g_icmp_ne (pc := 54) C dX7_readAtom_54 (tgt := 64) rfl (fun z6 => ?_) (fun z6 => ?_)
    · replace h := h.2 z6
      refine g_aload_n (pc := 64) C dX7_readAtom_64 (q := 0) rfl ?_
      refine miX7_197 (pc := 65) C k5 h (Nat.le_trans (Nat.le_of_ble_eq_true rfl) (Nat.succ_le_succ hd0)) (Nat.le_of_ble_eq_true rfl) ⟨Nat.le_refl _, Nat.le_refl _⟩ dX7_readAtom_65 (fun r7 w8 h => ?_)
      refine g_sub [0] rfl ?_
      exact t_X7_readAtom_68 C hlk hr hd0 hP0 hP1 hP2  _ _ _ h
    · replace h := h.1 z6
      refine g_aload_n (pc := 57) C dX7_readAtom_57 (q := 0) rfl ?_
      refine gfX7_37 (pc := 58) C k5 dX7_readAtom_58 ?_
      refine g_goto (pc := 61) C dX7_readAtom_61 (tgt := 68) rfl ?_
      refine g_sub [0] rfl ?_
      exact t_X7_readAtom_68 C hlk hr hd0 hP0 hP1 hP2  _ _ _ h
  · replace h := h.2 z4
    refine g_aload_n (pc := 9) C dX7_readAtom_9 (q := 0) rfl ?_
    refine g_iload_n (pc := 10) C dX7_readAtom_10 (q := 1) rfl ?_
    obtain ⟨k18, h⟩ := h
    refine miX7_178 (pc := 11) C k18 h (Nat.le_trans (Nat.le_of_ble_eq_true rfl) (Nat.succ_le_succ hd0)) (Nat.le_of_ble_eq_true rfl) ⟨Nat.le_refl _, Nat.le_refl _⟩ dX7_readAtom_11 (fun r19 w20 h => ?_)
    refine g_if_eq (pc := 14) C dX7_readAtom_14 (tgt := 47) rfl (fun z21 => ?_) (fun z21 => ?_)
    · replace h := h.1 z21
      refine g_iconst (pc := 47) C dX7_readAtom_47 (v := 0) rfl ?_
      exact g_zret (pc := 48) C hlk hr (Nat.le_refl _) (Nat.le_refl _) dX7_readAtom_48 (Or.inl rfl) h
    · replace h := h.2 z21
      refine g_aload_n (pc := 17) C dX7_readAtom_17 (q := 0) rfl ?_
      obtain ⟨k22, h⟩ := h
      refine miX7_57 (pc := 18) C k22 h (Nat.le_trans (Nat.le_of_ble_eq_true rfl) (Nat.succ_le_succ hd0)) (Nat.le_of_ble_eq_true rfl) ⟨Nat.le_refl _, Nat.le_refl _⟩ dX7_readAtom_18 (fun r23 w24 h => ?_)
      refine g_if_eq (pc := 21) C dX7_readAtom_21 (tgt := 47) rfl (fun z25 => ?_) (fun z25 => ?_)
      · replace h := h.1 z25
        refine g_iconst (pc := 47) C dX7_readAtom_47 (v := 0) rfl ?_
        exact g_zret (pc := 48) C hlk hr (Nat.le_refl _) (Nat.le_refl _) dX7_readAtom_48 (Or.inl rfl) h
      · replace h := h.2 z25
        refine g_aload_n (pc := 24) C dX7_readAtom_24 (q := 0) rfl ?_
        refine g_iload_n (pc := 25) C dX7_readAtom_25 (q := 1) rfl ?_
        refine g_iconst (pc := 26) C dX7_readAtom_26 (v := 1) rfl ?_
        refine g_iadd (pc := 27) C dX7_readAtom_27 ?_
        obtain ⟨k26, h⟩ := h
        refine miRX7_184 (pc := 28) C k26 (hP1 _ _ _ _ h) (Nat.le_refl _) (Nat.le_of_ble_eq_true rfl) ⟨Nat.le_refl _, Nat.le_refl _⟩ dX7_readAtom_28 (fun r27 w28 h => ?_)
        refine g_if_eq (pc := 31) C dX7_readAtom_31 (tgt := 47) rfl (fun z29 => ?_) (fun z29 => ?_)
        · replace h := h.1 z29
          refine g_iconst (pc := 47) C dX7_readAtom_47 (v := 0) rfl ?_
          exact g_zret (pc := 48) C hlk hr (Nat.le_refl _) (Nat.le_refl _) dX7_readAtom_48 (Or.inl rfl) h
        · replace h := h.2 z29
          refine g_aload_n (pc := 34) C dX7_readAtom_34 (q := 0) rfl ?_
          refine g_bipush (pc := 35) C dX7_readAtom_35 (v := 41) rfl ?_
          obtain ⟨k30, h⟩ := h
          refine miX7_64 (pc := 37) C k30 h (Nat.le_trans (Nat.le_of_ble_eq_true rfl) (Nat.succ_le_succ hd0)) (Nat.le_of_ble_eq_true rfl) ⟨Nat.le_refl _, Nat.le_refl _⟩ dX7_readAtom_37 (fun r31 w32 h => ?_)
          refine g_if_eq (pc := 40) C dX7_readAtom_40 (tgt := 47) rfl (fun z33 => ?_) (fun z33 => ?_)
          · replace h := h.1 z33
            refine g_iconst (pc := 47) C dX7_readAtom_47 (v := 0) rfl ?_
            exact g_zret (pc := 48) C hlk hr (Nat.le_refl _) (Nat.le_refl _) dX7_readAtom_48 (Or.inl rfl) h
          · replace h := h.2 z33
            refine g_iconst (pc := 43) C dX7_readAtom_43 (v := 1) rfl ?_
            refine g_goto (pc := 44) C dX7_readAtom_44 (tgt := 48) rfl ?_
            exact g_zret (pc := 48) C hlk hr (Nat.le_refl _) (Nat.le_refl _) dX7_readAtom_48 (Or.inr rfl) h
theorem t_X7_readSum_55 (C : xC x p s m c cX7_readSum 4 args RX7) (hlk : meth.locks = false) (hr : meth.sig.returnType = some .boolean) {K : Int32 → Wd → Prop} {d : Nat} (hd0 : 9 ≤ d) {P : Nat → Nat → Int32 → (Int32 → Wd → Prop) → Wd → Prop} (hP0 : ∀ (q0 : Nat) (q1 : Int32) (K : Int32 → Wd → Prop) (w : Wd), P 0 q0 q1 K w → Met l yX7_readAtom (xws yX7_readAtom cX7_readAtom 3 (some .boolean)) (rmd d 0 0) (xPc x [.ref (adr x q0), .int q1] w) (QcI x K) 0 0 (xA x)) (hP1 : ∀ (q0 : Nat) (q1 : Int32) (K : Int32 → Wd → Prop) (w : Wd), P 1 q0 q1 K w → Met l yX7_readSum (xws yX7_readSum cX7_readSum 4 (some .boolean)) (rmd d 0 0) (xPc x [.ref (adr x q0), .int q1] w) (QcI x K) 0 0 (xA x)) (hP2 : ∀ (q0 : Nat) (q1 : Int32) (K : Int32 → Wd → Prop) (w : Wd), P 2 q0 q1 K w → Met l yX7_readTerm (xws yX7_readTerm cX7_readTerm 3 (some .boolean)) (rmd d 0 0) (xPc x [.ref (adr x q0), .int q1] w) (QcI x K) 0 0 (xA x)) {B : Nat → Int32 → Int32 → Wd → Prop}  (hB : ∀ (b0 : Nat) (b1 : Int32) (b2 : Int32) (w : Wd), B b0 b1 b2 w → GW x p l e (rmd (d + 1) 0 0) s m args below meth c 4 (QI x K below args s 0 0) 12 [(0, .ref (adr x b0)), (1, .int b1), (2, .int b2)] [] w 0 0)  (a0 : Nat) (a1 : Int32) (a2 : Int32) (s0 : Int32) (w : Wd) (h : j_X7_readSum_55 P B K a0 a1 a2 s0 w) : GW x p l e (rmd (d + 1) 0 0) s m args below meth c 4 (QI x K below args s 0 0) 55 [(0, .ref (adr x a0)), (1, .int a1), (2, .int a2)] [.int s0] w 0 0 := by
  refine g_istore_n (pc := 55) C dX7_readSum_55 (Nat.le_of_ble_eq_true rfl) (lo' := [(3, .int s0), (0, .ref (adr x a0)), (1, .int a1), (2, .int a2)]) rfl ?_
  refine g_aload_n (pc := 56) C dX7_readSum_56 (q := 1) rfl ?_
  obtain ⟨k14, h⟩ := h
  refine miX7_57 (pc := 57) C k14 h (Nat.le_trans (Nat.le_of_ble_eq_true rfl) (Nat.succ_le_succ hd0)) (Nat.le_of_ble_eq_true rfl) ⟨Nat.le_refl _, Nat.le_refl _⟩ dX7_readSum_57 (fun r15 w16 h => ?_)
  refine g_if_eq (pc := 60) C dX7_readSum_60 (tgt := 71) rfl (fun z17 => ?_) (fun z17 => ?_)
  · replace h := h.1 z17
    refine g_iconst (pc := 71) C dX7_readSum_71 (v := 0) rfl ?_
    exact g_zret (pc := 72) C hlk hr (Nat.le_refl _) (Nat.le_refl _) dX7_readSum_72 (Or.inl rfl) h
  · replace h := h.2 z17
    refine g_aload_n (pc := 63) C dX7_readSum_63 (q := 1) rfl ?_
    refine g_iload_n (pc := 64) C dX7_readSum_64 (q := 2) rfl ?_
    obtain ⟨k18, h⟩ := h
    refine miRX7_191 (pc := 65) C k18 (hP2 _ _ _ _ h) (Nat.le_refl _) (Nat.le_of_ble_eq_true rfl) ⟨Nat.le_refl _, Nat.le_refl _⟩ dX7_readSum_65 (fun r19 w20 h => ?_)
    refine g_if_ne (pc := 68) C dX7_readSum_68 (tgt := 73) rfl (fun z21 => ?_) (fun z21 => ?_)
    · replace h := h.2 z21
      refine g_aload_n (pc := 73) C dX7_readSum_73 (q := 1) rfl ?_
      refine g_iload_n (pc := 74) C dX7_readSum_74 (q := 0) rfl ?_
      obtain ⟨k22, h⟩ := h
      refine miX7_167 (pc := 75) C k22 h (Nat.le_trans (Nat.le_of_ble_eq_true rfl) (Nat.succ_le_succ hd0)) (Nat.le_of_ble_eq_true rfl) ⟨Nat.le_refl _, Nat.le_refl _⟩ dX7_readSum_75 (fun w23 h => ?_)
      refine g_iinc (pc := 78) C dX7_readSum_78 (q := 3) rfl (v2 := a2 + 1) rfl (Nat.le_of_ble_eq_true rfl) (lo' := [(2, .int (a2 + 1)), (3, .int s0), (0, .ref (adr x a0)), (1, .int a1)]) rfl ?_
      refine g_goto (pc := 81) C dX7_readSum_81 (tgt := 12) rfl ?_
      refine g_sub [2, 3, 0] rfl ?_
      exact hB _ _ _ _ h
    · replace h := h.1 z21
      refine g_iconst (pc := 71) C dX7_readSum_71 (v := 0) rfl ?_
      exact g_zret (pc := 72) C hlk hr (Nat.le_refl _) (Nat.le_refl _) dX7_readSum_72 (Or.inl rfl) h
theorem t_X7_readSum_12 (C : xC x p s m c cX7_readSum 4 args RX7) (hlk : meth.locks = false) (hr : meth.sig.returnType = some .boolean) {K : Int32 → Wd → Prop} {d : Nat} (hd0 : 9 ≤ d) {P : Nat → Nat → Int32 → (Int32 → Wd → Prop) → Wd → Prop} (hP0 : ∀ (q0 : Nat) (q1 : Int32) (K : Int32 → Wd → Prop) (w : Wd), P 0 q0 q1 K w → Met l yX7_readAtom (xws yX7_readAtom cX7_readAtom 3 (some .boolean)) (rmd d 0 0) (xPc x [.ref (adr x q0), .int q1] w) (QcI x K) 0 0 (xA x)) (hP1 : ∀ (q0 : Nat) (q1 : Int32) (K : Int32 → Wd → Prop) (w : Wd), P 1 q0 q1 K w → Met l yX7_readSum (xws yX7_readSum cX7_readSum 4 (some .boolean)) (rmd d 0 0) (xPc x [.ref (adr x q0), .int q1] w) (QcI x K) 0 0 (xA x)) (hP2 : ∀ (q0 : Nat) (q1 : Int32) (K : Int32 → Wd → Prop) (w : Wd), P 2 q0 q1 K w → Met l yX7_readTerm (xws yX7_readTerm cX7_readTerm 3 (some .boolean)) (rmd d 0 0) (xPc x [.ref (adr x q0), .int q1] w) (QcI x K) 0 0 (xA x))   : ∀ (n : Nat) (a0 : Nat) (a1 : Int32) (a2 : Int32) (w : Wd), l_X7_readSum_12 P K n a0 a1 a2 w → GW x p l e (rmd (d + 1) 0 0) s m args below meth c 4 (QI x K below args s 0 0) 12 [(0, .ref (adr x a0)), (1, .int a1), (2, .int a2)] [] w 0 0 := by
  intro n
  induction n with
  | zero => intro _ _ _ _ h; exact False.elim h
  | succ n ih =>
    intro a0 a1 a2 w h
    refine g_iload_n (pc := 12) C dX7_readSum_12 (q := 2) rfl ?_
    refine g_sipush (pc := 13) C dX7_readSum_13 (v := 900) rfl ?_
    refine g_icmp_ge (pc := 16) C dX7_readSum_16 (tgt := 84) rfl (fun z5 => ?_) (fun z5 => ?_)
    · replace h := h.1 z5
      refine g_iconst (pc := 84) C dX7_readSum_84 (v := 1) rfl ?_
      exact g_zret (pc := 85) C hlk hr (Nat.le_refl _) (Nat.le_refl _) dX7_readSum_85 (Or.inr rfl) h
    · replace h := h.2 z5
      refine g_aload_n (pc := 19) C dX7_readSum_19 (q := 0) rfl ?_
      refine g_bipush (pc := 20) C dX7_readSum_20 (v := 43) rfl ?_
      obtain ⟨k6, h⟩ := h
      refine miX7_181 (pc := 22) C k6 h (Nat.le_trans (Nat.le_of_ble_eq_true rfl) (Nat.succ_le_succ hd0)) (Nat.le_of_ble_eq_true rfl) ⟨Nat.le_refl _, Nat.le_refl _⟩ dX7_readSum_22 (fun r7 w8 h => ?_)
      refine g_if_ne (pc := 25) C dX7_readSum_25 (tgt := 37) rfl (fun z9 => ?_) (fun z9 => ?_)
      · replace h := h.2 z9
        refine g_aload_n (pc := 37) C dX7_readSum_37 (q := 0) rfl ?_
        refine g_bipush (pc := 38) C dX7_readSum_38 (v := 43) rfl ?_
        obtain ⟨k10, h⟩ := h
        refine miX7_181 (pc := 40) C k10 h (Nat.le_trans (Nat.le_of_ble_eq_true rfl) (Nat.succ_le_succ hd0)) (Nat.le_of_ble_eq_true rfl) ⟨Nat.le_refl _, Nat.le_refl _⟩ dX7_readSum_40 (fun r11 w12 h => ?_)
        refine g_if_eq (pc := 43) C dX7_readSum_43 (tgt := 52) rfl (fun z13 => ?_) (fun z13 => ?_)
        · replace h := h.1 z13
          refine g_sipush (pc := 52) C dX7_readSum_52 (v := 2001) rfl ?_
          exact t_X7_readSum_55 C hlk hr hd0 hP0 hP1 hP2 ih _ _ _ _ _ h
        · replace h := h.2 z13
          refine g_sipush (pc := 46) C dX7_readSum_46 (v := 2000) rfl ?_
          refine g_goto (pc := 49) C dX7_readSum_49 (tgt := 55) rfl ?_
          exact t_X7_readSum_55 C hlk hr hd0 hP0 hP1 hP2 ih _ _ _ _ _ h
      · replace h := h.1 z9
        refine g_aload_n (pc := 28) C dX7_readSum_28 (q := 0) rfl ?_
        refine g_bipush (pc := 29) C dX7_readSum_29 (v := 45) rfl ?_
        obtain ⟨k24, h⟩ := h
        refine miX7_181 (pc := 31) C k24 h (Nat.le_trans (Nat.le_of_ble_eq_true rfl) (Nat.succ_le_succ hd0)) (Nat.le_of_ble_eq_true rfl) ⟨Nat.le_refl _, Nat.le_refl _⟩ dX7_readSum_31 (fun r25 w26 h => ?_)
        refine g_if_eq (pc := 34) C dX7_readSum_34 (tgt := 84) rfl (fun z27 => ?_) (fun z27 => ?_)
        · replace h := h.1 z27
          refine g_iconst (pc := 84) C dX7_readSum_84 (v := 1) rfl ?_
          exact g_zret (pc := 85) C hlk hr (Nat.le_refl _) (Nat.le_refl _) dX7_readSum_85 (Or.inr rfl) h
        · replace h := h.2 z27
          refine g_aload_n (pc := 37) C dX7_readSum_37 (q := 0) rfl ?_
          refine g_bipush (pc := 38) C dX7_readSum_38 (v := 43) rfl ?_
          obtain ⟨k28, h⟩ := h
          refine miX7_181 (pc := 40) C k28 h (Nat.le_trans (Nat.le_of_ble_eq_true rfl) (Nat.succ_le_succ hd0)) (Nat.le_of_ble_eq_true rfl) ⟨Nat.le_refl _, Nat.le_refl _⟩ dX7_readSum_40 (fun r29 w30 h => ?_)
          refine g_if_eq (pc := 43) C dX7_readSum_43 (tgt := 52) rfl (fun z31 => ?_) (fun z31 => ?_)
          · replace h := h.1 z31
            refine g_sipush (pc := 52) C dX7_readSum_52 (v := 2001) rfl ?_
            exact t_X7_readSum_55 C hlk hr hd0 hP0 hP1 hP2 ih _ _ _ _ _ h
          · replace h := h.2 z31
            refine g_sipush (pc := 46) C dX7_readSum_46 (v := 2000) rfl ?_
            refine g_goto (pc := 49) C dX7_readSum_49 (tgt := 55) rfl ?_
            exact t_X7_readSum_55 C hlk hr hd0 hP0 hP1 hP2 ih _ _ _ _ _ h
theorem t_X7_readSum (C : xC x p s m c cX7_readSum 4 args RX7) (hlk : meth.locks = false) (hr : meth.sig.returnType = some .boolean) {K : Int32 → Wd → Prop} {d : Nat} (hd0 : 9 ≤ d) {P : Nat → Nat → Int32 → (Int32 → Wd → Prop) → Wd → Prop} (hP0 : ∀ (q0 : Nat) (q1 : Int32) (K : Int32 → Wd → Prop) (w : Wd), P 0 q0 q1 K w → Met l yX7_readAtom (xws yX7_readAtom cX7_readAtom 3 (some .boolean)) (rmd d 0 0) (xPc x [.ref (adr x q0), .int q1] w) (QcI x K) 0 0 (xA x)) (hP1 : ∀ (q0 : Nat) (q1 : Int32) (K : Int32 → Wd → Prop) (w : Wd), P 1 q0 q1 K w → Met l yX7_readSum (xws yX7_readSum cX7_readSum 4 (some .boolean)) (rmd d 0 0) (xPc x [.ref (adr x q0), .int q1] w) (QcI x K) 0 0 (xA x)) (hP2 : ∀ (q0 : Nat) (q1 : Int32) (K : Int32 → Wd → Prop) (w : Wd), P 2 q0 q1 K w → Met l yX7_readTerm (xws yX7_readTerm cX7_readTerm 3 (some .boolean)) (rmd d 0 0) (xPc x [.ref (adr x q0), .int q1] w) (QcI x K) 0 0 (xA x)) (a0 : Nat) (a1 : Int32) (w : Wd) (h : b_X7_readSum P a0 a1 K w) : GW x p l e (rmd (d + 1) 0 0) s m args below meth c 4 (QI x K below args s 0 0) 0 (lv_args 0 [.ref (adr x a0), .int a1]) [] w 0 0 := by
  show GW x p l e (rmd (d + 1) 0 0) s m args below meth c 4 (QI x K below args s 0 0) 0 [(0, .ref (adr x a0)), (1, .int a1)] [] w 0 0
  refine g_aload_n (pc := 0) C dX7_readSum_0 (q := 0) rfl ?_
  refine g_iload_n (pc := 1) C dX7_readSum_1 (q := 1) rfl ?_
  obtain ⟨k1, h⟩ := h
  refine miRX7_191 (pc := 2) C k1 (hP2 _ _ _ _ h) (Nat.le_refl _) (Nat.le_of_ble_eq_true rfl) ⟨Nat.le_refl _, Nat.le_refl _⟩ dX7_readSum_2 (fun r2 w3 h => ?_)
  refine g_if_ne (pc := 5) C dX7_readSum_5 (tgt := 10) rfl (fun z4 => ?_) (fun z4 => ?_)
  · replace h := h.2 z4
    refine g_iconst (pc := 10) C dX7_readSum_10 (v := 0) rfl ?_
    refine g_istore_n (pc := 11) C dX7_readSum_11 (Nat.le_of_ble_eq_true rfl) (lo' := [(2, .int 0), (0, .ref (adr x a0)), (1, .int a1)]) rfl ?_
    obtain ⟨n32, h⟩ := h
    refine g_sub [1, 2, 0] rfl ?_
    refine t_X7_readSum_12 C hlk hr hd0 hP0 hP1 hP2 n32 _ _ _ _ h
  · replace h := h.1 z4
    refine g_iconst (pc := 8) C dX7_readSum_8 (v := 0) rfl ?_
    exact g_zret (pc := 9) C hlk hr (Nat.le_refl _) (Nat.le_refl _) dX7_readSum_9 (Or.inl rfl) h
theorem t_X7_readTerm_12 (C : xC x p s m c cX7_readTerm 3 args RX7) (hlk : meth.locks = false) (hr : meth.sig.returnType = some .boolean) {K : Int32 → Wd → Prop} {d : Nat} (hd0 : 9 ≤ d) {P : Nat → Nat → Int32 → (Int32 → Wd → Prop) → Wd → Prop} (hP0 : ∀ (q0 : Nat) (q1 : Int32) (K : Int32 → Wd → Prop) (w : Wd), P 0 q0 q1 K w → Met l yX7_readAtom (xws yX7_readAtom cX7_readAtom 3 (some .boolean)) (rmd d 0 0) (xPc x [.ref (adr x q0), .int q1] w) (QcI x K) 0 0 (xA x)) (hP1 : ∀ (q0 : Nat) (q1 : Int32) (K : Int32 → Wd → Prop) (w : Wd), P 1 q0 q1 K w → Met l yX7_readSum (xws yX7_readSum cX7_readSum 4 (some .boolean)) (rmd d 0 0) (xPc x [.ref (adr x q0), .int q1] w) (QcI x K) 0 0 (xA x)) (hP2 : ∀ (q0 : Nat) (q1 : Int32) (K : Int32 → Wd → Prop) (w : Wd), P 2 q0 q1 K w → Met l yX7_readTerm (xws yX7_readTerm cX7_readTerm 3 (some .boolean)) (rmd d 0 0) (xPc x [.ref (adr x q0), .int q1] w) (QcI x K) 0 0 (xA x))   : ∀ (n : Nat) (a0 : Nat) (a1 : Int32) (a2 : Int32) (w : Wd), l_X7_readTerm_12 P K n a0 a1 a2 w → GW x p l e (rmd (d + 1) 0 0) s m args below meth c 3 (QI x K below args s 0 0) 12 [(0, .ref (adr x a0)), (1, .int a1), (2, .int a2)] [] w 0 0 := by
  intro n
  induction n with
  | zero => intro _ _ _ _ h; exact False.elim h
  | succ n ih =>
    intro a0 a1 a2 w h
    refine g_iload_n (pc := 12) C dX7_readTerm_12 (q := 2) rfl ?_
    refine g_sipush (pc := 13) C dX7_readTerm_13 (v := 900) rfl ?_
    refine g_icmp_ge (pc := 16) C dX7_readTerm_16 (tgt := 58) rfl (fun z5 => ?_) (fun z5 => ?_)
    · replace h := h.1 z5
      refine g_iconst (pc := 58) C dX7_readTerm_58 (v := 1) rfl ?_
      exact g_zret (pc := 59) C hlk hr (Nat.le_refl _) (Nat.le_refl _) dX7_readTerm_59 (Or.inr rfl) h
    · replace h := h.2 z5
      refine g_aload_n (pc := 19) C dX7_readTerm_19 (q := 0) rfl ?_
      refine g_bipush (pc := 20) C dX7_readTerm_20 (v := 42) rfl ?_
      obtain ⟨k6, h⟩ := h
      refine miX7_181 (pc := 22) C k6 h (Nat.le_trans (Nat.le_of_ble_eq_true rfl) (Nat.succ_le_succ hd0)) (Nat.le_of_ble_eq_true rfl) ⟨Nat.le_refl _, Nat.le_refl _⟩ dX7_readTerm_22 (fun r7 w8 h => ?_)
      refine g_if_eq (pc := 25) C dX7_readTerm_25 (tgt := 58) rfl (fun z9 => ?_) (fun z9 => ?_)
      · replace h := h.1 z9
        refine g_iconst (pc := 58) C dX7_readTerm_58 (v := 1) rfl ?_
        exact g_zret (pc := 59) C hlk hr (Nat.le_refl _) (Nat.le_refl _) dX7_readTerm_59 (Or.inr rfl) h
      · replace h := h.2 z9
        refine g_aload_n (pc := 28) C dX7_readTerm_28 (q := 0) rfl ?_
        obtain ⟨k10, h⟩ := h
        refine miX7_57 (pc := 29) C k10 h (Nat.le_trans (Nat.le_of_ble_eq_true rfl) (Nat.succ_le_succ hd0)) (Nat.le_of_ble_eq_true rfl) ⟨Nat.le_refl _, Nat.le_refl _⟩ dX7_readTerm_29 (fun r11 w12 h => ?_)
        refine g_if_eq (pc := 32) C dX7_readTerm_32 (tgt := 43) rfl (fun z13 => ?_) (fun z13 => ?_)
        · replace h := h.1 z13
          refine g_iconst (pc := 43) C dX7_readTerm_43 (v := 0) rfl ?_
          exact g_zret (pc := 44) C hlk hr (Nat.le_refl _) (Nat.le_refl _) dX7_readTerm_44 (Or.inl rfl) h
        · replace h := h.2 z13
          refine g_aload_n (pc := 35) C dX7_readTerm_35 (q := 0) rfl ?_
          refine g_iload_n (pc := 36) C dX7_readTerm_36 (q := 1) rfl ?_
          obtain ⟨k14, h⟩ := h
          refine miRX7_194 (pc := 37) C k14 (hP0 _ _ _ _ h) (Nat.le_refl _) (Nat.le_of_ble_eq_true rfl) ⟨Nat.le_refl _, Nat.le_refl _⟩ dX7_readTerm_37 (fun r15 w16 h => ?_)
          refine g_if_ne (pc := 40) C dX7_readTerm_40 (tgt := 45) rfl (fun z17 => ?_) (fun z17 => ?_)
          · replace h := h.2 z17
            refine g_aload_n (pc := 45) C dX7_readTerm_45 (q := 0) rfl ?_
            refine g_sipush (pc := 46) C dX7_readTerm_46 (v := 2002) rfl ?_
            obtain ⟨k18, h⟩ := h
            refine miX7_167 (pc := 49) C k18 h (Nat.le_trans (Nat.le_of_ble_eq_true rfl) (Nat.succ_le_succ hd0)) (Nat.le_of_ble_eq_true rfl) ⟨Nat.le_refl _, Nat.le_refl _⟩ dX7_readTerm_49 (fun w19 h => ?_)
            refine g_iinc (pc := 52) C dX7_readTerm_52 (q := 2) rfl (v2 := a2 + 1) rfl (Nat.le_of_ble_eq_true rfl) (lo' := [(2, .int (a2 + 1)), (0, .ref (adr x a0)), (1, .int a1)]) rfl ?_
            refine g_goto (pc := 55) C dX7_readTerm_55 (tgt := 12) rfl ?_
            refine g_sub [1, 2, 0] rfl ?_
            exact ih _ _ _ _ h
          · replace h := h.1 z17
            refine g_iconst (pc := 43) C dX7_readTerm_43 (v := 0) rfl ?_
            exact g_zret (pc := 44) C hlk hr (Nat.le_refl _) (Nat.le_refl _) dX7_readTerm_44 (Or.inl rfl) h
theorem t_X7_readTerm (C : xC x p s m c cX7_readTerm 3 args RX7) (hlk : meth.locks = false) (hr : meth.sig.returnType = some .boolean) {K : Int32 → Wd → Prop} {d : Nat} (hd0 : 9 ≤ d) {P : Nat → Nat → Int32 → (Int32 → Wd → Prop) → Wd → Prop} (hP0 : ∀ (q0 : Nat) (q1 : Int32) (K : Int32 → Wd → Prop) (w : Wd), P 0 q0 q1 K w → Met l yX7_readAtom (xws yX7_readAtom cX7_readAtom 3 (some .boolean)) (rmd d 0 0) (xPc x [.ref (adr x q0), .int q1] w) (QcI x K) 0 0 (xA x)) (hP1 : ∀ (q0 : Nat) (q1 : Int32) (K : Int32 → Wd → Prop) (w : Wd), P 1 q0 q1 K w → Met l yX7_readSum (xws yX7_readSum cX7_readSum 4 (some .boolean)) (rmd d 0 0) (xPc x [.ref (adr x q0), .int q1] w) (QcI x K) 0 0 (xA x)) (hP2 : ∀ (q0 : Nat) (q1 : Int32) (K : Int32 → Wd → Prop) (w : Wd), P 2 q0 q1 K w → Met l yX7_readTerm (xws yX7_readTerm cX7_readTerm 3 (some .boolean)) (rmd d 0 0) (xPc x [.ref (adr x q0), .int q1] w) (QcI x K) 0 0 (xA x)) (a0 : Nat) (a1 : Int32) (w : Wd) (h : b_X7_readTerm P a0 a1 K w) : GW x p l e (rmd (d + 1) 0 0) s m args below meth c 3 (QI x K below args s 0 0) 0 (lv_args 0 [.ref (adr x a0), .int a1]) [] w 0 0 := by
  show GW x p l e (rmd (d + 1) 0 0) s m args below meth c 3 (QI x K below args s 0 0) 0 [(0, .ref (adr x a0)), (1, .int a1)] [] w 0 0
  refine g_aload_n (pc := 0) C dX7_readTerm_0 (q := 0) rfl ?_
  refine g_iload_n (pc := 1) C dX7_readTerm_1 (q := 1) rfl ?_
  obtain ⟨k1, h⟩ := h
  refine miRX7_194 (pc := 2) C k1 (hP0 _ _ _ _ h) (Nat.le_refl _) (Nat.le_of_ble_eq_true rfl) ⟨Nat.le_refl _, Nat.le_refl _⟩ dX7_readTerm_2 (fun r2 w3 h => ?_)
  refine g_if_ne (pc := 5) C dX7_readTerm_5 (tgt := 10) rfl (fun z4 => ?_) (fun z4 => ?_)
  · replace h := h.2 z4
    refine g_iconst (pc := 10) C dX7_readTerm_10 (v := 0) rfl ?_
    refine g_istore_n (pc := 11) C dX7_readTerm_11 (Nat.le_of_ble_eq_true rfl) (lo' := [(2, .int 0), (0, .ref (adr x a0)), (1, .int a1)]) rfl ?_
    obtain ⟨n20, h⟩ := h
    refine g_sub [1, 2, 0] rfl ?_
    refine t_X7_readTerm_12 C hlk hr hd0 hP0 hP1 hP2 n20 _ _ _ _ h
  · replace h := h.1 z4
    refine g_iconst (pc := 8) C dX7_readTerm_8 (v := 0) rfl ?_
    exact g_zret (pc := 9) C hlk hr (Nat.le_refl _) (Nat.le_refl _) dX7_readTerm_9 (Or.inl rfl) h
def wG_X7_readAtom : Nat → Nat → Nat → Int32 → (Int32 → Wd → Prop) → Wd → Prop
  | 0, _, _, _, _, _ => False
  | n + 1, q, a0, a1, K, w => if q = 0 then b_X7_readAtom (wG_X7_readAtom n) a0 a1 K w else if q = 1 then b_X7_readSum (wG_X7_readAtom n) a0 a1 K w else b_X7_readTerm (wG_X7_readAtom n) a0 a1 K w
theorem cG_X7_readAtom {x : xG} {l : Launch} : ∀ (n d : Nat), 9 + n ≤ d → (∀ (a0 : Nat) (a1 : Int32) (K : Int32 → Wd → Prop) (w : Wd), wG_X7_readAtom n 0 a0 a1 K w → Met l yX7_readAtom (xws yX7_readAtom cX7_readAtom 3 (some .boolean)) (rmd d 0 0) (xPc x [.ref (adr x a0), .int a1] w) (QcI x K) 0 0 (xA x)) ∧ (∀ (a0 : Nat) (a1 : Int32) (K : Int32 → Wd → Prop) (w : Wd), wG_X7_readAtom n 1 a0 a1 K w → Met l yX7_readSum (xws yX7_readSum cX7_readSum 4 (some .boolean)) (rmd d 0 0) (xPc x [.ref (adr x a0), .int a1] w) (QcI x K) 0 0 (xA x)) ∧ (∀ (a0 : Nat) (a1 : Int32) (K : Int32 → Wd → Prop) (w : Wd), wG_X7_readAtom n 2 a0 a1 K w → Met l yX7_readTerm (xws yX7_readTerm cX7_readTerm 3 (some .boolean)) (rmd d 0 0) (xPc x [.ref (adr x a0), .int a1] w) (QcI x K) 0 0 (xA x)) := by
  intro n
  induction n with
  | zero => intro d _; exact ⟨fun _ _ _ _ h => False.elim h, fun _ _ _ _ h => False.elim h, fun _ _ _ _ h => False.elim h⟩
  | succ n ih =>
    intro d hd
    obtain ⟨d, rfl⟩ : ∃ d0, d = d0 + 1 := ⟨d - 1, by omega⟩
    have hd0 : 9 ≤ d := by omega
    have hp := ih d (by omega)
    obtain ⟨hP0, hP1, hP2⟩ := hp
    refine ⟨?_, ?_, ?_⟩
    · intro a0 a1 K w h
      replace h : b_X7_readAtom (wG_X7_readAtom n) a0 a1 K w := h
      exact xMet (by decide) (Nat.le_of_ble_eq_true rfl) (fun p e s m below meth c C hlk hr _ => t_X7_readAtom C hlk hr hd0 hP0 hP1 hP2 a0 a1 w h)
    · intro a0 a1 K w h
      replace h : b_X7_readSum (wG_X7_readAtom n) a0 a1 K w := h
      exact xMet (by decide) (Nat.le_of_ble_eq_true rfl) (fun p e s m below meth c C hlk hr _ => t_X7_readSum C hlk hr hd0 hP0 hP1 hP2 a0 a1 w h)
    · intro a0 a1 K w h
      replace h : b_X7_readTerm (wG_X7_readAtom n) a0 a1 K w := h
      exact xMet (by decide) (Nat.le_of_ble_eq_true rfl) (fun p e s m below meth c C hlk hr _ => t_X7_readTerm C hlk hr hd0 hP0 hP1 hP2 a0 a1 w h)
def w_X7_readAtom (a0 : Nat) (a1 : Int32) (K : Int32 → Wd → Prop) (w : Wd) : Prop := ∃ n, n ≤ 100 ∧ wG_X7_readAtom n 0 a0 a1 K w
theorem c_X7_readAtom {x : xG} {l : Launch} {a0 : Nat} {a1 : Int32} {K : Int32 → Wd → Prop} {w : Wd} (h : w_X7_readAtom a0 a1 K w) : Met l yX7_readAtom (xws yX7_readAtom cX7_readAtom 3 (some .boolean)) (rmd 109 0 0) (xPc x [.ref (adr x a0), .int a1] w) (QcI x K) 0 0 (xA x) := by
  obtain ⟨n, hn, h⟩ := h
  exact (cG_X7_readAtom n 109 (by omega)).1 _ _ K w h
def w_X7_readSum (a0 : Nat) (a1 : Int32) (K : Int32 → Wd → Prop) (w : Wd) : Prop := ∃ n, n ≤ 100 ∧ wG_X7_readAtom n 1 a0 a1 K w
theorem c_X7_readSum {x : xG} {l : Launch} {a0 : Nat} {a1 : Int32} {K : Int32 → Wd → Prop} {w : Wd} (h : w_X7_readSum a0 a1 K w) : Met l yX7_readSum (xws yX7_readSum cX7_readSum 4 (some .boolean)) (rmd 109 0 0) (xPc x [.ref (adr x a0), .int a1] w) (QcI x K) 0 0 (xA x) := by
  obtain ⟨n, hn, h⟩ := h
  exact (cG_X7_readAtom n 109 (by omega)).2.1 _ _ K w h
def w_X7_readTerm (a0 : Nat) (a1 : Int32) (K : Int32 → Wd → Prop) (w : Wd) : Prop := ∃ n, n ≤ 100 ∧ wG_X7_readAtom n 2 a0 a1 K w
theorem c_X7_readTerm {x : xG} {l : Launch} {a0 : Nat} {a1 : Int32} {K : Int32 → Wd → Prop} {w : Wd} (h : w_X7_readTerm a0 a1 K w) : Met l yX7_readTerm (xws yX7_readTerm cX7_readTerm 3 (some .boolean)) (rmd 109 0 0) (xPc x [.ref (adr x a0), .int a1] w) (QcI x K) 0 0 (xA x) := by
  obtain ⟨n, hn, h⟩ := h
  exact (cG_X7_readAtom n 109 (by omega)).2.2 _ _ K w h
theorem miRX7_171 (C : xC x p s m c cc nL args RX7) {a0 : Nat} {a1 : Int32} {K : Int32 → Wd → Prop} {D MC MS : Nat} (hq : isK w a0 7) {d : Nat} (h : Met l yX7_readUnit (xws yX7_readUnit cX7_readUnit 3 (some .boolean)) (rmd d 0 0) (xPc x [.ref (adr x a0), .int a1] w) (QcI x K) 0 0 (xA x)) (hD : d + 1 ≤ D) (hW : (st.map fun v => v.category).sum ≤ 8) (hij : i ≤ MC ∧ j ≤ MS) (hd : decode cc pc = .ok (.invokevirtual 171, 3)) (k : ∀ (r : Int32) (u : Wd), K r u → GW x p l e (rmd D MC MS) s m args below meth c nL Q (pc + 3) lo (.int r :: st) u i j) : GW x p l e (rmd D MC MS) s m args below meth c nL Q pc lo (.int a1 :: .ref (adr x a0) :: st) w i j := g_callVi0 C (As := [.int a1]) (ci := 7) h (x_cwV C 1 LMX7_171 ⟨rfl, by decide, by decide, rfl⟩ hD (by decide)) rfl hq (by decide) rfl rfl hW hd hij k
theorem miRX7_162 (C : xC x p s m c cc nL args RX7) {a0 : Nat} {a1 : Int32} {K : Int32 → Wd → Prop} {D MC MS : Nat} (hq : isK w a0 7) {d : Nat} (h : Met l yX7_readBoth (xws yX7_readBoth cX7_readBoth 3 (some .boolean)) (rmd d 0 0) (xPc x [.ref (adr x a0), .int a1] w) (QcI x K) 0 0 (xA x)) (hD : d + 1 ≤ D) (hW : (st.map fun v => v.category).sum ≤ 8) (hij : i ≤ MC ∧ j ≤ MS) (hd : decode cc pc = .ok (.invokevirtual 162, 3)) (k : ∀ (r : Int32) (u : Wd), K r u → GW x p l e (rmd D MC MS) s m args below meth c nL Q (pc + 3) lo (.int r :: st) u i j) : GW x p l e (rmd D MC MS) s m args below meth c nL Q pc lo (.int a1 :: .ref (adr x a0) :: st) w i j := g_callVi0 C (As := [.int a1]) (ci := 7) h (x_cwV C 1 LMX7_162 ⟨rfl, by decide, by decide, rfl⟩ hD (by decide)) rfl hq (by decide) rfl rfl hW hd hij k
theorem miX7_184 (C : xC x p s m c cc nL args RX7) {a0 : Nat} {a1 : Int32} {K : Int32 → Wd → Prop} {D MC MS : Nat} (hq : isK w a0 7) (h : w_X7_readSum a0 a1 K w) (hD : 109 + 1 ≤ D) (hW : (st.map fun v => v.category).sum ≤ 8) (hij : i ≤ MC ∧ j ≤ MS) (hd : decode cc pc = .ok (.invokevirtual 184, 3)) (k : ∀ (r : Int32) (u : Wd), K r u → GW x p l e (rmd D MC MS) s m args below meth c nL Q (pc + 3) lo (.int r :: st) u i j) : GW x p l e (rmd D MC MS) s m args below meth c nL Q pc lo (.int a1 :: .ref (adr x a0) :: st) w i j := g_callVi0 C (As := [.int a1]) (ci := 7) (c_X7_readSum h) (x_cwV C 1 LMX7_184 ⟨rfl, by decide, by decide, rfl⟩ hD (by decide)) rfl hq (by decide) rfl rfl hW hd hij k
theorem miX7_187 (C : xC x p s m c cc nL args RX7) {a0 : Nat} {K : Int32 → Wd → Prop} {D MC MS : Nat} (hq : isK w a0 7) (h : w_X7_comparisonHere a0 K w) (hD : 2 + 1 ≤ D) (hW : (st.map fun v => v.category).sum ≤ 8) (hij : i ≤ MC ∧ j ≤ MS) (hd : decode cc pc = .ok (.invokevirtual 187, 3)) (k : ∀ (r : Int32) (u : Wd), K r u → GW x p l e (rmd D MC MS) s m args below meth c nL Q (pc + 3) lo (.int r :: st) u i j) : GW x p l e (rmd D MC MS) s m args below meth c nL Q pc lo (.ref (adr x a0) :: st) w i j := g_callVi0 C (As := []) (ci := 7) (c_X7_comparisonHere h) (x_cwV C 0 LMX7_187 ⟨rfl, by decide, by decide, rfl⟩ hD (by decide)) rfl hq (by decide) rfl rfl hW hd hij k
theorem miRX7_150 (C : xC x p s m c cc nL args RX7) {a0 : Nat} {a1 : Int32} {K : Int32 → Wd → Prop} {D MC MS : Nat} (hq : isK w a0 7) {d : Nat} (h : Met l yX7_readTruth (xws yX7_readTruth cX7_readTruth 3 (some .boolean)) (rmd d 0 0) (xPc x [.ref (adr x a0), .int a1] w) (QcI x K) 0 0 (xA x)) (hD : d + 1 ≤ D) (hW : (st.map fun v => v.category).sum ≤ 8) (hij : i ≤ MC ∧ j ≤ MS) (hd : decode cc pc = .ok (.invokevirtual 150, 3)) (k : ∀ (r : Int32) (u : Wd), K r u → GW x p l e (rmd D MC MS) s m args below meth c nL Q (pc + 3) lo (.int r :: st) u i j) : GW x p l e (rmd D MC MS) s m args below meth c nL Q pc lo (.int a1 :: .ref (adr x a0) :: st) w i j := g_callVi0 C (As := [.int a1]) (ci := 7) h (x_cwV C 1 LMX7_150 ⟨rfl, by decide, by decide, rfl⟩ hD (by decide)) rfl hq (by decide) rfl rfl hW hd hij k
def l_X7_readBoth_12 (P : Nat → Nat → Int32 → (Int32 → Wd → Prop) → Wd → Prop)  (K : Int32 → Wd → Prop) : Nat → Nat → Int32 → Int32 → Wd → Prop
  | 0, _, _, _, _ => False
  | n + 1, a0, a1, a2, w => ((900 ≤ a2 → K 1 w) ∧ (¬ 900 ≤ a2 → isK w a0 7 ∧ w_X7_isWord a0 22 (fun r7 w8 => ((r7 = 0 → K 1 w8) ∧ (¬ r7 = 0 → isK w8 a0 7 ∧ w_X7_advance a0 (fun r11 w12 => ((r11 = 0 → K 0 w12) ∧ (¬ r11 = 0 → isK w12 a0 7 ∧ P 2 a0 a1 (fun r15 w16 => ((r15 = 0 → K 0 w16) ∧ (¬ r15 = 0 → isK w16 a0 7 ∧ w_X7_emit a0 2006 (fun w19 => l_X7_readBoth_12 P K n a0 a1 (a2 + 1) w19) w16))) w12))) w8))) w))
def b_X7_readBoth (P : Nat → Nat → Int32 → (Int32 → Wd → Prop) → Wd → Prop) (a0 : Nat) (a1 : Int32) (K : Int32 → Wd → Prop) (w : Wd) : Prop :=
  isK w a0 7 ∧ P 2 a0 a1 (fun r2 w3 => ((r2 = 0 → K 0 w3) ∧ (¬ r2 = 0 → ∃ n20, l_X7_readBoth_12 P  K n20 a0 a1 0 w3))) w
def l_X7_readTruth_12 (P : Nat → Nat → Int32 → (Int32 → Wd → Prop) → Wd → Prop)  (K : Int32 → Wd → Prop) : Nat → Nat → Int32 → Int32 → Wd → Prop
  | 0, _, _, _, _ => False
  | n + 1, a0, a1, a2, w => ((900 ≤ a2 → K 1 w) ∧ (¬ 900 ≤ a2 → isK w a0 7 ∧ w_X7_isWord a0 23 (fun r7 w8 => ((r7 = 0 → K 1 w8) ∧ (¬ r7 = 0 → isK w8 a0 7 ∧ w_X7_advance a0 (fun r11 w12 => ((r11 = 0 → K 0 w12) ∧ (¬ r11 = 0 → isK w12 a0 7 ∧ P 0 a0 a1 (fun r15 w16 => ((r15 = 0 → K 0 w16) ∧ (¬ r15 = 0 → isK w16 a0 7 ∧ w_X7_emit a0 2007 (fun w19 => l_X7_readTruth_12 P K n a0 a1 (a2 + 1) w19) w16))) w12))) w8))) w))
def b_X7_readTruth (P : Nat → Nat → Int32 → (Int32 → Wd → Prop) → Wd → Prop) (a0 : Nat) (a1 : Int32) (K : Int32 → Wd → Prop) (w : Wd) : Prop :=
  isK w a0 7 ∧ P 0 a0 a1 (fun r2 w3 => ((r2 = 0 → K 0 w3) ∧ (¬ r2 = 0 → ∃ n20, l_X7_readTruth_12 P  K n20 a0 a1 0 w3))) w
def b_X7_readUnit (P : Nat → Nat → Int32 → (Int32 → Wd → Prop) → Wd → Prop) (a0 : Nat) (a1 : Int32) (K : Int32 → Wd → Prop) (w : Wd) : Prop :=
  isK w a0 7 ∧ w_X7_isWord a0 13 (fun r2 w3 => ((r2 = 0 → isK w3 a0 7 ∧ w_X7_isSign a0 91 (fun r6 w7 => ((r6 = 0 → isK w7 a0 7 ∧ w_X7_readSum a0 a1 (fun r10 w11 => ((r10 = 0 → K 0 w11) ∧ (¬ r10 = 0 → isK w11 a0 7 ∧ w_X7_comparisonHere a0 (fun r14 w15 => ((r14 = 0 → isK w15 a0 7 ∧ w_X7_refuse a0 2 (fun r28 w29 => (r28 = 0 ∨ r28 = 1) ∧ K r28 w29) w15) ∧ (¬ r14 = 0 → isK w15 a0 7 ∧ w_X7_advance a0 (fun r18 w19 => ((r18 = 0 → K 0 w19) ∧ (¬ r18 = 0 → isK w19 a0 7 ∧ w_X7_readSum a0 a1 (fun r22 w23 => ((r22 = 0 → K 0 w23) ∧ (¬ r22 = 0 → isK w23 a0 7 ∧ w_X7_emit a0 r14 (fun w26 => K 1 w26) w23))) w19))) w15))) w11))) w7) ∧ (¬ r6 = 0 → isK w7 a0 7 ∧ w_X7_mayNest a0 a1 (fun r31 w32 => ((r31 = 0 → K 0 w32) ∧ (¬ r31 = 0 → isK w32 a0 7 ∧ w_X7_advance a0 (fun r35 w36 => ((r35 = 0 → K 0 w36) ∧ (¬ r35 = 0 → isK w36 a0 7 ∧ P 1 a0 (a1 + 1) (fun r39 w40 => ((r39 = 0 → K 0 w40) ∧ (¬ r39 = 0 → isK w40 a0 7 ∧ w_X7_expectSign a0 93 (fun r43 w44 => ((r43 = 0 → K 0 w44) ∧ (¬ r43 = 0 → K 1 w44))) w40))) w36))) w32))) w7))) w3) ∧ (¬ r2 = 0 → isK w3 a0 7 ∧ w_X7_mayNest a0 a1 (fun r47 w48 => ((r47 = 0 → K 0 w48) ∧ (¬ r47 = 0 → isK w48 a0 7 ∧ w_X7_advance a0 (fun r51 w52 => ((r51 = 0 → K 0 w52) ∧ (¬ r51 = 0 → isK w52 a0 7 ∧ P 2 a0 (a1 + 1) (fun r55 w56 => ((r55 = 0 → K 0 w56) ∧ (¬ r55 = 0 → isK w56 a0 7 ∧ w_X7_emit a0 2008 (fun w59 => K 1 w59) w56))) w52))) w48))) w3))) w
theorem t_X7_readBoth_12 (C : xC x p s m c cX7_readBoth 3 args RX7) (hlk : meth.locks = false) (hr : meth.sig.returnType = some .boolean) {K : Int32 → Wd → Prop} {d : Nat} (hd0 : 110 ≤ d) {P : Nat → Nat → Int32 → (Int32 → Wd → Prop) → Wd → Prop} (hP0 : ∀ (q0 : Nat) (q1 : Int32) (K : Int32 → Wd → Prop) (w : Wd), P 0 q0 q1 K w → Met l yX7_readBoth (xws yX7_readBoth cX7_readBoth 3 (some .boolean)) (rmd d 0 0) (xPc x [.ref (adr x q0), .int q1] w) (QcI x K) 0 0 (xA x)) (hP1 : ∀ (q0 : Nat) (q1 : Int32) (K : Int32 → Wd → Prop) (w : Wd), P 1 q0 q1 K w → Met l yX7_readTruth (xws yX7_readTruth cX7_readTruth 3 (some .boolean)) (rmd d 0 0) (xPc x [.ref (adr x q0), .int q1] w) (QcI x K) 0 0 (xA x)) (hP2 : ∀ (q0 : Nat) (q1 : Int32) (K : Int32 → Wd → Prop) (w : Wd), P 2 q0 q1 K w → Met l yX7_readUnit (xws yX7_readUnit cX7_readUnit 3 (some .boolean)) (rmd d 0 0) (xPc x [.ref (adr x q0), .int q1] w) (QcI x K) 0 0 (xA x))   : ∀ (n : Nat) (a0 : Nat) (a1 : Int32) (a2 : Int32) (w : Wd), l_X7_readBoth_12 P K n a0 a1 a2 w → GW x p l e (rmd (d + 1) 0 0) s m args below meth c 3 (QI x K below args s 0 0) 12 [(0, .ref (adr x a0)), (1, .int a1), (2, .int a2)] [] w 0 0 := by
  intro n
  induction n with
  | zero => intro _ _ _ _ h; exact False.elim h
  | succ n ih =>
    intro a0 a1 a2 w h
    refine g_iload_n (pc := 12) C dX7_readBoth_12 (q := 2) rfl ?_
    refine g_sipush (pc := 13) C dX7_readBoth_13 (v := 900) rfl ?_
    refine g_icmp_ge (pc := 16) C dX7_readBoth_16 (tgt := 58) rfl (fun z5 => ?_) (fun z5 => ?_)
    · replace h := h.1 z5
      refine g_iconst (pc := 58) C dX7_readBoth_58 (v := 1) rfl ?_
      exact g_zret (pc := 59) C hlk hr (Nat.le_refl _) (Nat.le_refl _) dX7_readBoth_59 (Or.inr rfl) h
    · replace h := h.2 z5
      refine g_aload_n (pc := 19) C dX7_readBoth_19 (q := 0) rfl ?_
      refine g_ldcS (pc := 20) C (q := 20) (k0 := 20) rfl (Nat.le_of_ble_eq_true rfl) dX7_readBoth_20 ?_
      obtain ⟨k6, h⟩ := h
      refine miX7_73 (pc := 22) C k6 h (Nat.le_trans (Nat.le_of_ble_eq_true rfl) (Nat.succ_le_succ hd0)) (Nat.le_of_ble_eq_true rfl) ⟨Nat.le_refl _, Nat.le_refl _⟩ dX7_readBoth_22 (fun r7 w8 h => ?_)
      refine g_if_eq (pc := 25) C dX7_readBoth_25 (tgt := 58) rfl (fun z9 => ?_) (fun z9 => ?_)
      · replace h := h.1 z9
        refine g_iconst (pc := 58) C dX7_readBoth_58 (v := 1) rfl ?_
        exact g_zret (pc := 59) C hlk hr (Nat.le_refl _) (Nat.le_refl _) dX7_readBoth_59 (Or.inr rfl) h
      · replace h := h.2 z9
        refine g_aload_n (pc := 28) C dX7_readBoth_28 (q := 0) rfl ?_
        obtain ⟨k10, h⟩ := h
        refine miX7_57 (pc := 29) C k10 h (Nat.le_trans (Nat.le_of_ble_eq_true rfl) (Nat.succ_le_succ hd0)) (Nat.le_of_ble_eq_true rfl) ⟨Nat.le_refl _, Nat.le_refl _⟩ dX7_readBoth_29 (fun r11 w12 h => ?_)
        refine g_if_eq (pc := 32) C dX7_readBoth_32 (tgt := 43) rfl (fun z13 => ?_) (fun z13 => ?_)
        · replace h := h.1 z13
          refine g_iconst (pc := 43) C dX7_readBoth_43 (v := 0) rfl ?_
          exact g_zret (pc := 44) C hlk hr (Nat.le_refl _) (Nat.le_refl _) dX7_readBoth_44 (Or.inl rfl) h
        · replace h := h.2 z13
          refine g_aload_n (pc := 35) C dX7_readBoth_35 (q := 0) rfl ?_
          refine g_iload_n (pc := 36) C dX7_readBoth_36 (q := 1) rfl ?_
          obtain ⟨k14, h⟩ := h
          refine miRX7_171 (pc := 37) C k14 (hP2 _ _ _ _ h) (Nat.le_refl _) (Nat.le_of_ble_eq_true rfl) ⟨Nat.le_refl _, Nat.le_refl _⟩ dX7_readBoth_37 (fun r15 w16 h => ?_)
          refine g_if_ne (pc := 40) C dX7_readBoth_40 (tgt := 45) rfl (fun z17 => ?_) (fun z17 => ?_)
          · replace h := h.2 z17
            refine g_aload_n (pc := 45) C dX7_readBoth_45 (q := 0) rfl ?_
            refine g_sipush (pc := 46) C dX7_readBoth_46 (v := 2006) rfl ?_
            obtain ⟨k18, h⟩ := h
            refine miX7_167 (pc := 49) C k18 h (Nat.le_trans (Nat.le_of_ble_eq_true rfl) (Nat.succ_le_succ hd0)) (Nat.le_of_ble_eq_true rfl) ⟨Nat.le_refl _, Nat.le_refl _⟩ dX7_readBoth_49 (fun w19 h => ?_)
            refine g_iinc (pc := 52) C dX7_readBoth_52 (q := 2) rfl (v2 := a2 + 1) rfl (Nat.le_of_ble_eq_true rfl) (lo' := [(2, .int (a2 + 1)), (0, .ref (adr x a0)), (1, .int a1)]) rfl ?_
            refine g_goto (pc := 55) C dX7_readBoth_55 (tgt := 12) rfl ?_
            refine g_sub [1, 2, 0] rfl ?_
            exact ih _ _ _ _ h
          · replace h := h.1 z17
            refine g_iconst (pc := 43) C dX7_readBoth_43 (v := 0) rfl ?_
            exact g_zret (pc := 44) C hlk hr (Nat.le_refl _) (Nat.le_refl _) dX7_readBoth_44 (Or.inl rfl) h
theorem t_X7_readBoth (C : xC x p s m c cX7_readBoth 3 args RX7) (hlk : meth.locks = false) (hr : meth.sig.returnType = some .boolean) {K : Int32 → Wd → Prop} {d : Nat} (hd0 : 110 ≤ d) {P : Nat → Nat → Int32 → (Int32 → Wd → Prop) → Wd → Prop} (hP0 : ∀ (q0 : Nat) (q1 : Int32) (K : Int32 → Wd → Prop) (w : Wd), P 0 q0 q1 K w → Met l yX7_readBoth (xws yX7_readBoth cX7_readBoth 3 (some .boolean)) (rmd d 0 0) (xPc x [.ref (adr x q0), .int q1] w) (QcI x K) 0 0 (xA x)) (hP1 : ∀ (q0 : Nat) (q1 : Int32) (K : Int32 → Wd → Prop) (w : Wd), P 1 q0 q1 K w → Met l yX7_readTruth (xws yX7_readTruth cX7_readTruth 3 (some .boolean)) (rmd d 0 0) (xPc x [.ref (adr x q0), .int q1] w) (QcI x K) 0 0 (xA x)) (hP2 : ∀ (q0 : Nat) (q1 : Int32) (K : Int32 → Wd → Prop) (w : Wd), P 2 q0 q1 K w → Met l yX7_readUnit (xws yX7_readUnit cX7_readUnit 3 (some .boolean)) (rmd d 0 0) (xPc x [.ref (adr x q0), .int q1] w) (QcI x K) 0 0 (xA x)) (a0 : Nat) (a1 : Int32) (w : Wd) (h : b_X7_readBoth P a0 a1 K w) : GW x p l e (rmd (d + 1) 0 0) s m args below meth c 3 (QI x K below args s 0 0) 0 (lv_args 0 [.ref (adr x a0), .int a1]) [] w 0 0 := by
  show GW x p l e (rmd (d + 1) 0 0) s m args below meth c 3 (QI x K below args s 0 0) 0 [(0, .ref (adr x a0)), (1, .int a1)] [] w 0 0
  refine g_aload_n (pc := 0) C dX7_readBoth_0 (q := 0) rfl ?_
  refine g_iload_n (pc := 1) C dX7_readBoth_1 (q := 1) rfl ?_
  obtain ⟨k1, h⟩ := h
  refine miRX7_171 (pc := 2) C k1 (hP2 _ _ _ _ h) (Nat.le_refl _) (Nat.le_of_ble_eq_true rfl) ⟨Nat.le_refl _, Nat.le_refl _⟩ dX7_readBoth_2 (fun r2 w3 h => ?_)
  refine g_if_ne (pc := 5) C dX7_readBoth_5 (tgt := 10) rfl (fun z4 => ?_) (fun z4 => ?_)
  · replace h := h.2 z4
    refine g_iconst (pc := 10) C dX7_readBoth_10 (v := 0) rfl ?_
    refine g_istore_n (pc := 11) C dX7_readBoth_11 (Nat.le_of_ble_eq_true rfl) (lo' := [(2, .int 0), (0, .ref (adr x a0)), (1, .int a1)]) rfl ?_
    obtain ⟨n20, h⟩ := h
    refine g_sub [1, 2, 0] rfl ?_
    refine t_X7_readBoth_12 C hlk hr hd0 hP0 hP1 hP2 n20 _ _ _ _ h
  · replace h := h.1 z4
    refine g_iconst (pc := 8) C dX7_readBoth_8 (v := 0) rfl ?_
    exact g_zret (pc := 9) C hlk hr (Nat.le_refl _) (Nat.le_refl _) dX7_readBoth_9 (Or.inl rfl) h
theorem t_X7_readTruth_12 (C : xC x p s m c cX7_readTruth 3 args RX7) (hlk : meth.locks = false) (hr : meth.sig.returnType = some .boolean) {K : Int32 → Wd → Prop} {d : Nat} (hd0 : 110 ≤ d) {P : Nat → Nat → Int32 → (Int32 → Wd → Prop) → Wd → Prop} (hP0 : ∀ (q0 : Nat) (q1 : Int32) (K : Int32 → Wd → Prop) (w : Wd), P 0 q0 q1 K w → Met l yX7_readBoth (xws yX7_readBoth cX7_readBoth 3 (some .boolean)) (rmd d 0 0) (xPc x [.ref (adr x q0), .int q1] w) (QcI x K) 0 0 (xA x)) (hP1 : ∀ (q0 : Nat) (q1 : Int32) (K : Int32 → Wd → Prop) (w : Wd), P 1 q0 q1 K w → Met l yX7_readTruth (xws yX7_readTruth cX7_readTruth 3 (some .boolean)) (rmd d 0 0) (xPc x [.ref (adr x q0), .int q1] w) (QcI x K) 0 0 (xA x)) (hP2 : ∀ (q0 : Nat) (q1 : Int32) (K : Int32 → Wd → Prop) (w : Wd), P 2 q0 q1 K w → Met l yX7_readUnit (xws yX7_readUnit cX7_readUnit 3 (some .boolean)) (rmd d 0 0) (xPc x [.ref (adr x q0), .int q1] w) (QcI x K) 0 0 (xA x))   : ∀ (n : Nat) (a0 : Nat) (a1 : Int32) (a2 : Int32) (w : Wd), l_X7_readTruth_12 P K n a0 a1 a2 w → GW x p l e (rmd (d + 1) 0 0) s m args below meth c 3 (QI x K below args s 0 0) 12 [(0, .ref (adr x a0)), (1, .int a1), (2, .int a2)] [] w 0 0 := by
  intro n
  induction n with
  | zero => intro _ _ _ _ h; exact False.elim h
  | succ n ih =>
    intro a0 a1 a2 w h
    refine g_iload_n (pc := 12) C dX7_readTruth_12 (q := 2) rfl ?_
    refine g_sipush (pc := 13) C dX7_readTruth_13 (v := 900) rfl ?_
    refine g_icmp_ge (pc := 16) C dX7_readTruth_16 (tgt := 58) rfl (fun z5 => ?_) (fun z5 => ?_)
    · replace h := h.1 z5
      refine g_iconst (pc := 58) C dX7_readTruth_58 (v := 1) rfl ?_
      exact g_zret (pc := 59) C hlk hr (Nat.le_refl _) (Nat.le_refl _) dX7_readTruth_59 (Or.inr rfl) h
    · replace h := h.2 z5
      refine g_aload_n (pc := 19) C dX7_readTruth_19 (q := 0) rfl ?_
      refine g_ldcS (pc := 20) C (q := 21) (k0 := 21) rfl (Nat.le_of_ble_eq_true rfl) dX7_readTruth_20 ?_
      obtain ⟨k6, h⟩ := h
      refine miX7_73 (pc := 22) C k6 h (Nat.le_trans (Nat.le_of_ble_eq_true rfl) (Nat.succ_le_succ hd0)) (Nat.le_of_ble_eq_true rfl) ⟨Nat.le_refl _, Nat.le_refl _⟩ dX7_readTruth_22 (fun r7 w8 h => ?_)
      refine g_if_eq (pc := 25) C dX7_readTruth_25 (tgt := 58) rfl (fun z9 => ?_) (fun z9 => ?_)
      · replace h := h.1 z9
        refine g_iconst (pc := 58) C dX7_readTruth_58 (v := 1) rfl ?_
        exact g_zret (pc := 59) C hlk hr (Nat.le_refl _) (Nat.le_refl _) dX7_readTruth_59 (Or.inr rfl) h
      · replace h := h.2 z9
        refine g_aload_n (pc := 28) C dX7_readTruth_28 (q := 0) rfl ?_
        obtain ⟨k10, h⟩ := h
        refine miX7_57 (pc := 29) C k10 h (Nat.le_trans (Nat.le_of_ble_eq_true rfl) (Nat.succ_le_succ hd0)) (Nat.le_of_ble_eq_true rfl) ⟨Nat.le_refl _, Nat.le_refl _⟩ dX7_readTruth_29 (fun r11 w12 h => ?_)
        refine g_if_eq (pc := 32) C dX7_readTruth_32 (tgt := 43) rfl (fun z13 => ?_) (fun z13 => ?_)
        · replace h := h.1 z13
          refine g_iconst (pc := 43) C dX7_readTruth_43 (v := 0) rfl ?_
          exact g_zret (pc := 44) C hlk hr (Nat.le_refl _) (Nat.le_refl _) dX7_readTruth_44 (Or.inl rfl) h
        · replace h := h.2 z13
          refine g_aload_n (pc := 35) C dX7_readTruth_35 (q := 0) rfl ?_
          refine g_iload_n (pc := 36) C dX7_readTruth_36 (q := 1) rfl ?_
          obtain ⟨k14, h⟩ := h
          refine miRX7_162 (pc := 37) C k14 (hP0 _ _ _ _ h) (Nat.le_refl _) (Nat.le_of_ble_eq_true rfl) ⟨Nat.le_refl _, Nat.le_refl _⟩ dX7_readTruth_37 (fun r15 w16 h => ?_)
          refine g_if_ne (pc := 40) C dX7_readTruth_40 (tgt := 45) rfl (fun z17 => ?_) (fun z17 => ?_)
          · replace h := h.2 z17
            refine g_aload_n (pc := 45) C dX7_readTruth_45 (q := 0) rfl ?_
            refine g_sipush (pc := 46) C dX7_readTruth_46 (v := 2007) rfl ?_
            obtain ⟨k18, h⟩ := h
            refine miX7_167 (pc := 49) C k18 h (Nat.le_trans (Nat.le_of_ble_eq_true rfl) (Nat.succ_le_succ hd0)) (Nat.le_of_ble_eq_true rfl) ⟨Nat.le_refl _, Nat.le_refl _⟩ dX7_readTruth_49 (fun w19 h => ?_)
            refine g_iinc (pc := 52) C dX7_readTruth_52 (q := 2) rfl (v2 := a2 + 1) rfl (Nat.le_of_ble_eq_true rfl) (lo' := [(2, .int (a2 + 1)), (0, .ref (adr x a0)), (1, .int a1)]) rfl ?_
            refine g_goto (pc := 55) C dX7_readTruth_55 (tgt := 12) rfl ?_
            refine g_sub [1, 2, 0] rfl ?_
            exact ih _ _ _ _ h
          · replace h := h.1 z17
            refine g_iconst (pc := 43) C dX7_readTruth_43 (v := 0) rfl ?_
            exact g_zret (pc := 44) C hlk hr (Nat.le_refl _) (Nat.le_refl _) dX7_readTruth_44 (Or.inl rfl) h
theorem t_X7_readTruth (C : xC x p s m c cX7_readTruth 3 args RX7) (hlk : meth.locks = false) (hr : meth.sig.returnType = some .boolean) {K : Int32 → Wd → Prop} {d : Nat} (hd0 : 110 ≤ d) {P : Nat → Nat → Int32 → (Int32 → Wd → Prop) → Wd → Prop} (hP0 : ∀ (q0 : Nat) (q1 : Int32) (K : Int32 → Wd → Prop) (w : Wd), P 0 q0 q1 K w → Met l yX7_readBoth (xws yX7_readBoth cX7_readBoth 3 (some .boolean)) (rmd d 0 0) (xPc x [.ref (adr x q0), .int q1] w) (QcI x K) 0 0 (xA x)) (hP1 : ∀ (q0 : Nat) (q1 : Int32) (K : Int32 → Wd → Prop) (w : Wd), P 1 q0 q1 K w → Met l yX7_readTruth (xws yX7_readTruth cX7_readTruth 3 (some .boolean)) (rmd d 0 0) (xPc x [.ref (adr x q0), .int q1] w) (QcI x K) 0 0 (xA x)) (hP2 : ∀ (q0 : Nat) (q1 : Int32) (K : Int32 → Wd → Prop) (w : Wd), P 2 q0 q1 K w → Met l yX7_readUnit (xws yX7_readUnit cX7_readUnit 3 (some .boolean)) (rmd d 0 0) (xPc x [.ref (adr x q0), .int q1] w) (QcI x K) 0 0 (xA x)) (a0 : Nat) (a1 : Int32) (w : Wd) (h : b_X7_readTruth P a0 a1 K w) : GW x p l e (rmd (d + 1) 0 0) s m args below meth c 3 (QI x K below args s 0 0) 0 (lv_args 0 [.ref (adr x a0), .int a1]) [] w 0 0 := by
  show GW x p l e (rmd (d + 1) 0 0) s m args below meth c 3 (QI x K below args s 0 0) 0 [(0, .ref (adr x a0)), (1, .int a1)] [] w 0 0
  refine g_aload_n (pc := 0) C dX7_readTruth_0 (q := 0) rfl ?_
  refine g_iload_n (pc := 1) C dX7_readTruth_1 (q := 1) rfl ?_
  obtain ⟨k1, h⟩ := h
  refine miRX7_162 (pc := 2) C k1 (hP0 _ _ _ _ h) (Nat.le_refl _) (Nat.le_of_ble_eq_true rfl) ⟨Nat.le_refl _, Nat.le_refl _⟩ dX7_readTruth_2 (fun r2 w3 h => ?_)
  refine g_if_ne (pc := 5) C dX7_readTruth_5 (tgt := 10) rfl (fun z4 => ?_) (fun z4 => ?_)
  · replace h := h.2 z4
    refine g_iconst (pc := 10) C dX7_readTruth_10 (v := 0) rfl ?_
    refine g_istore_n (pc := 11) C dX7_readTruth_11 (Nat.le_of_ble_eq_true rfl) (lo' := [(2, .int 0), (0, .ref (adr x a0)), (1, .int a1)]) rfl ?_
    obtain ⟨n20, h⟩ := h
    refine g_sub [1, 2, 0] rfl ?_
    refine t_X7_readTruth_12 C hlk hr hd0 hP0 hP1 hP2 n20 _ _ _ _ h
  · replace h := h.1 z4
    refine g_iconst (pc := 8) C dX7_readTruth_8 (v := 0) rfl ?_
    exact g_zret (pc := 9) C hlk hr (Nat.le_refl _) (Nat.le_refl _) dX7_readTruth_9 (Or.inl rfl) h
theorem t_X7_readUnit (C : xC x p s m c cX7_readUnit 3 args RX7) (hlk : meth.locks = false) (hr : meth.sig.returnType = some .boolean) {K : Int32 → Wd → Prop} {d : Nat} (hd0 : 110 ≤ d) {P : Nat → Nat → Int32 → (Int32 → Wd → Prop) → Wd → Prop} (hP0 : ∀ (q0 : Nat) (q1 : Int32) (K : Int32 → Wd → Prop) (w : Wd), P 0 q0 q1 K w → Met l yX7_readBoth (xws yX7_readBoth cX7_readBoth 3 (some .boolean)) (rmd d 0 0) (xPc x [.ref (adr x q0), .int q1] w) (QcI x K) 0 0 (xA x)) (hP1 : ∀ (q0 : Nat) (q1 : Int32) (K : Int32 → Wd → Prop) (w : Wd), P 1 q0 q1 K w → Met l yX7_readTruth (xws yX7_readTruth cX7_readTruth 3 (some .boolean)) (rmd d 0 0) (xPc x [.ref (adr x q0), .int q1] w) (QcI x K) 0 0 (xA x)) (hP2 : ∀ (q0 : Nat) (q1 : Int32) (K : Int32 → Wd → Prop) (w : Wd), P 2 q0 q1 K w → Met l yX7_readUnit (xws yX7_readUnit cX7_readUnit 3 (some .boolean)) (rmd d 0 0) (xPc x [.ref (adr x q0), .int q1] w) (QcI x K) 0 0 (xA x)) (a0 : Nat) (a1 : Int32) (w : Wd) (h : b_X7_readUnit P a0 a1 K w) : GW x p l e (rmd (d + 1) 0 0) s m args below meth c 3 (QI x K below args s 0 0) 0 (lv_args 0 [.ref (adr x a0), .int a1]) [] w 0 0 := by
  show GW x p l e (rmd (d + 1) 0 0) s m args below meth c 3 (QI x K below args s 0 0) 0 [(0, .ref (adr x a0)), (1, .int a1)] [] w 0 0
  refine g_aload_n (pc := 0) C dX7_readUnit_0 (q := 0) rfl ?_
  refine g_ldcS (pc := 1) C (q := 11) (k0 := 11) rfl (Nat.le_of_ble_eq_true rfl) dX7_readUnit_1 ?_
  obtain ⟨k1, h⟩ := h
  refine miX7_73 (pc := 3) C k1 h (Nat.le_trans (Nat.le_of_ble_eq_true rfl) (Nat.succ_le_succ hd0)) (Nat.le_of_ble_eq_true rfl) ⟨Nat.le_refl _, Nat.le_refl _⟩ dX7_readUnit_3 (fun r2 w3 h => ?_)
  refine g_if_eq (pc := 6) C dX7_readUnit_6 (tgt := 45) rfl (fun z4 => ?_) (fun z4 => ?_)
  · replace h := h.1 z4
    refine g_aload_n (pc := 45) C dX7_readUnit_45 (q := 0) rfl ?_
    refine g_bipush (pc := 46) C dX7_readUnit_46 (v := 91) rfl ?_
    obtain ⟨k5, h⟩ := h
    refine miX7_181 (pc := 48) C k5 h (Nat.le_trans (Nat.le_of_ble_eq_true rfl) (Nat.succ_le_succ hd0)) (Nat.le_of_ble_eq_true rfl) ⟨Nat.le_refl _, Nat.le_refl _⟩ dX7_readUnit_48 (fun r6 w7 h => ?_)
    refine g_if_eq (pc := 51) C dX7_readUnit_51 (tgt := 94) rfl (fun z8 => ?_) (fun z8 => ?_)
    · replace h := h.1 z8
      refine g_aload_n (pc := 94) C dX7_readUnit_94 (q := 0) rfl ?_
      refine g_iload_n (pc := 95) C dX7_readUnit_95 (q := 1) rfl ?_
      obtain ⟨k9, h⟩ := h
      refine miX7_184 (pc := 96) C k9 h (Nat.le_trans (Nat.le_of_ble_eq_true rfl) (Nat.succ_le_succ hd0)) (Nat.le_of_ble_eq_true rfl) ⟨Nat.le_refl _, Nat.le_refl _⟩ dX7_readUnit_96 (fun r10 w11 h => ?_)
      refine g_if_ne (pc := 99) C dX7_readUnit_99 (tgt := 104) rfl (fun z12 => ?_) (fun z12 => ?_)
      · replace h := h.2 z12
        refine g_aload_n (pc := 104) C dX7_readUnit_104 (q := 0) rfl ?_
        obtain ⟨k13, h⟩ := h
        refine miX7_187 (pc := 105) C k13 h (Nat.le_trans (Nat.le_of_ble_eq_true rfl) (Nat.succ_le_succ hd0)) (Nat.le_of_ble_eq_true rfl) ⟨Nat.le_refl _, Nat.le_refl _⟩ dX7_readUnit_105 (fun r14 w15 h => ?_)
        refine g_istore_n (pc := 108) C dX7_readUnit_108 (Nat.le_of_ble_eq_true rfl) (lo' := [(2, .int r14), (0, .ref (adr x a0)), (1, .int a1)]) rfl ?_
        refine g_iload_n (pc := 109) C dX7_readUnit_109 (q := 0) rfl ?_
        refine g_if_ne (pc := 110) C dX7_readUnit_110 (tgt := 119) rfl (fun z16 => ?_) (fun z16 => ?_)
        · replace h := h.2 z16
          refine g_aload_n (pc := 119) C dX7_readUnit_119 (q := 1) rfl ?_
          obtain ⟨k17, h⟩ := h
          refine miX7_57 (pc := 120) C k17 h (Nat.le_trans (Nat.le_of_ble_eq_true rfl) (Nat.succ_le_succ hd0)) (Nat.le_of_ble_eq_true rfl) ⟨Nat.le_refl _, Nat.le_refl _⟩ dX7_readUnit_120 (fun r18 w19 h => ?_)
          refine g_if_eq (pc := 123) C dX7_readUnit_123 (tgt := 134) rfl (fun z20 => ?_) (fun z20 => ?_)
          · replace h := h.1 z20
            refine g_iconst (pc := 134) C dX7_readUnit_134 (v := 0) rfl ?_
            exact g_zret (pc := 135) C hlk hr (Nat.le_refl _) (Nat.le_refl _) dX7_readUnit_135 (Or.inl rfl) h
          · replace h := h.2 z20
            refine g_aload_n (pc := 126) C dX7_readUnit_126 (q := 1) rfl ?_
            refine g_iload_n (pc := 127) C dX7_readUnit_127 (q := 2) rfl ?_
            obtain ⟨k21, h⟩ := h
            refine miX7_184 (pc := 128) C k21 h (Nat.le_trans (Nat.le_of_ble_eq_true rfl) (Nat.succ_le_succ hd0)) (Nat.le_of_ble_eq_true rfl) ⟨Nat.le_refl _, Nat.le_refl _⟩ dX7_readUnit_128 (fun r22 w23 h => ?_)
            refine g_if_ne (pc := 131) C dX7_readUnit_131 (tgt := 136) rfl (fun z24 => ?_) (fun z24 => ?_)
            · replace h := h.2 z24
              refine g_aload_n (pc := 136) C dX7_readUnit_136 (q := 1) rfl ?_
              refine g_iload_n (pc := 137) C dX7_readUnit_137 (q := 0) rfl ?_
              obtain ⟨k25, h⟩ := h
              refine miX7_167 (pc := 138) C k25 h (Nat.le_trans (Nat.le_of_ble_eq_true rfl) (Nat.succ_le_succ hd0)) (Nat.le_of_ble_eq_true rfl) ⟨Nat.le_refl _, Nat.le_refl _⟩ dX7_readUnit_138 (fun w26 h => ?_)
              refine g_iconst (pc := 141) C dX7_readUnit_141 (v := 1) rfl ?_
              exact g_zret (pc := 142) C hlk hr (Nat.le_refl _) (Nat.le_refl _) dX7_readUnit_142 (Or.inr rfl) h
            · replace h := h.1 z24
              refine g_iconst (pc := 134) C dX7_readUnit_134 (v := 0) rfl ?_
              exact g_zret (pc := 135) C hlk hr (Nat.le_refl _) (Nat.le_refl _) dX7_readUnit_135 (Or.inl rfl) h
        · replace h := h.1 z16
          refine g_aload_n (pc := 113) C dX7_readUnit_113 (q := 1) rfl ?_
          refine g_iconst (pc := 114) C dX7_readUnit_114 (v := 2) rfl ?_
          obtain ⟨k27, h⟩ := h
          refine miX7_100 (pc := 115) C k27 h (Nat.le_trans (Nat.le_of_ble_eq_true rfl) (Nat.succ_le_succ hd0)) (Nat.le_of_ble_eq_true rfl) ⟨Nat.le_refl _, Nat.le_refl _⟩ dX7_readUnit_115 (fun r28 w29 h => ?_)
          exact g_zret (pc := 118) C hlk hr (Nat.le_refl _) (Nat.le_refl _) dX7_readUnit_118 h.1 h.2
      · replace h := h.1 z12
        refine g_iconst (pc := 102) C dX7_readUnit_102 (v := 0) rfl ?_
        exact g_zret (pc := 103) C hlk hr (Nat.le_refl _) (Nat.le_refl _) dX7_readUnit_103 (Or.inl rfl) h
    · replace h := h.2 z8
      refine g_aload_n (pc := 54) C dX7_readUnit_54 (q := 0) rfl ?_
      refine g_iload_n (pc := 55) C dX7_readUnit_55 (q := 1) rfl ?_
      obtain ⟨k30, h⟩ := h
      refine miX7_178 (pc := 56) C k30 h (Nat.le_trans (Nat.le_of_ble_eq_true rfl) (Nat.succ_le_succ hd0)) (Nat.le_of_ble_eq_true rfl) ⟨Nat.le_refl _, Nat.le_refl _⟩ dX7_readUnit_56 (fun r31 w32 h => ?_)
      refine g_if_eq (pc := 59) C dX7_readUnit_59 (tgt := 92) rfl (fun z33 => ?_) (fun z33 => ?_)
      · replace h := h.1 z33
        refine g_iconst (pc := 92) C dX7_readUnit_92 (v := 0) rfl ?_
        exact g_zret (pc := 93) C hlk hr (Nat.le_refl _) (Nat.le_refl _) dX7_readUnit_93 (Or.inl rfl) h
      · replace h := h.2 z33
        refine g_aload_n (pc := 62) C dX7_readUnit_62 (q := 0) rfl ?_
        obtain ⟨k34, h⟩ := h
        refine miX7_57 (pc := 63) C k34 h (Nat.le_trans (Nat.le_of_ble_eq_true rfl) (Nat.succ_le_succ hd0)) (Nat.le_of_ble_eq_true rfl) ⟨Nat.le_refl _, Nat.le_refl _⟩ dX7_readUnit_63 (fun r35 w36 h => ?_)
        refine g_if_eq (pc := 66) C dX7_readUnit_66 (tgt := 92) rfl (fun z37 => ?_) (fun z37 => ?_)
        · replace h := h.1 z37
          refine g_iconst (pc := 92) C dX7_readUnit_92 (v := 0) rfl ?_
          exact g_zret (pc := 93) C hlk hr (Nat.le_refl _) (Nat.le_refl _) dX7_readUnit_93 (Or.inl rfl) h
        · replace h := h.2 z37
          refine g_aload_n (pc := 69) C dX7_readUnit_69 (q := 0) rfl ?_
          refine g_iload_n (pc := 70) C dX7_readUnit_70 (q := 1) rfl ?_
          refine g_iconst (pc := 71) C dX7_readUnit_71 (v := 1) rfl ?_
          refine g_iadd (pc := 72) C dX7_readUnit_72 ?_
          obtain ⟨k38, h⟩ := h
          refine miRX7_150 (pc := 73) C k38 (hP1 _ _ _ _ h) (Nat.le_refl _) (Nat.le_of_ble_eq_true rfl) ⟨Nat.le_refl _, Nat.le_refl _⟩ dX7_readUnit_73 (fun r39 w40 h => ?_)
          refine g_if_eq (pc := 76) C dX7_readUnit_76 (tgt := 92) rfl (fun z41 => ?_) (fun z41 => ?_)
          · replace h := h.1 z41
            refine g_iconst (pc := 92) C dX7_readUnit_92 (v := 0) rfl ?_
            exact g_zret (pc := 93) C hlk hr (Nat.le_refl _) (Nat.le_refl _) dX7_readUnit_93 (Or.inl rfl) h
          · replace h := h.2 z41
            refine g_aload_n (pc := 79) C dX7_readUnit_79 (q := 0) rfl ?_
            refine g_bipush (pc := 80) C dX7_readUnit_80 (v := 93) rfl ?_
            obtain ⟨k42, h⟩ := h
            refine miX7_64 (pc := 82) C k42 h (Nat.le_trans (Nat.le_of_ble_eq_true rfl) (Nat.succ_le_succ hd0)) (Nat.le_of_ble_eq_true rfl) ⟨Nat.le_refl _, Nat.le_refl _⟩ dX7_readUnit_82 (fun r43 w44 h => ?_)
            refine g_if_eq (pc := 85) C dX7_readUnit_85 (tgt := 92) rfl (fun z45 => ?_) (fun z45 => ?_)
            · replace h := h.1 z45
              refine g_iconst (pc := 92) C dX7_readUnit_92 (v := 0) rfl ?_
              exact g_zret (pc := 93) C hlk hr (Nat.le_refl _) (Nat.le_refl _) dX7_readUnit_93 (Or.inl rfl) h
            · replace h := h.2 z45
              refine g_iconst (pc := 88) C dX7_readUnit_88 (v := 1) rfl ?_
              refine g_goto (pc := 89) C dX7_readUnit_89 (tgt := 93) rfl ?_
              exact g_zret (pc := 93) C hlk hr (Nat.le_refl _) (Nat.le_refl _) dX7_readUnit_93 (Or.inr rfl) h
  · replace h := h.2 z4
    refine g_aload_n (pc := 9) C dX7_readUnit_9 (q := 0) rfl ?_
    refine g_iload_n (pc := 10) C dX7_readUnit_10 (q := 1) rfl ?_
    obtain ⟨k46, h⟩ := h
    refine miX7_178 (pc := 11) C k46 h (Nat.le_trans (Nat.le_of_ble_eq_true rfl) (Nat.succ_le_succ hd0)) (Nat.le_of_ble_eq_true rfl) ⟨Nat.le_refl _, Nat.le_refl _⟩ dX7_readUnit_11 (fun r47 w48 h => ?_)
    refine g_if_eq (pc := 14) C dX7_readUnit_14 (tgt := 34) rfl (fun z49 => ?_) (fun z49 => ?_)
    · replace h := h.1 z49
      refine g_iconst (pc := 34) C dX7_readUnit_34 (v := 0) rfl ?_
      exact g_zret (pc := 35) C hlk hr (Nat.le_refl _) (Nat.le_refl _) dX7_readUnit_35 (Or.inl rfl) h
    · replace h := h.2 z49
      refine g_aload_n (pc := 17) C dX7_readUnit_17 (q := 0) rfl ?_
      obtain ⟨k50, h⟩ := h
      refine miX7_57 (pc := 18) C k50 h (Nat.le_trans (Nat.le_of_ble_eq_true rfl) (Nat.succ_le_succ hd0)) (Nat.le_of_ble_eq_true rfl) ⟨Nat.le_refl _, Nat.le_refl _⟩ dX7_readUnit_18 (fun r51 w52 h => ?_)
      refine g_if_eq (pc := 21) C dX7_readUnit_21 (tgt := 34) rfl (fun z53 => ?_) (fun z53 => ?_)
      · replace h := h.1 z53
        refine g_iconst (pc := 34) C dX7_readUnit_34 (v := 0) rfl ?_
        exact g_zret (pc := 35) C hlk hr (Nat.le_refl _) (Nat.le_refl _) dX7_readUnit_35 (Or.inl rfl) h
      · replace h := h.2 z53
        refine g_aload_n (pc := 24) C dX7_readUnit_24 (q := 0) rfl ?_
        refine g_iload_n (pc := 25) C dX7_readUnit_25 (q := 1) rfl ?_
        refine g_iconst (pc := 26) C dX7_readUnit_26 (v := 1) rfl ?_
        refine g_iadd (pc := 27) C dX7_readUnit_27 ?_
        obtain ⟨k54, h⟩ := h
        refine miRX7_171 (pc := 28) C k54 (hP2 _ _ _ _ h) (Nat.le_refl _) (Nat.le_of_ble_eq_true rfl) ⟨Nat.le_refl _, Nat.le_refl _⟩ dX7_readUnit_28 (fun r55 w56 h => ?_)
        refine g_if_ne (pc := 31) C dX7_readUnit_31 (tgt := 36) rfl (fun z57 => ?_) (fun z57 => ?_)
        · replace h := h.2 z57
          refine g_aload_n (pc := 36) C dX7_readUnit_36 (q := 0) rfl ?_
          refine g_sipush (pc := 37) C dX7_readUnit_37 (v := 2008) rfl ?_
          obtain ⟨k58, h⟩ := h
          refine miX7_167 (pc := 40) C k58 h (Nat.le_trans (Nat.le_of_ble_eq_true rfl) (Nat.succ_le_succ hd0)) (Nat.le_of_ble_eq_true rfl) ⟨Nat.le_refl _, Nat.le_refl _⟩ dX7_readUnit_40 (fun w59 h => ?_)
          refine g_iconst (pc := 43) C dX7_readUnit_43 (v := 1) rfl ?_
          exact g_zret (pc := 44) C hlk hr (Nat.le_refl _) (Nat.le_refl _) dX7_readUnit_44 (Or.inr rfl) h
        · replace h := h.1 z57
          refine g_iconst (pc := 34) C dX7_readUnit_34 (v := 0) rfl ?_
          exact g_zret (pc := 35) C hlk hr (Nat.le_refl _) (Nat.le_refl _) dX7_readUnit_35 (Or.inl rfl) h
def wG_X7_readBoth : Nat → Nat → Nat → Int32 → (Int32 → Wd → Prop) → Wd → Prop
  | 0, _, _, _, _, _ => False
  | n + 1, q, a0, a1, K, w => if q = 0 then b_X7_readBoth (wG_X7_readBoth n) a0 a1 K w else if q = 1 then b_X7_readTruth (wG_X7_readBoth n) a0 a1 K w else b_X7_readUnit (wG_X7_readBoth n) a0 a1 K w
theorem cG_X7_readBoth {x : xG} {l : Launch} : ∀ (n d : Nat), 110 + n ≤ d → (∀ (a0 : Nat) (a1 : Int32) (K : Int32 → Wd → Prop) (w : Wd), wG_X7_readBoth n 0 a0 a1 K w → Met l yX7_readBoth (xws yX7_readBoth cX7_readBoth 3 (some .boolean)) (rmd d 0 0) (xPc x [.ref (adr x a0), .int a1] w) (QcI x K) 0 0 (xA x)) ∧ (∀ (a0 : Nat) (a1 : Int32) (K : Int32 → Wd → Prop) (w : Wd), wG_X7_readBoth n 1 a0 a1 K w → Met l yX7_readTruth (xws yX7_readTruth cX7_readTruth 3 (some .boolean)) (rmd d 0 0) (xPc x [.ref (adr x a0), .int a1] w) (QcI x K) 0 0 (xA x)) ∧ (∀ (a0 : Nat) (a1 : Int32) (K : Int32 → Wd → Prop) (w : Wd), wG_X7_readBoth n 2 a0 a1 K w → Met l yX7_readUnit (xws yX7_readUnit cX7_readUnit 3 (some .boolean)) (rmd d 0 0) (xPc x [.ref (adr x a0), .int a1] w) (QcI x K) 0 0 (xA x)) := by
  intro n
  induction n with
  | zero => intro d _; exact ⟨fun _ _ _ _ h => False.elim h, fun _ _ _ _ h => False.elim h, fun _ _ _ _ h => False.elim h⟩
  | succ n ih =>
    intro d hd
    obtain ⟨d, rfl⟩ : ∃ d0, d = d0 + 1 := ⟨d - 1, by omega⟩
    have hd0 : 110 ≤ d := by omega
    have hp := ih d (by omega)
    obtain ⟨hP0, hP1, hP2⟩ := hp
    refine ⟨?_, ?_, ?_⟩
    · intro a0 a1 K w h
      replace h : b_X7_readBoth (wG_X7_readBoth n) a0 a1 K w := h
      exact xMet (by decide) (Nat.le_of_ble_eq_true rfl) (fun p e s m below meth c C hlk hr _ => t_X7_readBoth C hlk hr hd0 hP0 hP1 hP2 a0 a1 w h)
    · intro a0 a1 K w h
      replace h : b_X7_readTruth (wG_X7_readBoth n) a0 a1 K w := h
      exact xMet (by decide) (Nat.le_of_ble_eq_true rfl) (fun p e s m below meth c C hlk hr _ => t_X7_readTruth C hlk hr hd0 hP0 hP1 hP2 a0 a1 w h)
    · intro a0 a1 K w h
      replace h : b_X7_readUnit (wG_X7_readBoth n) a0 a1 K w := h
      exact xMet (by decide) (Nat.le_of_ble_eq_true rfl) (fun p e s m below meth c C hlk hr _ => t_X7_readUnit C hlk hr hd0 hP0 hP1 hP2 a0 a1 w h)
def w_X7_readBoth (a0 : Nat) (a1 : Int32) (K : Int32 → Wd → Prop) (w : Wd) : Prop := ∃ n, n ≤ 100 ∧ wG_X7_readBoth n 0 a0 a1 K w
theorem c_X7_readBoth {x : xG} {l : Launch} {a0 : Nat} {a1 : Int32} {K : Int32 → Wd → Prop} {w : Wd} (h : w_X7_readBoth a0 a1 K w) : Met l yX7_readBoth (xws yX7_readBoth cX7_readBoth 3 (some .boolean)) (rmd 210 0 0) (xPc x [.ref (adr x a0), .int a1] w) (QcI x K) 0 0 (xA x) := by
  obtain ⟨n, hn, h⟩ := h
  exact (cG_X7_readBoth n 210 (by omega)).1 _ _ K w h
def w_X7_readTruth (a0 : Nat) (a1 : Int32) (K : Int32 → Wd → Prop) (w : Wd) : Prop := ∃ n, n ≤ 100 ∧ wG_X7_readBoth n 1 a0 a1 K w
theorem c_X7_readTruth {x : xG} {l : Launch} {a0 : Nat} {a1 : Int32} {K : Int32 → Wd → Prop} {w : Wd} (h : w_X7_readTruth a0 a1 K w) : Met l yX7_readTruth (xws yX7_readTruth cX7_readTruth 3 (some .boolean)) (rmd 210 0 0) (xPc x [.ref (adr x a0), .int a1] w) (QcI x K) 0 0 (xA x) := by
  obtain ⟨n, hn, h⟩ := h
  exact (cG_X7_readBoth n 210 (by omega)).2.1 _ _ K w h
def w_X7_readUnit (a0 : Nat) (a1 : Int32) (K : Int32 → Wd → Prop) (w : Wd) : Prop := ∃ n, n ≤ 100 ∧ wG_X7_readBoth n 2 a0 a1 K w
theorem c_X7_readUnit {x : xG} {l : Launch} {a0 : Nat} {a1 : Int32} {K : Int32 → Wd → Prop} {w : Wd} (h : w_X7_readUnit a0 a1 K w) : Met l yX7_readUnit (xws yX7_readUnit cX7_readUnit 3 (some .boolean)) (rmd 210 0 0) (xPc x [.ref (adr x a0), .int a1] w) (QcI x K) 0 0 (xA x) := by
  obtain ⟨n, hn, h⟩ := h
  exact (cG_X7_readBoth n 210 (by omega)).2.2 _ _ K w h
def w_X7_readChoice (a0 : Nat) (a1 : Nat) (a2 : Int32) (a3 : Int32) (a4 : Int32) (K : Int32 → Wd → Prop) (w : Wd) : Prop :=
  isK w a0 7 ∧ w_X7_isWord a0 a1 (fun r2 w3 => ((r2 = 0 → isK w3 a0 7 ∧ K 1 (uI w3 a0 10 a4)) ∧ (¬ r2 = 0 → isK w3 a0 7 ∧ w_X7_advance a0 (fun r7 w8 => ((r7 = 0 → K 0 w8) ∧ (¬ r7 = 0 → isK w8 a0 7 ∧ w_X7_expectNumber a0 a2 a3 (fun r11 w12 => ((r11 = 0 → K 0 w12) ∧ (¬ r11 = 0 → K 1 w12))) w8))) w3))) w
theorem c_X7_readChoice {x : xG} {l : Launch} {a0 : Nat} {a1 : Nat} {a2 : Int32} {a3 : Int32} {a4 : Int32} {K : Int32 → Wd → Prop} {w : Wd} (h : w_X7_readChoice a0 a1 a2 a3 a4 K w) : Met l yX7_readChoice (xws yX7_readChoice cX7_readChoice 5 (some .boolean)) (rmd 8 0 0) (xPc x [.ref (adr x a0), .ref (adr x a1), .int a2, .int a3, .int a4] w) (QcI x K) 0 0 (xA x) := by
  refine xMet (by decide) (Nat.le_of_ble_eq_true rfl) (fun p e s m below meth c C hlk hr _ => ?_)
  show GW x p l e (rmd 8 0 0) s m [.ref (adr x a0), .ref (adr x a1), .int a2, .int a3, .int a4].toArray below meth c 5 (QI x K below [.ref (adr x a0), .ref (adr x a1), .int a2, .int a3, .int a4].toArray s 0 0) 0 [(0, .ref (adr x a0)), (1, .ref (adr x a1)), (2, .int a2), (3, .int a3), (4, .int a4)] [] w 0 0
  refine g_aload_n (pc := 0) C dX7_readChoice_0 (q := 0) rfl ?_
  refine g_aload_n (pc := 1) C dX7_readChoice_1 (q := 1) rfl ?_
  obtain ⟨k1, h⟩ := h
  refine miX7_73 (pc := 2) C k1 h (Nat.le_of_ble_eq_true rfl) (Nat.le_of_ble_eq_true rfl) ⟨Nat.le_refl _, Nat.le_refl _⟩ dX7_readChoice_2 (fun r2 w3 h => ?_)
  refine g_if_eq (pc := 5) C dX7_readChoice_5 (tgt := 30) rfl (fun z4 => ?_) (fun z4 => ?_)
  · replace h := h.1 z4
    refine g_aload_n (pc := 30) C dX7_readChoice_30 (q := 0) rfl ?_
    refine g_iload (pc := 31) C dX7_readChoice_31 (q := 4) rfl ?_
    obtain ⟨k5, h⟩ := h
    refine pfX7_40 (pc := 33) C k5 dX7_readChoice_33 ?_
    refine g_iconst (pc := 36) C dX7_readChoice_36 (v := 1) rfl ?_
    exact g_zret (pc := 37) C hlk hr (Nat.le_refl _) (Nat.le_refl _) dX7_readChoice_37 (Or.inr rfl) h
  · replace h := h.2 z4
    refine g_aload_n (pc := 8) C dX7_readChoice_8 (q := 0) rfl ?_
    obtain ⟨k6, h⟩ := h
    refine miX7_57 (pc := 9) C k6 h (Nat.le_of_ble_eq_true rfl) (Nat.le_of_ble_eq_true rfl) ⟨Nat.le_refl _, Nat.le_refl _⟩ dX7_readChoice_9 (fun r7 w8 h => ?_)
    refine g_if_eq (pc := 12) C dX7_readChoice_12 (tgt := 28) rfl (fun z9 => ?_) (fun z9 => ?_)
    · replace h := h.1 z9
      refine g_iconst (pc := 28) C dX7_readChoice_28 (v := 0) rfl ?_
      exact g_zret (pc := 29) C hlk hr (Nat.le_refl _) (Nat.le_refl _) dX7_readChoice_29 (Or.inl rfl) h
    · replace h := h.2 z9
      refine g_aload_n (pc := 15) C dX7_readChoice_15 (q := 0) rfl ?_
      refine g_iload_n (pc := 16) C dX7_readChoice_16 (q := 2) rfl ?_
      refine g_iload_n (pc := 17) C dX7_readChoice_17 (q := 3) rfl ?_
      obtain ⟨k10, h⟩ := h
      refine miX7_112 (pc := 18) C k10 h (Nat.le_of_ble_eq_true rfl) (Nat.le_of_ble_eq_true rfl) ⟨Nat.le_refl _, Nat.le_refl _⟩ dX7_readChoice_18 (fun r11 w12 h => ?_)
      refine g_if_eq (pc := 21) C dX7_readChoice_21 (tgt := 28) rfl (fun z13 => ?_) (fun z13 => ?_)
      · replace h := h.1 z13
        refine g_iconst (pc := 28) C dX7_readChoice_28 (v := 0) rfl ?_
        exact g_zret (pc := 29) C hlk hr (Nat.le_refl _) (Nat.le_refl _) dX7_readChoice_29 (Or.inl rfl) h
      · replace h := h.2 z13
        refine g_iconst (pc := 24) C dX7_readChoice_24 (v := 1) rfl ?_
        refine g_goto (pc := 25) C dX7_readChoice_25 (tgt := 29) rfl ?_
        exact g_zret (pc := 29) C hlk hr (Nat.le_refl _) (Nat.le_refl _) dX7_readChoice_29 (Or.inr rfl) h
theorem miX7_109 (C : xC x p s m c cc nL args RX7) {a0 : Nat} {a1 : Nat} {K : Int32 → Wd → Prop} {D MC MS : Nat} (hq : isK w a0 7) (h : w_X7_expectWord a0 a1 K w) (hD : 8 + 1 ≤ D) (hW : (st.map fun v => v.category).sum ≤ 8) (hij : i ≤ MC ∧ j ≤ MS) (hd : decode cc pc = .ok (.invokevirtual 109, 3)) (k : ∀ (r : Int32) (u : Wd), K r u → GW x p l e (rmd D MC MS) s m args below meth c nL Q (pc + 3) lo (.int r :: st) u i j) : GW x p l e (rmd D MC MS) s m args below meth c nL Q pc lo (.ref (adr x a1) :: .ref (adr x a0) :: st) w i j := g_callVi0 C (As := [.ref (adr x a1)]) (ci := 7) (c_X7_expectWord h) (x_cwV C 1 LMX7_109 ⟨rfl, by decide, by decide, rfl⟩ hD (by decide)) rfl hq (by decide) rfl rfl hW hd hij k
theorem miX7_144 (C : xC x p s m c cc nL args RX7) {a0 : Nat} {a1 : Int32} {a2 : Int32} {K : Wd → Prop} {D MC MS : Nat} (hq : isK w a0 1) (h : w_X1_addHouse a0 a1 a2 K w) (hD : 0 + 1 ≤ D) (hW : (st.map fun v => v.category).sum ≤ 8) (hij : i ≤ MC ∧ j ≤ MS) (hd : decode cc pc = .ok (.invokevirtual 144, 3)) (k : ∀ (u : Wd), K u → GW x p l e (rmd D MC MS) s m args below meth c nL Q (pc + 3) lo st u i j) : GW x p l e (rmd D MC MS) s m args below meth c nL Q pc lo (.int a2 :: .int a1 :: .ref (adr x a0) :: st) w i j := g_callVv0 C (As := [.int a1, .int a2]) (ci := 1) (c_X1_addHouse h) (x_cwV C 2 LMX7_144 ⟨rfl, by decide, by decide, rfl⟩ hD (by decide)) rfl hq (by decide) rfl rfl hW hd hij k
def l_X7_readHouse_70  (K : Int32 → Wd → Prop) : Nat → Nat → Int32 → Int32 → Int32 → Wd → Prop
  | 0, _, _, _, _, _ => False
  | n + 1, a0, a1, a2, a3, w => ((900 ≤ a3 → isK w a0 7 ∧ isK w (wR w a0 3) 1 ∧ w_X1_addHouse (wR w a0 3) a1 a2 (fun w23 => K 1 w23) w) ∧ (¬ 900 ≤ a3 → isK w a0 7 ∧ (((wI w a0 8) = 1 → w_X7_expectToldWell a0 (-1) (fun r28 w29 => ((r28 = 0 → K 0 w29) ∧ (¬ r28 = 0 → isK w29 a0 7 ∧ l_X7_readHouse_70 K n a0 a1 (a2 ||| (x_ishl 1 (wI w29 a0 10))) (a3 + 1) w29))) w) ∧ (¬ (wI w a0 8) = 1 → isK w (wR w a0 3) 1 ∧ w_X1_addHouse (wR w a0 3) a1 a2 (fun w27 => K 1 w27) w))))
def w_X7_readHouse (a0 : Nat) (K : Int32 → Wd → Prop) (w : Wd) : Prop :=
  isK w a0 7 ∧ isK w (wR w a0 3) 1 ∧ (((wI w (wR w a0 3) 2) < 6 → w_X7_advance a0 (fun r4 w5 => ((r4 = 0 → K 0 w5) ∧ (¬ r4 = 0 → isK w5 a0 7 ∧ w_X7_expectNumber a0 1 99 (fun r8 w9 => ((r8 = 0 → K 0 w9) ∧ (¬ r8 = 0 → isK w9 a0 7 ∧ w_X7_expectWord a0 11 (fun r12 w13 => ((r12 = 0 → K 0 w13) ∧ (¬ r12 = 0 → isK w13 a0 7 ∧ w_X7_expectToldWell a0 (-1) (fun r16 w17 => ((r16 = 0 → K 0 w17) ∧ (¬ r16 = 0 → isK w17 a0 7 ∧ ∃ n32, l_X7_readHouse_70  K n32 a0 (wI w9 a0 10) (x_ishl 1 (wI w17 a0 10)) 0 w17))) w13))) w9))) w5))) w) ∧ (¬ (wI w (wR w a0 3) 2) < 6 → w_X7_refuse a0 4 (fun r33 w34 => (r33 = 0 ∨ r33 = 1) ∧ K r33 w34) w))
theorem t_X7_readHouse_70 (C : xC x p s m c cX7_readHouse 4 args RX7) (hlk : meth.locks = false) (hr : meth.sig.returnType = some .boolean) {K : Int32 → Wd → Prop}   : ∀ (n : Nat) (a0 : Nat) (a1 : Int32) (a2 : Int32) (a3 : Int32) (w : Wd), l_X7_readHouse_70 K n a0 a1 a2 a3 w → GW x p l e (rmd 9 0 0) s m args below meth c 4 (QI x K below args s 0 0) 70 [(0, .ref (adr x a0)), (1, .int a1), (2, .int a2), (3, .int a3)] [] w 0 0 := by
  intro n
  induction n with
  | zero => intro _ _ _ _ _ h; exact False.elim h
  | succ n ih =>
    intro a0 a1 a2 a3 w h
    refine g_iload_n (pc := 70) C dX7_readHouse_70 (q := 3) rfl ?_
    refine g_sipush (pc := 71) C dX7_readHouse_71 (v := 900) rfl ?_
    refine g_icmp_ge (pc := 74) C dX7_readHouse_74 (tgt := 110) rfl (fun z20 => ?_) (fun z20 => ?_)
    · replace h := h.1 z20
      refine g_aload_n (pc := 110) C dX7_readHouse_110 (q := 0) rfl ?_
      obtain ⟨k21, h⟩ := h
      obtain ⟨k22, h⟩ := h
      refine gfX7_50 (pc := 111) C k21 (isK_ne k22) dX7_readHouse_111 ?_
      refine g_iload_n (pc := 114) C dX7_readHouse_114 (q := 1) rfl ?_
      refine g_iload_n (pc := 115) C dX7_readHouse_115 (q := 2) rfl ?_
      refine miX7_144 (pc := 116) C k22 h (Nat.le_of_ble_eq_true rfl) (Nat.le_of_ble_eq_true rfl) ⟨Nat.le_refl _, Nat.le_refl _⟩ dX7_readHouse_116 (fun w23 h => ?_)
      refine g_iconst (pc := 119) C dX7_readHouse_119 (v := 1) rfl ?_
      exact g_zret (pc := 120) C hlk hr (Nat.le_refl _) (Nat.le_refl _) dX7_readHouse_120 (Or.inr rfl) h
    · replace h := h.2 z20
      refine g_aload_n (pc := 77) C dX7_readHouse_77 (q := 0) rfl ?_
      obtain ⟨k24, h⟩ := h
      refine gfX7_34 (pc := 78) C k24 dX7_readHouse_78 ?_
      refine g_iconst (pc := 81) C dX7_readHouse_81 (v := 1) rfl ?_
      refine g_icmp_ne (pc := 82) C dX7_readHouse_82 (tgt := 110) rfl (fun z25 => ?_) (fun z25 => ?_)
      · replace h := h.2 z25
        refine g_aload_n (pc := 110) C dX7_readHouse_110 (q := 0) rfl ?_
        obtain ⟨k26, h⟩ := h
        refine gfX7_50 (pc := 111) C k24 (isK_ne k26) dX7_readHouse_111 ?_
        refine g_iload_n (pc := 114) C dX7_readHouse_114 (q := 1) rfl ?_
        refine g_iload_n (pc := 115) C dX7_readHouse_115 (q := 2) rfl ?_
        refine miX7_144 (pc := 116) C k26 h (Nat.le_of_ble_eq_true rfl) (Nat.le_of_ble_eq_true rfl) ⟨Nat.le_refl _, Nat.le_refl _⟩ dX7_readHouse_116 (fun w27 h => ?_)
        refine g_iconst (pc := 119) C dX7_readHouse_119 (v := 1) rfl ?_
        exact g_zret (pc := 120) C hlk hr (Nat.le_refl _) (Nat.le_refl _) dX7_readHouse_120 (Or.inr rfl) h
      · replace h := h.1 z25
        refine g_aload_n (pc := 85) C dX7_readHouse_85 (q := 0) rfl ?_
        refine g_iconst (pc := 86) C dX7_readHouse_86 (v := (-1)) rfl ?_
        refine miX7_132 (pc := 87) C k24 h (Nat.le_of_ble_eq_true rfl) (Nat.le_of_ble_eq_true rfl) ⟨Nat.le_refl _, Nat.le_refl _⟩ dX7_readHouse_87 (fun r28 w29 h => ?_)
        refine g_if_ne (pc := 90) C dX7_readHouse_90 (tgt := 95) rfl (fun z30 => ?_) (fun z30 => ?_)
        · replace h := h.2 z30
          refine g_iload_n (pc := 95) C dX7_readHouse_95 (q := 2) rfl ?_
          refine g_iconst (pc := 96) C dX7_readHouse_96 (v := 1) rfl ?_
          refine g_aload_n (pc := 97) C dX7_readHouse_97 (q := 0) rfl ?_
          obtain ⟨k31, h⟩ := h
          refine gfX7_40 (pc := 98) C k31 dX7_readHouse_98 ?_
          refine h_ishl (pc := 101) C dX7_readHouse_101 ?_
          refine g_ior (pc := 102) C dX7_readHouse_102 ?_
          refine g_istore_n (pc := 103) C dX7_readHouse_103 (Nat.le_of_ble_eq_true rfl) (lo' := [(2, .int (a2 ||| (x_ishl 1 (wI w29 a0 10)))), (0, .ref (adr x a0)), (1, .int a1), (3, .int a3)]) rfl ?_
          refine g_iinc (pc := 104) C dX7_readHouse_104 (q := 3) rfl (v2 := a3 + 1) rfl (Nat.le_of_ble_eq_true rfl) (lo' := [(3, .int (a3 + 1)), (2, .int (a2 ||| (x_ishl 1 (wI w29 a0 10)))), (0, .ref (adr x a0)), (1, .int a1)]) rfl ?_
          refine g_goto (pc := 107) C dX7_readHouse_107 (tgt := 70) rfl ?_
          refine g_sub [2, 3, 1, 0] rfl ?_
          exact ih _ _ _ _ _ h
        · replace h := h.1 z30
          refine g_iconst (pc := 93) C dX7_readHouse_93 (v := 0) rfl ?_
          exact g_zret (pc := 94) C hlk hr (Nat.le_refl _) (Nat.le_refl _) dX7_readHouse_94 (Or.inl rfl) h
theorem c_X7_readHouse {x : xG} {l : Launch} {a0 : Nat} {K : Int32 → Wd → Prop} {w : Wd} (h : w_X7_readHouse a0 K w) : Met l yX7_readHouse (xws yX7_readHouse cX7_readHouse 4 (some .boolean)) (rmd 9 0 0) (xPc x [.ref (adr x a0)] w) (QcI x K) 0 0 (xA x) := by
  refine xMet (by decide) (Nat.le_of_ble_eq_true rfl) (fun p e s m below meth c C hlk hr _ => ?_)
  show GW x p l e (rmd 9 0 0) s m [.ref (adr x a0)].toArray below meth c 4 (QI x K below [.ref (adr x a0)].toArray s 0 0) 0 [(0, .ref (adr x a0))] [] w 0 0
  refine g_aload_n (pc := 0) C dX7_readHouse_0 (q := 0) rfl ?_
  obtain ⟨k1, h⟩ := h
  obtain ⟨k2, h⟩ := h
  refine gfX7_50 (pc := 1) C k1 (isK_ne k2) dX7_readHouse_1 ?_
  refine gfX7_139 (pc := 4) C k2 dX7_readHouse_4 ?_
  refine g_bipush (pc := 7) C dX7_readHouse_7 (v := 6) rfl ?_
  refine g_icmp_lt (pc := 9) C dX7_readHouse_9 (tgt := 18) rfl (fun z3 => ?_) (fun z3 => ?_)
  · replace h := h.1 z3
    refine g_aload_n (pc := 18) C dX7_readHouse_18 (q := 0) rfl ?_
    refine miX7_57 (pc := 19) C k1 h (Nat.le_of_ble_eq_true rfl) (Nat.le_of_ble_eq_true rfl) ⟨Nat.le_refl _, Nat.le_refl _⟩ dX7_readHouse_19 (fun r4 w5 h => ?_)
    refine g_if_eq (pc := 22) C dX7_readHouse_22 (tgt := 35) rfl (fun z6 => ?_) (fun z6 => ?_)
    · replace h := h.1 z6
      refine g_iconst (pc := 35) C dX7_readHouse_35 (v := 0) rfl ?_
      exact g_zret (pc := 36) C hlk hr (Nat.le_refl _) (Nat.le_refl _) dX7_readHouse_36 (Or.inl rfl) h
    · replace h := h.2 z6
      refine g_aload_n (pc := 25) C dX7_readHouse_25 (q := 0) rfl ?_
      refine g_iconst (pc := 26) C dX7_readHouse_26 (v := 1) rfl ?_
      refine g_bipush (pc := 27) C dX7_readHouse_27 (v := 99) rfl ?_
      obtain ⟨k7, h⟩ := h
      refine miX7_112 (pc := 29) C k7 h (Nat.le_of_ble_eq_true rfl) (Nat.le_of_ble_eq_true rfl) ⟨Nat.le_refl _, Nat.le_refl _⟩ dX7_readHouse_29 (fun r8 w9 h => ?_)
      refine g_if_ne (pc := 32) C dX7_readHouse_32 (tgt := 37) rfl (fun z10 => ?_) (fun z10 => ?_)
      · replace h := h.2 z10
        refine g_aload_n (pc := 37) C dX7_readHouse_37 (q := 0) rfl ?_
        obtain ⟨k11, h⟩ := h
        refine gfX7_40 (pc := 38) C k11 dX7_readHouse_38 ?_
        refine g_istore_n (pc := 41) C dX7_readHouse_41 (Nat.le_of_ble_eq_true rfl) (lo' := [(1, .int (wI w9 a0 10)), (0, .ref (adr x a0))]) rfl ?_
        refine g_aload_n (pc := 42) C dX7_readHouse_42 (q := 1) rfl ?_
        refine g_ldcS (pc := 43) C (q := 9) (k0 := 9) rfl (Nat.le_of_ble_eq_true rfl) dX7_readHouse_43 ?_
        refine miX7_109 (pc := 45) C k11 h (Nat.le_of_ble_eq_true rfl) (Nat.le_of_ble_eq_true rfl) ⟨Nat.le_refl _, Nat.le_refl _⟩ dX7_readHouse_45 (fun r12 w13 h => ?_)
        refine g_if_eq (pc := 48) C dX7_readHouse_48 (tgt := 59) rfl (fun z14 => ?_) (fun z14 => ?_)
        · replace h := h.1 z14
          refine g_iconst (pc := 59) C dX7_readHouse_59 (v := 0) rfl ?_
          exact g_zret (pc := 60) C hlk hr (Nat.le_refl _) (Nat.le_refl _) dX7_readHouse_60 (Or.inl rfl) h
        · replace h := h.2 z14
          refine g_aload_n (pc := 51) C dX7_readHouse_51 (q := 1) rfl ?_
          refine g_iconst (pc := 52) C dX7_readHouse_52 (v := (-1)) rfl ?_
          obtain ⟨k15, h⟩ := h
          refine miX7_132 (pc := 53) C k15 h (Nat.le_of_ble_eq_true rfl) (Nat.le_of_ble_eq_true rfl) ⟨Nat.le_refl _, Nat.le_refl _⟩ dX7_readHouse_53 (fun r16 w17 h => ?_)
          refine g_if_ne (pc := 56) C dX7_readHouse_56 (tgt := 61) rfl (fun z18 => ?_) (fun z18 => ?_)
          · replace h := h.2 z18
            refine g_iconst (pc := 61) C dX7_readHouse_61 (v := 1) rfl ?_
            refine g_aload_n (pc := 62) C dX7_readHouse_62 (q := 1) rfl ?_
            obtain ⟨k19, h⟩ := h
            refine gfX7_40 (pc := 63) C k19 dX7_readHouse_63 ?_
            refine h_ishl (pc := 66) C dX7_readHouse_66 ?_
            refine g_istore_n (pc := 67) C dX7_readHouse_67 (Nat.le_of_ble_eq_true rfl) (lo' := [(2, .int (x_ishl 1 (wI w17 a0 10))), (1, .int (wI w9 a0 10)), (0, .ref (adr x a0))]) rfl ?_
            refine g_iconst (pc := 68) C dX7_readHouse_68 (v := 0) rfl ?_
            refine g_istore_n (pc := 69) C dX7_readHouse_69 (Nat.le_of_ble_eq_true rfl) (lo' := [(3, .int 0), (2, .int (x_ishl 1 (wI w17 a0 10))), (1, .int (wI w9 a0 10)), (0, .ref (adr x a0))]) rfl ?_
            obtain ⟨n32, h⟩ := h
            refine g_sub [3, 2, 1, 0] rfl ?_
            refine t_X7_readHouse_70 C hlk hr n32 _ _ _ _ _ h
          · replace h := h.1 z18
            refine g_iconst (pc := 59) C dX7_readHouse_59 (v := 0) rfl ?_
            exact g_zret (pc := 60) C hlk hr (Nat.le_refl _) (Nat.le_refl _) dX7_readHouse_60 (Or.inl rfl) h
      · replace h := h.1 z10
        refine g_iconst (pc := 35) C dX7_readHouse_35 (v := 0) rfl ?_
        exact g_zret (pc := 36) C hlk hr (Nat.le_refl _) (Nat.le_refl _) dX7_readHouse_36 (Or.inl rfl) h
  · replace h := h.2 z3
    refine g_aload_n (pc := 12) C dX7_readHouse_12 (q := 0) rfl ?_
    refine g_iconst (pc := 13) C dX7_readHouse_13 (v := 4) rfl ?_
    refine miX7_100 (pc := 14) C k1 h (Nat.le_of_ble_eq_true rfl) (Nat.le_of_ble_eq_true rfl) ⟨Nat.le_refl _, Nat.le_refl _⟩ dX7_readHouse_14 (fun r33 w34 h => ?_)
    exact g_zret (pc := 17) C hlk hr (Nat.le_refl _) (Nat.le_refl _) dX7_readHouse_17 h.1 h.2
theorem miX7_120 (C : xC x p s m c cc nL args RX7) {a0 : Nat} {a1 : Nat} {a2 : Int32} {a3 : Int32} {a4 : Int32} {K : Int32 → Wd → Prop} {D MC MS : Nat} (hq : isK w a0 7) (h : w_X7_readChoice a0 a1 a2 a3 a4 K w) (hD : 8 + 1 ≤ D) (hW : (st.map fun v => v.category).sum ≤ 8) (hij : i ≤ MC ∧ j ≤ MS) (hd : decode cc pc = .ok (.invokevirtual 120, 3)) (k : ∀ (r : Int32) (u : Wd), K r u → GW x p l e (rmd D MC MS) s m args below meth c nL Q (pc + 3) lo (.int r :: st) u i j) : GW x p l e (rmd D MC MS) s m args below meth c nL Q pc lo (.int a4 :: .int a3 :: .int a2 :: .ref (adr x a1) :: .ref (adr x a0) :: st) w i j := g_callVi0 C (As := [.ref (adr x a1), .int a2, .int a3, .int a4]) (ci := 7) (c_X7_readChoice h) (x_cwV C 4 LMX7_120 ⟨rfl, by decide, by decide, rfl⟩ hD (by decide)) rfl hq (by decide) rfl rfl hW hd hij k
theorem miX7_128 (C : xC x p s m c cc nL args RX7) {a0 : Nat} {a1 : Int32} {a2 : Int32} {a3 : Int32} {a4 : Int32} {a5 : Int32} {K : Wd → Prop} {D MC MS : Nat} (hq : isK w a0 1) (h : w_X1_addWell a0 a1 a2 a3 a4 a5 K w) (hD : 0 + 1 ≤ D) (hW : (st.map fun v => v.category).sum ≤ 8) (hij : i ≤ MC ∧ j ≤ MS) (hd : decode cc pc = .ok (.invokevirtual 128, 3)) (k : ∀ (u : Wd), K u → GW x p l e (rmd D MC MS) s m args below meth c nL Q (pc + 3) lo st u i j) : GW x p l e (rmd D MC MS) s m args below meth c nL Q pc lo (.int a5 :: .int a4 :: .int a3 :: .int a2 :: .int a1 :: .ref (adr x a0) :: st) w i j := g_callVv0 C (As := [.int a1, .int a2, .int a3, .int a4, .int a5]) (ci := 1) (c_X1_addWell h) (x_cwV C 5 LMX7_128 ⟨rfl, by decide, by decide, rfl⟩ hD (by decide)) rfl hq (by decide) rfl rfl hW hd hij k
def w_X7_readWell (a0 : Nat) (K : Int32 → Wd → Prop) (w : Wd) : Prop :=
  isK w a0 7 ∧ isK w (wR w a0 3) 1 ∧ (((wI w (wR w a0 3) 1) < 10 → w_X7_advance a0 (fun r4 w5 => ((r4 = 0 → K 0 w5) ∧ (¬ r4 = 0 → isK w5 a0 7 ∧ w_X7_expectWord a0 4 (fun r8 w9 => ((r8 = 0 → K 0 w9) ∧ (¬ r8 = 0 → isK w9 a0 7 ∧ w_X7_expectNumber a0 2 12 (fun r12 w13 => ((r12 = 0 → K 0 w13) ∧ (¬ r12 = 0 → isK w13 a0 7 ∧ w_X7_expectWord a0 5 (fun r16 w17 => ((r16 = 0 → K 0 w17) ∧ (¬ r16 = 0 → isK w17 a0 7 ∧ w_X7_expectNumber a0 1 (wI w13 a0 10) (fun r20 w21 => ((r20 = 0 → K 0 w21) ∧ (¬ r20 = 0 → isK w21 a0 7 ∧ w_X7_readChoice a0 6 0 ((wI w13 a0 10) - 1) 0 (fun r24 w25 => ((r24 = 0 → K 0 w25) ∧ (¬ r24 = 0 → isK w25 a0 7 ∧ w_X7_readChoice a0 7 1 99 10 (fun r28 w29 => ((r28 = 0 → K 0 w29) ∧ (¬ r28 = 0 → isK w29 a0 7 ∧ w_X7_readChoice a0 8 0 (wI w29 a0 10) (wI w29 a0 10) (fun r32 w33 => ((r32 = 0 → K 0 w33) ∧ (¬ r32 = 0 → isK w33 a0 7 ∧ isK w33 (wR w33 a0 3) 1 ∧ w_X1_addWell (wR w33 a0 3) (wI w13 a0 10) (wI w21 a0 10) (wI w25 a0 10) (wI w29 a0 10) (wI w33 a0 10) (fun w37 => K 1 w37) w33))) w29))) w25))) w21))) w17))) w13))) w9))) w5))) w) ∧ (¬ (wI w (wR w a0 3) 1) < 10 → w_X7_refuse a0 4 (fun r38 w39 => (r38 = 0 ∨ r38 = 1) ∧ K r38 w39) w))
theorem c_X7_readWell {x : xG} {l : Launch} {a0 : Nat} {K : Int32 → Wd → Prop} {w : Wd} (h : w_X7_readWell a0 K w) : Met l yX7_readWell (xws yX7_readWell cX7_readWell 5 (some .boolean)) (rmd 9 0 0) (xPc x [.ref (adr x a0)] w) (QcI x K) 0 0 (xA x) := by
  refine xMet (by decide) (Nat.le_of_ble_eq_true rfl) (fun p e s m below meth c C hlk hr _ => ?_)
  show GW x p l e (rmd 9 0 0) s m [.ref (adr x a0)].toArray below meth c 5 (QI x K below [.ref (adr x a0)].toArray s 0 0) 0 [(0, .ref (adr x a0))] [] w 0 0
  refine g_aload_n (pc := 0) C dX7_readWell_0 (q := 0) rfl ?_
  obtain ⟨k1, h⟩ := h
  obtain ⟨k2, h⟩ := h
  refine gfX7_50 (pc := 1) C k1 (isK_ne k2) dX7_readWell_1 ?_
  refine gfX7_104 (pc := 4) C k2 dX7_readWell_4 ?_
  refine g_bipush (pc := 7) C dX7_readWell_7 (v := 10) rfl ?_
  refine g_icmp_lt (pc := 9) C dX7_readWell_9 (tgt := 18) rfl (fun z3 => ?_) (fun z3 => ?_)
  · replace h := h.1 z3
    refine g_aload_n (pc := 18) C dX7_readWell_18 (q := 0) rfl ?_
    refine miX7_57 (pc := 19) C k1 h (Nat.le_of_ble_eq_true rfl) (Nat.le_of_ble_eq_true rfl) ⟨Nat.le_refl _, Nat.le_refl _⟩ dX7_readWell_19 (fun r4 w5 h => ?_)
    refine g_if_eq (pc := 22) C dX7_readWell_22 (tgt := 44) rfl (fun z6 => ?_) (fun z6 => ?_)
    · replace h := h.1 z6
      refine g_iconst (pc := 44) C dX7_readWell_44 (v := 0) rfl ?_
      exact g_zret (pc := 45) C hlk hr (Nat.le_refl _) (Nat.le_refl _) dX7_readWell_45 (Or.inl rfl) h
    · replace h := h.2 z6
      refine g_aload_n (pc := 25) C dX7_readWell_25 (q := 0) rfl ?_
      refine g_ldcS (pc := 26) C (q := 2) (k0 := 2) rfl (Nat.le_of_ble_eq_true rfl) dX7_readWell_26 ?_
      obtain ⟨k7, h⟩ := h
      refine miX7_109 (pc := 28) C k7 h (Nat.le_of_ble_eq_true rfl) (Nat.le_of_ble_eq_true rfl) ⟨Nat.le_refl _, Nat.le_refl _⟩ dX7_readWell_28 (fun r8 w9 h => ?_)
      refine g_if_eq (pc := 31) C dX7_readWell_31 (tgt := 44) rfl (fun z10 => ?_) (fun z10 => ?_)
      · replace h := h.1 z10
        refine g_iconst (pc := 44) C dX7_readWell_44 (v := 0) rfl ?_
        exact g_zret (pc := 45) C hlk hr (Nat.le_refl _) (Nat.le_refl _) dX7_readWell_45 (Or.inl rfl) h
      · replace h := h.2 z10
        refine g_aload_n (pc := 34) C dX7_readWell_34 (q := 0) rfl ?_
        refine g_iconst (pc := 35) C dX7_readWell_35 (v := 2) rfl ?_
        refine g_bipush (pc := 36) C dX7_readWell_36 (v := 12) rfl ?_
        obtain ⟨k11, h⟩ := h
        refine miX7_112 (pc := 38) C k11 h (Nat.le_of_ble_eq_true rfl) (Nat.le_of_ble_eq_true rfl) ⟨Nat.le_refl _, Nat.le_refl _⟩ dX7_readWell_38 (fun r12 w13 h => ?_)
        refine g_if_ne (pc := 41) C dX7_readWell_41 (tgt := 46) rfl (fun z14 => ?_) (fun z14 => ?_)
        · replace h := h.2 z14
          refine g_aload_n (pc := 46) C dX7_readWell_46 (q := 0) rfl ?_
          obtain ⟨k15, h⟩ := h
          refine gfX7_40 (pc := 47) C k15 dX7_readWell_47 ?_
          refine g_istore_n (pc := 50) C dX7_readWell_50 (Nat.le_of_ble_eq_true rfl) (lo' := [(1, .int (wI w13 a0 10)), (0, .ref (adr x a0))]) rfl ?_
          refine g_aload_n (pc := 51) C dX7_readWell_51 (q := 1) rfl ?_
          refine g_ldcS (pc := 52) C (q := 3) (k0 := 3) rfl (Nat.le_of_ble_eq_true rfl) dX7_readWell_52 ?_
          refine miX7_109 (pc := 54) C k15 h (Nat.le_of_ble_eq_true rfl) (Nat.le_of_ble_eq_true rfl) ⟨Nat.le_refl _, Nat.le_refl _⟩ dX7_readWell_54 (fun r16 w17 h => ?_)
          refine g_if_eq (pc := 57) C dX7_readWell_57 (tgt := 69) rfl (fun z18 => ?_) (fun z18 => ?_)
          · replace h := h.1 z18
            refine g_iconst (pc := 69) C dX7_readWell_69 (v := 0) rfl ?_
            exact g_zret (pc := 70) C hlk hr (Nat.le_refl _) (Nat.le_refl _) dX7_readWell_70 (Or.inl rfl) h
          · replace h := h.2 z18
            refine g_aload_n (pc := 60) C dX7_readWell_60 (q := 1) rfl ?_
            refine g_iconst (pc := 61) C dX7_readWell_61 (v := 1) rfl ?_
            refine g_iload_n (pc := 62) C dX7_readWell_62 (q := 0) rfl ?_
            obtain ⟨k19, h⟩ := h
            refine miX7_112 (pc := 63) C k19 h (Nat.le_of_ble_eq_true rfl) (Nat.le_of_ble_eq_true rfl) ⟨Nat.le_refl _, Nat.le_refl _⟩ dX7_readWell_63 (fun r20 w21 h => ?_)
            refine g_if_ne (pc := 66) C dX7_readWell_66 (tgt := 71) rfl (fun z22 => ?_) (fun z22 => ?_)
            · replace h := h.2 z22
              refine g_aload_n (pc := 71) C dX7_readWell_71 (q := 1) rfl ?_
              obtain ⟨k23, h⟩ := h
              refine gfX7_40 (pc := 72) C k23 dX7_readWell_72 ?_
              refine g_istore_n (pc := 75) C dX7_readWell_75 (Nat.le_of_ble_eq_true rfl) (lo' := [(2, .int (wI w21 a0 10)), (1, .int (wI w13 a0 10)), (0, .ref (adr x a0))]) rfl ?_
              refine g_aload_n (pc := 76) C dX7_readWell_76 (q := 2) rfl ?_
              refine g_ldcS (pc := 77) C (q := 4) (k0 := 4) rfl (Nat.le_of_ble_eq_true rfl) dX7_readWell_77 ?_
              refine g_iconst (pc := 79) C dX7_readWell_79 (v := 0) rfl ?_
              refine g_iload_n (pc := 80) C dX7_readWell_80 (q := 1) rfl ?_
              refine g_iconst (pc := 81) C dX7_readWell_81 (v := 1) rfl ?_
              refine g_isub (pc := 82) C dX7_readWell_82 ?_
              refine g_iconst (pc := 83) C dX7_readWell_83 (v := 0) rfl ?_
              refine miX7_120 (pc := 84) C k23 h (Nat.le_of_ble_eq_true rfl) (Nat.le_of_ble_eq_true rfl) ⟨Nat.le_refl _, Nat.le_refl _⟩ dX7_readWell_84 (fun r24 w25 h => ?_)
              refine g_if_ne (pc := 87) C dX7_readWell_87 (tgt := 92) rfl (fun z26 => ?_) (fun z26 => ?_)
              · replace h := h.2 z26
                refine g_aload_n (pc := 92) C dX7_readWell_92 (q := 2) rfl ?_
                obtain ⟨k27, h⟩ := h
                refine gfX7_40 (pc := 93) C k27 dX7_readWell_93 ?_
                refine g_istore_n (pc := 96) C dX7_readWell_96 (Nat.le_of_ble_eq_true rfl) (lo' := [(3, .int (wI w25 a0 10)), (2, .int (wI w21 a0 10)), (1, .int (wI w13 a0 10)), (0, .ref (adr x a0))]) rfl ?_
                refine g_aload_n (pc := 97) C dX7_readWell_97 (q := 3) rfl ?_
                refine g_ldcS (pc := 98) C (q := 5) (k0 := 5) rfl (Nat.le_of_ble_eq_true rfl) dX7_readWell_98 ?_
                refine g_iconst (pc := 100) C dX7_readWell_100 (v := 1) rfl ?_
                refine g_bipush (pc := 101) C dX7_readWell_101 (v := 99) rfl ?_
                refine g_bipush (pc := 103) C dX7_readWell_103 (v := 10) rfl ?_
                refine miX7_120 (pc := 105) C k27 h (Nat.le_of_ble_eq_true rfl) (Nat.le_of_ble_eq_true rfl) ⟨Nat.le_refl _, Nat.le_refl _⟩ dX7_readWell_105 (fun r28 w29 h => ?_)
                refine g_if_ne (pc := 108) C dX7_readWell_108 (tgt := 113) rfl (fun z30 => ?_) (fun z30 => ?_)
                · replace h := h.2 z30
                  refine g_aload_n (pc := 113) C dX7_readWell_113 (q := 3) rfl ?_
                  obtain ⟨k31, h⟩ := h
                  refine gfX7_40 (pc := 114) C k31 dX7_readWell_114 ?_
                  refine g_istore (pc := 117) C dX7_readWell_117 (Nat.le_of_ble_eq_true rfl) (lo' := [(4, .int (wI w29 a0 10)), (3, .int (wI w25 a0 10)), (2, .int (wI w21 a0 10)), (1, .int (wI w13 a0 10)), (0, .ref (adr x a0))]) rfl ?_
                  refine g_aload_n (pc := 119) C dX7_readWell_119 (q := 4) rfl ?_
                  refine g_ldcS (pc := 120) C (q := 6) (k0 := 6) rfl (Nat.le_of_ble_eq_true rfl) dX7_readWell_120 ?_
                  refine g_iconst (pc := 122) C dX7_readWell_122 (v := 0) rfl ?_
                  refine g_iload (pc := 123) C dX7_readWell_123 (q := 0) rfl ?_
                  refine g_iload (pc := 125) C dX7_readWell_125 (q := 0) rfl ?_
                  refine miX7_120 (pc := 127) C k31 h (Nat.le_of_ble_eq_true rfl) (Nat.le_of_ble_eq_true rfl) ⟨Nat.le_refl _, Nat.le_refl _⟩ dX7_readWell_127 (fun r32 w33 h => ?_)
                  refine g_if_ne (pc := 130) C dX7_readWell_130 (tgt := 135) rfl (fun z34 => ?_) (fun z34 => ?_)
                  · replace h := h.2 z34
                    refine g_aload_n (pc := 135) C dX7_readWell_135 (q := 4) rfl ?_
                    obtain ⟨k35, h⟩ := h
                    obtain ⟨k36, h⟩ := h
                    refine gfX7_50 (pc := 136) C k35 (isK_ne k36) dX7_readWell_136 ?_
                    refine g_iload_n (pc := 139) C dX7_readWell_139 (q := 3) rfl ?_
                    refine g_iload_n (pc := 140) C dX7_readWell_140 (q := 2) rfl ?_
                    refine g_iload_n (pc := 141) C dX7_readWell_141 (q := 1) rfl ?_
                    refine g_iload (pc := 142) C dX7_readWell_142 (q := 0) rfl ?_
                    refine g_aload_n (pc := 144) C dX7_readWell_144 (q := 4) rfl ?_
                    refine gfX7_40 (pc := 145) C k35 dX7_readWell_145 ?_
                    refine miX7_128 (pc := 148) C k36 h (Nat.le_of_ble_eq_true rfl) (Nat.le_of_ble_eq_true rfl) ⟨Nat.le_refl _, Nat.le_refl _⟩ dX7_readWell_148 (fun w37 h => ?_)
                    refine g_iconst (pc := 151) C dX7_readWell_151 (v := 1) rfl ?_
                    exact g_zret (pc := 152) C hlk hr (Nat.le_refl _) (Nat.le_refl _) dX7_readWell_152 (Or.inr rfl) h
                  · replace h := h.1 z34
                    refine g_iconst (pc := 133) C dX7_readWell_133 (v := 0) rfl ?_
                    exact g_zret (pc := 134) C hlk hr (Nat.le_refl _) (Nat.le_refl _) dX7_readWell_134 (Or.inl rfl) h
                · replace h := h.1 z30
                  refine g_iconst (pc := 111) C dX7_readWell_111 (v := 0) rfl ?_
                  exact g_zret (pc := 112) C hlk hr (Nat.le_refl _) (Nat.le_refl _) dX7_readWell_112 (Or.inl rfl) h
              · replace h := h.1 z26
                refine g_iconst (pc := 90) C dX7_readWell_90 (v := 0) rfl ?_
                exact g_zret (pc := 91) C hlk hr (Nat.le_refl _) (Nat.le_refl _) dX7_readWell_91 (Or.inl rfl) h
            · replace h := h.1 z22
              refine g_iconst (pc := 69) C dX7_readWell_69 (v := 0) rfl ?_
              exact g_zret (pc := 70) C hlk hr (Nat.le_refl _) (Nat.le_refl _) dX7_readWell_70 (Or.inl rfl) h
        · replace h := h.1 z14
          refine g_iconst (pc := 44) C dX7_readWell_44 (v := 0) rfl ?_
          exact g_zret (pc := 45) C hlk hr (Nat.le_refl _) (Nat.le_refl _) dX7_readWell_45 (Or.inl rfl) h
  · replace h := h.2 z3
    refine g_aload_n (pc := 12) C dX7_readWell_12 (q := 0) rfl ?_
    refine g_iconst (pc := 13) C dX7_readWell_13 (v := 4) rfl ?_
    refine miX7_100 (pc := 14) C k1 h (Nat.le_of_ble_eq_true rfl) (Nat.le_of_ble_eq_true rfl) ⟨Nat.le_refl _, Nat.le_refl _⟩ dX7_readWell_14 (fun r38 w39 h => ?_)
    exact g_zret (pc := 17) C hlk hr (Nat.le_refl _) (Nat.le_refl _) dX7_readWell_17 h.1 h.2
end ME
