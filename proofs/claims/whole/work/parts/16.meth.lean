/-! methods: X4_lawHolds, X4_wokenAtOnce, X4_wokenBy, X4_awakeOnesThatWake, X4_isFewer, X4_reachOf, X4_leastChorus, X4_leastShield, X4_lookAt, X4_over, X4_yawnsTill, X0_rouse, X0_coinInto, X0_drawFrom, X0_thunderOver, X0_carryOut, X0_whyNotCoin, X0_whyNotDraw, X0_whyNotLull, X0_whyNotTold, X3_next, X3_nextDeed, X8_addTo, X8_addWell, X8_turn -/
section ME
variable {x : xG} {p : Program} {l : Launch} {e : Env} {R : Room} {s : State} {m : MethodId} {args : Array Value} {below : List Frame} {meth : Method} {c : Code} {Q : State → Prop} {cc : ByteArray} {nL : Nat} {pc : Nat} {lo : List (Nat × Value)} {st : List Value} {w : Wd} {i j : Nat}
theorem miX4_50 (C : xC x p s m c cc nL args RX4) {a0 : Nat} {a1 : Int32} {K : Int32 → Wd → Prop} {D MC MS : Nat} (hq : isK w a0 1) (h : w_X1_besideOf a0 a1 K w) (hD : 0 + 1 ≤ D) (hW : (st.map fun v => v.category).sum ≤ 8) (hij : i ≤ MC ∧ j ≤ MS) (hd : decode cc pc = .ok (.invokevirtual 50, 3)) (k : ∀ (r : Int32) (u : Wd), K r u → GW x p l e (rmd D MC MS) s m args below meth c nL Q (pc + 3) lo (.int r :: st) u i j) : GW x p l e (rmd D MC MS) s m args below meth c nL Q pc lo (.int a1 :: .ref (adr x a0) :: st) w i j := g_callVi0 C (As := [.int a1]) (ci := 1) (c_X1_besideOf h) (x_cwV C 1 LMX4_50 ⟨rfl, by decide, by decide, rfl⟩ hD (by decide)) rfl hq (by decide) rfl rfl hW hd hij k
theorem miX4_78 (C : xC x p s m c cc nL args RX4) {a0 : Int32} {K : Int32 → Wd → Prop} {D MC MS : Nat} (h : w_J6_bitCount_0f7a4 a0 K w) (hD : 0 + 1 ≤ D) (hW : (st.map fun v => v.category).sum ≤ 8) (hij : i ≤ MC ∧ j ≤ MS) (hd : decode cc pc = .ok (.invokestatic 78, 3)) (k : ∀ (r : Int32) (u : Wd), K r u → GW x p l e (rmd D MC MS) s m args below meth c nL Q (pc + 3) lo (.int r :: st) u i j) : GW x p l e (rmd D MC MS) s m args below meth c nL Q pc lo (.int a0 :: st) w i j := g_callSi0 C (As := [.int a0]) (c_J6_bitCount_0f7a4 h) (x_cwS C 1 LMX4_78 ⟨by decide, by decide, rfl⟩ hD (by decide)) rfl rfl hW hd hij k
theorem miX4_83 (C : xC x p s m c cc nL args RX4) {a0 : Nat} {a1 : Int32} {K : Int32 → Wd → Prop} {D MC MS : Nat} (hq : isK w a0 1) (h : w_X1_deepOf a0 a1 K w) (hD : 0 + 1 ≤ D) (hW : (st.map fun v => v.category).sum ≤ 8) (hij : i ≤ MC ∧ j ≤ MS) (hd : decode cc pc = .ok (.invokevirtual 83, 3)) (k : ∀ (r : Int32) (u : Wd), K r u → GW x p l e (rmd D MC MS) s m args below meth c nL Q (pc + 3) lo (.int r :: st) u i j) : GW x p l e (rmd D MC MS) s m args below meth c nL Q pc lo (.int a1 :: .ref (adr x a0) :: st) w i j := g_callVi0 C (As := [.int a1]) (ci := 1) (c_X1_deepOf h) (x_cwV C 1 LMX4_83 ⟨rfl, by decide, by decide, rfl⟩ hD (by decide)) rfl hq (by decide) rfl rfl hW hd hij k
theorem miX4_86 (C : xC x p s m c cc nL args RX4) {a0 : Nat} {a1 : Int32} {K : Int32 → Wd → Prop} {D MC MS : Nat} (hq : isK w a0 2) (h : w_X2_waterOf a0 a1 K w) (hD : 0 + 1 ≤ D) (hW : (st.map fun v => v.category).sum ≤ 8) (hij : i ≤ MC ∧ j ≤ MS) (hd : decode cc pc = .ok (.invokevirtual 86, 3)) (k : ∀ (r : Int32) (u : Wd), K r u → GW x p l e (rmd D MC MS) s m args below meth c nL Q (pc + 3) lo (.int r :: st) u i j) : GW x p l e (rmd D MC MS) s m args below meth c nL Q pc lo (.int a1 :: .ref (adr x a0) :: st) w i j := g_callVi0 C (As := [.int a1]) (ci := 2) (c_X2_waterOf h) (x_cwV C 1 LMX4_86 ⟨rfl, by decide, by decide, rfl⟩ hD (by decide)) rfl hq (by decide) rfl rfl hW hd hij k
theorem miX4_92 (C : xC x p s m c cc nL args RX4) {a0 : Nat} {a1 : Int32} {K : Int32 → Wd → Prop} {D MC MS : Nat} (hq : isK w a0 2) (h : w_X2_phaseOf a0 a1 K w) (hD : 0 + 1 ≤ D) (hW : (st.map fun v => v.category).sum ≤ 8) (hij : i ≤ MC ∧ j ≤ MS) (hd : decode cc pc = .ok (.invokevirtual 92, 3)) (k : ∀ (r : Int32) (u : Wd), K r u → GW x p l e (rmd D MC MS) s m args below meth c nL Q (pc + 3) lo (.int r :: st) u i j) : GW x p l e (rmd D MC MS) s m args below meth c nL Q pc lo (.int a1 :: .ref (adr x a0) :: st) w i j := g_callVi0 C (As := [.int a1]) (ci := 2) (c_X2_phaseOf h) (x_cwV C 1 LMX4_92 ⟨rfl, by decide, by decide, rfl⟩ hD (by decide)) rfl hq (by decide) rfl rfl hW hd hij k
theorem miX4_98 (C : xC x p s m c cc nL args RX4) {a0 : Nat} {a1 : Int32} {K : Int32 → Wd → Prop} {D MC MS : Nat} (hq : isK w a0 4) (h : w_X4_valueOf a0 a1 K w) (hD : 0 + 1 ≤ D) (hW : (st.map fun v => v.category).sum ≤ 8) (hij : i ≤ MC ∧ j ≤ MS) (hd : decode cc pc = .ok (.invokevirtual 98, 3)) (k : ∀ (r : Int32) (u : Wd), K r u → GW x p l e (rmd D MC MS) s m args below meth c nL Q (pc + 3) lo (.int r :: st) u i j) : GW x p l e (rmd D MC MS) s m args below meth c nL Q pc lo (.int a1 :: .ref (adr x a0) :: st) w i j := g_callVi0 C (As := [.int a1]) (ci := 4) (c_X4_valueOf h) (x_cwV C 1 LMX4_98 ⟨rfl, by decide, by decide, rfl⟩ hD (by decide)) rfl hq (by decide) rfl rfl hW hd hij k
theorem miX4_101 (C : xC x p s m c cc nL args RX4) {a0 : Int32} {a1 : Int64} {a3 : Int64} {K : Int32 → Wd → Prop} {D MC MS : Nat} (h : w_X4_joinTwo a0 a1 a3 K w) (hD : 0 + 1 ≤ D) (hW : (st.map fun v => v.category).sum ≤ 8) (hij : i ≤ MC ∧ j ≤ MS) (hd : decode cc pc = .ok (.invokestatic 101, 3)) (k : ∀ (r : Int32) (u : Wd), K r u → GW x p l e (rmd D MC MS) s m args below meth c nL Q (pc + 3) lo (.int r :: st) u i j) : GW x p l e (rmd D MC MS) s m args below meth c nL Q pc lo (.long a3 :: .long a1 :: .int a0 :: st) w i j := g_callSi0 C (As := [.int a0, .long a1, .long a3]) (c_X4_joinTwo h) (x_cwS C 3 LMX4_101 ⟨by decide, by decide, rfl⟩ hD (by decide)) rfl rfl hW hd hij k
def j_X4_lawHolds_245 (B : Nat → Nat → Int32 → Int32 → Wd → Prop) (E294 : Nat → Int32 → Wd → Prop) (K : Int32 → Wd → Prop) (a0 : Nat) (a4 : Nat) (a5 : Int32) (a6 : Int32) (a7 : Int32) (w : Wd) : Prop :=
  ((a5 < 2 → B a0 a4 a5 (a6 + 1) w) ∧ (¬ a5 < 2 → isK w a0 4 ∧ isK w (wR w a0 5) 20 ∧ vp_in (a5 - 2) (wn w (wR w a0 5)) ∧ vp_in (a5 - 1) (wn w (wR w a0 5)) ∧ w_X4_joinTwo a7 ((wI w (wR w a0 5) (a5 - 2).toNatClampNeg).toInt64) ((wI w (wR w a0 5) (a5 - 1).toNatClampNeg).toInt64) (fun r65 w66 => isK w66 (wR w a0 5) 20 ∧ vp_in (a5 - 2) (wn w66 (wR w a0 5)) ∧ B a0 a4 (a5 + (-1)) (a6 + 1) (uI w66 (wR w a0 5) (a5 - 2).toNatClampNeg r65)) w))
def j_X4_lawHolds_208 (B : Nat → Nat → Int32 → Int32 → Wd → Prop) (E294 : Nat → Int32 → Wd → Prop) (K : Int32 → Wd → Prop) (a0 : Nat) (a4 : Nat) (a5 : Int32) (a6 : Int32) (a7 : Int32) (w : Wd) : Prop :=
  ((a7 = 2008 → ((a5 < 1 → j_X4_lawHolds_245 B E294 K a0 a4 a5 a6 a7 w) ∧ (¬ a5 < 1 → isK w a0 4 ∧ isK w (wR w a0 5) 20 ∧ vp_in (a5 - 1) (wn w (wR w a0 5)) ∧ vp_in (a5 - 1) (wn w (wR w a0 5)) ∧ B a0 a4 a5 (a6 + 1) (uI w (wR w a0 5) (a5 - 1).toNatClampNeg (1 - (wI w (wR w a0 5) (a5 - 1).toNatClampNeg)))))) ∧ (¬ a7 = 2008 → j_X4_lawHolds_245 B E294 K a0 a4 a5 a6 a7 w))
def l_X4_lawHolds_139 (E294 : Nat → Int32 → Wd → Prop) (K : Int32 → Wd → Prop) : Nat → Nat → Nat → Int32 → Int32 → Wd → Prop
  | 0, _, _, _, _, _ => False
  | n + 1, a0, a4, a5, a6, w => (a4 = 1 ∨ isK w a4 20) ∧ (((Int32.ofNat (wn w a4)) ≤ a6 → E294 a0 a5 w) ∧ (¬ (Int32.ofNat (wn w a4)) ≤ a6 → isK w a4 20 ∧ vp_in a6 (wn w a4) ∧ ((2000 ≤ (wI w a4 a6.toNatClampNeg) → j_X4_lawHolds_208 (l_X4_lawHolds_139 E294 K n) E294 K a0 a4 a5 a6 (wI w a4 a6.toNatClampNeg) w) ∧ (¬ 2000 ≤ (wI w a4 a6.toNatClampNeg) → isK w a0 4 ∧ isK w (wR w a0 5) 20 ∧ (((Int32.ofNat (wn w (wR w a0 5))) ≤ a5 → j_X4_lawHolds_208 (l_X4_lawHolds_139 E294 K n) E294 K a0 a4 a5 a6 (wI w a4 a6.toNatClampNeg) w) ∧ (¬ (Int32.ofNat (wn w (wR w a0 5))) ≤ a5 → ((1000 ≤ (wI w a4 a6.toNatClampNeg) → w_X4_valueOf a0 ((wI w a4 a6.toNatClampNeg) - 1000) (fun r78 w79 => isK w79 (wR w a0 5) 20 ∧ vp_in a5 (wn w79 (wR w a0 5)) ∧ l_X4_lawHolds_139 E294 K n a0 a4 (a5 + 1) (a6 + 1) (uI w79 (wR w a0 5) a5.toNatClampNeg r78)) w) ∧ (¬ 1000 ≤ (wI w a4 a6.toNatClampNeg) → vp_in a5 (wn w (wR w a0 5)) ∧ l_X4_lawHolds_139 E294 K n a0 a4 (a5 + 1) (a6 + 1) (uI w (wR w a0 5) a5.toNatClampNeg (wI w a4 a6.toNatClampNeg))))))))))
def w_X4_lawHolds (a0 : Nat) (a1 : Int32) (a2 : Int32) (a3 : Int32) (K : Int32 → Wd → Prop) (w : Wd) : Prop :=
  isK w a0 4 ∧ isK w (wR w a0 4) 20 ∧ isK w (wR w a0 0) 2 ∧ isK w (wR w (wR w a0 0) 0) 1 ∧ w_X1_deepOf (wR w (wR w a0 0) 0) a1 (fun r5 w6 => isK w6 (wR w a0 4) 20 ∧ vp_in 0 (wn w6 (wR w a0 4)) ∧ isK w6 a0 4 ∧ isK w6 (wR w6 a0 4) 20 ∧ isK w6 (wR w6 a0 0) 2 ∧ isK w6 (wR w6 (wR w6 a0 0) 0) 1 ∧ w_X1_deepOf (wR w6 (wR w6 a0 0) 0) a2 (fun r13 w14 => isK w14 (wR w6 a0 4) 20 ∧ vp_in 1 (wn w14 (wR w6 a0 4)) ∧ isK w14 a0 4 ∧ isK w14 (wR w14 a0 4) 20 ∧ isK w14 (wR w14 a0 0) 2 ∧ w_X2_waterOf (wR w14 a0 0) a1 (fun r20 w21 => isK w21 (wR w14 a0 4) 20 ∧ vp_in 2 (wn w21 (wR w14 a0 4)) ∧ isK w21 a0 4 ∧ isK w21 (wR w21 a0 4) 20 ∧ isK w21 (wR w21 a0 0) 2 ∧ w_X2_waterOf (wR w21 a0 0) a2 (fun r27 w28 => isK w28 (wR w21 a0 4) 20 ∧ vp_in 3 (wn w28 (wR w21 a0 4)) ∧ isK w28 a0 4 ∧ isK w28 (wR w28 a0 4) 20 ∧ vp_in 4 (wn w28 (wR w28 a0 4)) ∧ isK w28 (wR w28 a0 0) 2 ∧ vp_in 5 (wn w28 (wR w28 a0 4)) ∧ w_X2_phaseOf (wR w28 a0 0) a2 (fun r36 w37 => isK w37 (wR w28 a0 4) 20 ∧ vp_in 6 (wn w37 (wR w28 a0 4)) ∧ isK w37 a0 4 ∧ isK w37 (wR w37 a0 4) 20 ∧ isK w37 (wR w37 a0 0) 2 ∧ isK w37 (wR w37 (wR w37 a0 0) 0) 1 ∧ w_X1_besideOf (wR w37 (wR w37 a0 0) 0) a1 (fun r44 w45 => w_J6_bitCount_0f7a4 r44 (fun r46 w47 => isK w47 (wR w37 a0 4) 20 ∧ vp_in 7 (wn w47 (wR w37 a0 4)) ∧ isK w47 a0 4 ∧ isK w47 (wR w47 a0 0) 2 ∧ isK w47 (wR w47 (wR w47 a0 0) 0) 1 ∧ (wR w47 (wR w47 (wR w47 a0 0) 0) 4 = 1 ∨ isK w47 (wR w47 (wR w47 (wR w47 a0 0) 0) 4) 20) ∧ ∃ n91, l_X4_lawHolds_139 (fun b83 b84 w85 => ((b84 < 1 → K 0 w85) ∧ (¬ b84 < 1 → isK w85 b83 4 ∧ isK w85 (wR w85 b83 5) 20 ∧ vp_in 0 (wn w85 (wR w85 b83 5)) ∧ (((wI w85 (wR w85 b83 5) (0 : Int32).toNatClampNeg) = 0 → K 0 w85) ∧ (¬ (wI w85 (wR w85 b83 5) (0 : Int32).toNatClampNeg) = 0 → K 1 w85))))) K n91 a0 (wR w47 (wR w47 (wR w47 a0 0) 0) 4) 0 0 (uI w47 (wR w37 a0 4) (7 : Int32).toNatClampNeg r46)) w45) (uI w37 (wR w28 a0 4) (6 : Int32).toNatClampNeg r36)) (uI (uI (uI w28 (wR w21 a0 4) (3 : Int32).toNatClampNeg r27) (wR w28 a0 4) (4 : Int32).toNatClampNeg a3) (wR w28 a0 4) (5 : Int32).toNatClampNeg (x_irem (wI (uI (uI w28 (wR w21 a0 4) (3 : Int32).toNatClampNeg r27) (wR w28 a0 4) (4 : Int32).toNatClampNeg a3) (wR w28 a0 0) 1) 24))) (uI w21 (wR w14 a0 4) (2 : Int32).toNatClampNeg r20)) (uI w14 (wR w6 a0 4) (1 : Int32).toNatClampNeg r13)) (uI w6 (wR w a0 4) (0 : Int32).toNatClampNeg r5)) w
theorem t_X4_lawHolds_245 (C : xC x p s m c cX4_lawHolds 8 args RX4) (hlk : meth.locks = false) (hr : meth.sig.returnType = some .boolean) {K : Int32 → Wd → Prop} {B : Nat → Nat → Int32 → Int32 → Wd → Prop} {E294 : Nat → Int32 → Wd → Prop} (hB : ∀ (b0 : Nat) (b4 : Nat) (b5 : Int32) (b6 : Int32) (w : Wd), B b0 b4 b5 b6 w → GW x p l e (rmd 1 0 0) s m args below meth c 8 (QI x K below args s 0 0) 139 [(0, .ref (adr x b0)), (4, .ref (adr x b4)), (5, .int b5), (6, .int b6)] [] w 0 0) (hE294 : ∀ (b0 : Nat) (b5 : Int32) (w : Wd), E294 b0 b5 w → GW x p l e (rmd 1 0 0) s m args below meth c 8 (QI x K below args s 0 0) 294 [(0, .ref (adr x b0)), (5, .int b5)] [] w 0 0) (a0 : Nat) (a4 : Nat) (a5 : Int32) (a6 : Int32) (a7 : Int32) (w : Wd) (h : j_X4_lawHolds_245 B E294 K a0 a4 a5 a6 a7 w) : GW x p l e (rmd 1 0 0) s m args below meth c 8 (QI x K below args s 0 0) 245 [(0, .ref (adr x a0)), (4, .ref (adr x a4)), (5, .int a5), (6, .int a6), (7, .int a7)] [] w 0 0 := by
  refine g_iload (pc := 245) C dX4_lawHolds_245 (q := 2) rfl ?_
  refine g_iconst (pc := 247) C dX4_lawHolds_247 (v := 2) rfl ?_
  refine g_icmp_lt (pc := 248) C dX4_lawHolds_248 (tgt := 288) rfl (fun z60 => ?_) (fun z60 => ?_)
  · replace h := h.1 z60
    refine g_iinc (pc := 288) C dX4_lawHolds_288 (q := 3) rfl (v2 := a6 + 1) rfl (Nat.le_of_ble_eq_true rfl) (lo' := [(6, .int (a6 + 1)), (0, .ref (adr x a0)), (4, .ref (adr x a4)), (5, .int a5), (7, .int a7)]) rfl ?_
    refine g_goto (pc := 291) C dX4_lawHolds_291 (tgt := 139) rfl ?_
    refine g_sub [1, 2, 3, 0] rfl ?_
    exact hB _ _ _ _ _ h
  · replace h := h.2 z60
    refine g_aload_n (pc := 251) C dX4_lawHolds_251 (q := 0) rfl ?_
    obtain ⟨k61, h⟩ := h
    obtain ⟨k62, h⟩ := h
    refine gfX4_25 (pc := 252) C k61 (isK_ne k62) dX4_lawHolds_252 ?_
    refine g_iload (pc := 255) C dX4_lawHolds_255 (q := 2) rfl ?_
    refine g_iconst (pc := 257) C dX4_lawHolds_257 (v := 2) rfl ?_
    refine g_isub (pc := 258) C dX4_lawHolds_258 ?_
    refine g_iload (pc := 259) C dX4_lawHolds_259 (q := 4) rfl ?_
    refine g_aload_n (pc := 261) C dX4_lawHolds_261 (q := 0) rfl ?_
    refine gfX4_25 (pc := 262) C k61 (isK_ne k62) dX4_lawHolds_262 ?_
    refine g_iload (pc := 265) C dX4_lawHolds_265 (q := 2) rfl ?_
    refine g_iconst (pc := 267) C dX4_lawHolds_267 (v := 2) rfl ?_
    refine g_isub (pc := 268) C dX4_lawHolds_268 ?_
    obtain ⟨k63, h⟩ := h
    refine g_iald (pc := 269) C k62 k63 dX4_lawHolds_269 ?_
    refine g_i2l (pc := 270) C dX4_lawHolds_270 ?_
    refine g_aload_n (pc := 271) C dX4_lawHolds_271 (q := 0) rfl ?_
    refine gfX4_25 (pc := 272) C k61 (isK_ne k62) dX4_lawHolds_272 ?_
    refine g_iload (pc := 275) C dX4_lawHolds_275 (q := 2) rfl ?_
    refine g_iconst (pc := 277) C dX4_lawHolds_277 (v := 1) rfl ?_
    refine g_isub (pc := 278) C dX4_lawHolds_278 ?_
    obtain ⟨k64, h⟩ := h
    refine g_iald (pc := 279) C k62 k64 dX4_lawHolds_279 ?_
    refine g_i2l (pc := 280) C dX4_lawHolds_280 ?_
    refine miX4_101 (pc := 281) C h (Nat.le_of_ble_eq_true rfl) (Nat.le_of_ble_eq_true rfl) ⟨Nat.le_refl _, Nat.le_refl _⟩ dX4_lawHolds_281 (fun r65 w66 h => ?_)
    obtain ⟨k67, h⟩ := h
    obtain ⟨k68, h⟩ := h
    refine g_iast (pc := 284) C k67 k68 dX4_lawHolds_284 ?_
    refine g_iinc (pc := 285) C dX4_lawHolds_285 (q := 2) rfl (v2 := a5 + (-1)) rfl (Nat.le_of_ble_eq_true rfl) (lo' := [(5, .int (a5 + (-1))), (0, .ref (adr x a0)), (4, .ref (adr x a4)), (6, .int a6), (7, .int a7)]) rfl ?_
    refine g_iinc (pc := 288) C dX4_lawHolds_288 (q := 3) rfl (v2 := a6 + 1) rfl (Nat.le_of_ble_eq_true rfl) (lo' := [(6, .int (a6 + 1)), (5, .int (a5 + (-1))), (0, .ref (adr x a0)), (4, .ref (adr x a4)), (7, .int a7)]) rfl ?_
    refine g_goto (pc := 291) C dX4_lawHolds_291 (tgt := 139) rfl ?_
    refine g_sub [2, 3, 1, 0] rfl ?_
    exact hB _ _ _ _ _ h
theorem t_X4_lawHolds_208 (C : xC x p s m c cX4_lawHolds 8 args RX4) (hlk : meth.locks = false) (hr : meth.sig.returnType = some .boolean) {K : Int32 → Wd → Prop} {B : Nat → Nat → Int32 → Int32 → Wd → Prop} {E294 : Nat → Int32 → Wd → Prop} (hB : ∀ (b0 : Nat) (b4 : Nat) (b5 : Int32) (b6 : Int32) (w : Wd), B b0 b4 b5 b6 w → GW x p l e (rmd 1 0 0) s m args below meth c 8 (QI x K below args s 0 0) 139 [(0, .ref (adr x b0)), (4, .ref (adr x b4)), (5, .int b5), (6, .int b6)] [] w 0 0) (hE294 : ∀ (b0 : Nat) (b5 : Int32) (w : Wd), E294 b0 b5 w → GW x p l e (rmd 1 0 0) s m args below meth c 8 (QI x K below args s 0 0) 294 [(0, .ref (adr x b0)), (5, .int b5)] [] w 0 0) (a0 : Nat) (a4 : Nat) (a5 : Int32) (a6 : Int32) (a7 : Int32) (w : Wd) (h : j_X4_lawHolds_208 B E294 K a0 a4 a5 a6 a7 w) : GW x p l e (rmd 1 0 0) s m args below meth c 8 (QI x K below args s 0 0) 208 [(0, .ref (adr x a0)), (4, .ref (adr x a4)), (5, .int a5), (6, .int a6), (7, .int a7)] [] w 0 0 := by
  refine g_iload (pc := 208) C dX4_lawHolds_208 (q := 4) rfl ?_
  refine g_sipush (pc := 210) C dX4_lawHolds_210 (v := 2008) rfl ?_
  refine g_icmp_ne (pc := 213) C dX4_lawHolds_213 (tgt := 245) rfl (fun z59 => ?_) (fun z59 => ?_)
  · replace h := h.2 z59
    exact t_X4_lawHolds_245 C hlk hr hB hE294 _ _ _ _ _ _ h
  · replace h := h.1 z59
    refine g_iload (pc := 216) C dX4_lawHolds_216 (q := 2) rfl ?_
    refine g_iconst (pc := 218) C dX4_lawHolds_218 (v := 1) rfl ?_
    refine g_icmp_lt (pc := 219) C dX4_lawHolds_219 (tgt := 245) rfl (fun z69 => ?_) (fun z69 => ?_)
    · replace h := h.1 z69
      exact t_X4_lawHolds_245 C hlk hr hB hE294 _ _ _ _ _ _ h
    · replace h := h.2 z69
      refine g_aload_n (pc := 222) C dX4_lawHolds_222 (q := 0) rfl ?_
      obtain ⟨k70, h⟩ := h
      obtain ⟨k71, h⟩ := h
      refine gfX4_25 (pc := 223) C k70 (isK_ne k71) dX4_lawHolds_223 ?_
      refine g_iload (pc := 226) C dX4_lawHolds_226 (q := 2) rfl ?_
      refine g_iconst (pc := 228) C dX4_lawHolds_228 (v := 1) rfl ?_
      refine g_isub (pc := 229) C dX4_lawHolds_229 ?_
      refine g_iconst (pc := 230) C dX4_lawHolds_230 (v := 1) rfl ?_
      refine g_aload_n (pc := 231) C dX4_lawHolds_231 (q := 0) rfl ?_
      refine gfX4_25 (pc := 232) C k70 (isK_ne k71) dX4_lawHolds_232 ?_
      refine g_iload (pc := 235) C dX4_lawHolds_235 (q := 2) rfl ?_
      refine g_iconst (pc := 237) C dX4_lawHolds_237 (v := 1) rfl ?_
      refine g_isub (pc := 238) C dX4_lawHolds_238 ?_
      obtain ⟨k72, h⟩ := h
      refine g_iald (pc := 239) C k71 k72 dX4_lawHolds_239 ?_
      refine g_isub (pc := 240) C dX4_lawHolds_240 ?_
      obtain ⟨k73, h⟩ := h
      refine g_iast (pc := 241) C k71 k73 dX4_lawHolds_241 ?_
      refine g_goto (pc := 242) C dX4_lawHolds_242 (tgt := 288) rfl ?_
      refine g_iinc (pc := 288) C dX4_lawHolds_288 (q := 3) rfl (v2 := a6 + 1) rfl (Nat.le_of_ble_eq_true rfl) (lo' := [(6, .int (a6 + 1)), (0, .ref (adr x a0)), (4, .ref (adr x a4)), (5, .int a5), (7, .int a7)]) rfl ?_
      refine g_goto (pc := 291) C dX4_lawHolds_291 (tgt := 139) rfl ?_
      refine g_sub [1, 2, 3, 0] rfl ?_
      exact hB _ _ _ _ _ h
theorem t_X4_lawHolds_139 (C : xC x p s m c cX4_lawHolds 8 args RX4) (hlk : meth.locks = false) (hr : meth.sig.returnType = some .boolean) {K : Int32 → Wd → Prop} {E294 : Nat → Int32 → Wd → Prop} (hE294 : ∀ (b0 : Nat) (b5 : Int32) (w : Wd), E294 b0 b5 w → GW x p l e (rmd 1 0 0) s m args below meth c 8 (QI x K below args s 0 0) 294 [(0, .ref (adr x b0)), (5, .int b5)] [] w 0 0) : ∀ (n : Nat) (a0 : Nat) (a4 : Nat) (a5 : Int32) (a6 : Int32) (w : Wd), l_X4_lawHolds_139 E294 K n a0 a4 a5 a6 w → GW x p l e (rmd 1 0 0) s m args below meth c 8 (QI x K below args s 0 0) 139 [(0, .ref (adr x a0)), (4, .ref (adr x a4)), (5, .int a5), (6, .int a6)] [] w 0 0 := by
  intro n
  induction n with
  | zero => intro _ _ _ _ _ h; exact False.elim h
  | succ n ih =>
    intro a0 a4 a5 a6 w h
    refine g_iload (pc := 139) C dX4_lawHolds_139 (q := 3) rfl ?_
    refine g_aload (pc := 141) C dX4_lawHolds_141 (q := 1) rfl ?_
    obtain ⟨k54, h⟩ := h
    refine g_alenI (pc := 143) C k54 dX4_lawHolds_143 ?_
    refine g_icmp_ge (pc := 144) C dX4_lawHolds_144 (tgt := 294) rfl (fun z55 => ?_) (fun z55 => ?_)
    · replace h := h.1 z55
      refine g_sub [0, 2] rfl ?_
      exact hE294 _ _ _ h
    · replace h := h.2 z55
      refine g_aload (pc := 147) C dX4_lawHolds_147 (q := 1) rfl ?_
      refine g_iload (pc := 149) C dX4_lawHolds_149 (q := 3) rfl ?_
      obtain ⟨k56, h⟩ := h
      obtain ⟨k57, h⟩ := h
      refine g_iald (pc := 151) C k56 k57 dX4_lawHolds_151 ?_
      refine g_istore (pc := 152) C dX4_lawHolds_152 (Nat.le_of_ble_eq_true rfl) (lo' := [(7, .int (wI w a4 a6.toNatClampNeg)), (0, .ref (adr x a0)), (4, .ref (adr x a4)), (5, .int a5), (6, .int a6)]) rfl ?_
      refine g_iload (pc := 154) C dX4_lawHolds_154 (q := 0) rfl ?_
      refine g_sipush (pc := 156) C dX4_lawHolds_156 (v := 2000) rfl ?_
      refine g_icmp_ge (pc := 159) C dX4_lawHolds_159 (tgt := 208) rfl (fun z58 => ?_) (fun z58 => ?_)
      · replace h := h.1 z58
        refine g_sub [1, 2, 3, 4, 0] rfl ?_
        exact t_X4_lawHolds_208 C hlk hr ih hE294 _ _ _ _ _ _ h
      · replace h := h.2 z58
        refine g_iload (pc := 162) C dX4_lawHolds_162 (q := 3) rfl ?_
        refine g_aload_n (pc := 164) C dX4_lawHolds_164 (q := 1) rfl ?_
        obtain ⟨k74, h⟩ := h
        obtain ⟨k75, h⟩ := h
        refine gfX4_25 (pc := 165) C k74 (isK_ne k75) dX4_lawHolds_165 ?_
        refine g_alen (pc := 168) C k75 (by decide) dX4_lawHolds_168 ?_
        refine g_icmp_ge (pc := 169) C dX4_lawHolds_169 (tgt := 208) rfl (fun z76 => ?_) (fun z76 => ?_)
        · replace h := h.1 z76
          refine g_sub [1, 2, 3, 4, 0] rfl ?_
          exact t_X4_lawHolds_208 C hlk hr ih hE294 _ _ _ _ _ _ h
        · replace h := h.2 z76
          refine g_aload_n (pc := 172) C dX4_lawHolds_172 (q := 1) rfl ?_
          refine gfX4_25 (pc := 173) C k74 (isK_ne k75) dX4_lawHolds_173 ?_
          refine g_iload (pc := 176) C dX4_lawHolds_176 (q := 3) rfl ?_
          refine g_iload (pc := 178) C dX4_lawHolds_178 (q := 0) rfl ?_
          refine g_sipush (pc := 180) C dX4_lawHolds_180 (v := 1000) rfl ?_
          refine g_icmp_ge (pc := 183) C dX4_lawHolds_183 (tgt := 191) rfl (fun z77 => ?_) (fun z77 => ?_)
          · replace h := h.1 z77
            refine g_aload_n (pc := 191) C dX4_lawHolds_191 (q := 1) rfl ?_
            refine g_iload (pc := 192) C dX4_lawHolds_192 (q := 0) rfl ?_
            refine g_sipush (pc := 194) C dX4_lawHolds_194 (v := 1000) rfl ?_
            refine g_isub (pc := 197) C dX4_lawHolds_197 ?_
            refine miX4_98 (pc := 198) C k74 h (Nat.le_of_ble_eq_true rfl) (Nat.le_of_ble_eq_true rfl) ⟨Nat.le_refl _, Nat.le_refl _⟩ dX4_lawHolds_198 (fun r78 w79 h => ?_)
            obtain ⟨k80, h⟩ := h
            obtain ⟨k81, h⟩ := h
            refine g_iast (pc := 201) C k80 k81 dX4_lawHolds_201 ?_
            refine g_iinc (pc := 202) C dX4_lawHolds_202 (q := 3) rfl (v2 := a5 + 1) rfl (Nat.le_of_ble_eq_true rfl) (lo' := [(5, .int (a5 + 1)), (7, .int (wI w a4 a6.toNatClampNeg)), (0, .ref (adr x a0)), (4, .ref (adr x a4)), (6, .int a6)]) rfl ?_
            refine g_goto (pc := 205) C dX4_lawHolds_205 (tgt := 288) rfl ?_
            refine g_iinc (pc := 288) C dX4_lawHolds_288 (q := 4) rfl (v2 := a6 + 1) rfl (Nat.le_of_ble_eq_true rfl) (lo' := [(6, .int (a6 + 1)), (5, .int (a5 + 1)), (7, .int (wI w a4 a6.toNatClampNeg)), (0, .ref (adr x a0)), (4, .ref (adr x a4))]) rfl ?_
            refine g_goto (pc := 291) C dX4_lawHolds_291 (tgt := 139) rfl ?_
            refine g_sub [3, 4, 1, 0] rfl ?_
            exact ih _ _ _ _ _ h
          · replace h := h.2 z77
            refine g_iload (pc := 186) C dX4_lawHolds_186 (q := 0) rfl ?_
            refine g_goto (pc := 188) C dX4_lawHolds_188 (tgt := 201) rfl ?_
            obtain ⟨k82, h⟩ := h
            refine g_iast (pc := 201) C k75 k82 dX4_lawHolds_201 ?_
            refine g_iinc (pc := 202) C dX4_lawHolds_202 (q := 3) rfl (v2 := a5 + 1) rfl (Nat.le_of_ble_eq_true rfl) (lo' := [(5, .int (a5 + 1)), (7, .int (wI w a4 a6.toNatClampNeg)), (0, .ref (adr x a0)), (4, .ref (adr x a4)), (6, .int a6)]) rfl ?_
            refine g_goto (pc := 205) C dX4_lawHolds_205 (tgt := 288) rfl ?_
            refine g_iinc (pc := 288) C dX4_lawHolds_288 (q := 4) rfl (v2 := a6 + 1) rfl (Nat.le_of_ble_eq_true rfl) (lo' := [(6, .int (a6 + 1)), (5, .int (a5 + 1)), (7, .int (wI w a4 a6.toNatClampNeg)), (0, .ref (adr x a0)), (4, .ref (adr x a4))]) rfl ?_
            refine g_goto (pc := 291) C dX4_lawHolds_291 (tgt := 139) rfl ?_
            refine g_sub [3, 4, 1, 0] rfl ?_
            exact ih _ _ _ _ _ h
theorem c_X4_lawHolds {x : xG} {l : Launch} {a0 : Nat} {a1 : Int32} {a2 : Int32} {a3 : Int32} {K : Int32 → Wd → Prop} {w : Wd} (h : w_X4_lawHolds a0 a1 a2 a3 K w) : Met l yX4_lawHolds (xws yX4_lawHolds cX4_lawHolds 8 (some .boolean)) (rmd 1 0 0) (xPc x [.ref (adr x a0), .int a1, .int a2, .int a3] w) (QcI x K) 0 0 (xA x) := by
  refine xMet (by decide) (Nat.le_of_ble_eq_true rfl) (fun p e s m below meth c C hlk hr _ => ?_)
  show GW x p l e (rmd 1 0 0) s m [.ref (adr x a0), .int a1, .int a2, .int a3].toArray below meth c 8 (QI x K below [.ref (adr x a0), .int a1, .int a2, .int a3].toArray s 0 0) 0 [(0, .ref (adr x a0)), (1, .int a1), (2, .int a2), (3, .int a3)] [] w 0 0
  refine g_aload_n (pc := 0) C dX4_lawHolds_0 (q := 0) rfl ?_
  obtain ⟨k1, h⟩ := h
  obtain ⟨k2, h⟩ := h
  refine gfX4_22 (pc := 1) C k1 (isK_ne k2) dX4_lawHolds_1 ?_
  refine g_iconst (pc := 4) C dX4_lawHolds_4 (v := 0) rfl ?_
  refine g_aload_n (pc := 5) C dX4_lawHolds_5 (q := 0) rfl ?_
  obtain ⟨k3, h⟩ := h
  refine gfX4_28 (pc := 6) C k1 (isK_ne k3) dX4_lawHolds_6 ?_
  obtain ⟨k4, h⟩ := h
  refine gfX4_46 (pc := 9) C k3 (isK_ne k4) dX4_lawHolds_9 ?_
  refine g_iload_n (pc := 12) C dX4_lawHolds_12 (q := 1) rfl ?_
  refine miX4_83 (pc := 13) C k4 h (Nat.le_of_ble_eq_true rfl) (Nat.le_of_ble_eq_true rfl) ⟨Nat.le_refl _, Nat.le_refl _⟩ dX4_lawHolds_13 (fun r5 w6 h => ?_)
  obtain ⟨k7, h⟩ := h
  obtain ⟨k8, h⟩ := h
  refine g_iast (pc := 16) C k7 k8 dX4_lawHolds_16 ?_
  refine g_aload_n (pc := 17) C dX4_lawHolds_17 (q := 0) rfl ?_
  obtain ⟨k9, h⟩ := h
  obtain ⟨k10, h⟩ := h
  refine gfX4_22 (pc := 18) (w := uI w6 (wR w a0 4) (0 : Int32).toNatClampNeg r5) C k9 (isK_ne k10) dX4_lawHolds_18 ?_
  refine g_iconst (pc := 21) C dX4_lawHolds_21 (v := 1) rfl ?_
  refine g_aload_n (pc := 22) C dX4_lawHolds_22 (q := 0) rfl ?_
  obtain ⟨k11, h⟩ := h
  refine gfX4_28 (pc := 23) (w := uI w6 (wR w a0 4) (0 : Int32).toNatClampNeg r5) C k9 (isK_ne k11) dX4_lawHolds_23 ?_
  obtain ⟨k12, h⟩ := h
  refine gfX4_46 (pc := 26) (w := uI w6 (wR w a0 4) (0 : Int32).toNatClampNeg r5) C k11 (isK_ne k12) dX4_lawHolds_26 ?_
  refine g_iload_n (pc := 29) C dX4_lawHolds_29 (q := 2) rfl ?_
  refine miX4_83 (pc := 30) (w := uI w6 (wR w a0 4) (0 : Int32).toNatClampNeg r5) C k12 h (Nat.le_of_ble_eq_true rfl) (Nat.le_of_ble_eq_true rfl) ⟨Nat.le_refl _, Nat.le_refl _⟩ dX4_lawHolds_30 (fun r13 w14 h => ?_)
  obtain ⟨k15, h⟩ := h
  obtain ⟨k16, h⟩ := h
  refine g_iast (pc := 33) C k15 k16 dX4_lawHolds_33 ?_
  refine g_aload_n (pc := 34) C dX4_lawHolds_34 (q := 0) rfl ?_
  obtain ⟨k17, h⟩ := h
  obtain ⟨k18, h⟩ := h
  refine gfX4_22 (pc := 35) (w := uI w14 (wR w6 a0 4) (1 : Int32).toNatClampNeg r13) C k17 (isK_ne k18) dX4_lawHolds_35 ?_
  refine g_iconst (pc := 38) C dX4_lawHolds_38 (v := 2) rfl ?_
  refine g_aload_n (pc := 39) C dX4_lawHolds_39 (q := 0) rfl ?_
  obtain ⟨k19, h⟩ := h
  refine gfX4_28 (pc := 40) (w := uI w14 (wR w6 a0 4) (1 : Int32).toNatClampNeg r13) C k17 (isK_ne k19) dX4_lawHolds_40 ?_
  refine g_iload_n (pc := 43) C dX4_lawHolds_43 (q := 1) rfl ?_
  refine miX4_86 (pc := 44) (w := uI w14 (wR w6 a0 4) (1 : Int32).toNatClampNeg r13) C k19 h (Nat.le_of_ble_eq_true rfl) (Nat.le_of_ble_eq_true rfl) ⟨Nat.le_refl _, Nat.le_refl _⟩ dX4_lawHolds_44 (fun r20 w21 h => ?_)
  obtain ⟨k22, h⟩ := h
  obtain ⟨k23, h⟩ := h
  refine g_iast (pc := 47) C k22 k23 dX4_lawHolds_47 ?_
  refine g_aload_n (pc := 48) C dX4_lawHolds_48 (q := 0) rfl ?_
  obtain ⟨k24, h⟩ := h
  obtain ⟨k25, h⟩ := h
  refine gfX4_22 (pc := 49) (w := uI w21 (wR w14 a0 4) (2 : Int32).toNatClampNeg r20) C k24 (isK_ne k25) dX4_lawHolds_49 ?_
  refine g_iconst (pc := 52) C dX4_lawHolds_52 (v := 3) rfl ?_
  refine g_aload_n (pc := 53) C dX4_lawHolds_53 (q := 0) rfl ?_
  obtain ⟨k26, h⟩ := h
  refine gfX4_28 (pc := 54) (w := uI w21 (wR w14 a0 4) (2 : Int32).toNatClampNeg r20) C k24 (isK_ne k26) dX4_lawHolds_54 ?_
  refine g_iload_n (pc := 57) C dX4_lawHolds_57 (q := 2) rfl ?_
  refine miX4_86 (pc := 58) (w := uI w21 (wR w14 a0 4) (2 : Int32).toNatClampNeg r20) C k26 h (Nat.le_of_ble_eq_true rfl) (Nat.le_of_ble_eq_true rfl) ⟨Nat.le_refl _, Nat.le_refl _⟩ dX4_lawHolds_58 (fun r27 w28 h => ?_)
  obtain ⟨k29, h⟩ := h
  obtain ⟨k30, h⟩ := h
  refine g_iast (pc := 61) C k29 k30 dX4_lawHolds_61 ?_
  refine g_aload_n (pc := 62) C dX4_lawHolds_62 (q := 0) rfl ?_
  obtain ⟨k31, h⟩ := h
  obtain ⟨k32, h⟩ := h
  refine gfX4_22 (pc := 63) (w := uI w28 (wR w21 a0 4) (3 : Int32).toNatClampNeg r27) C k31 (isK_ne k32) dX4_lawHolds_63 ?_
  refine g_iconst (pc := 66) C dX4_lawHolds_66 (v := 4) rfl ?_
  refine g_iload_n (pc := 67) C dX4_lawHolds_67 (q := 3) rfl ?_
  obtain ⟨k33, h⟩ := h
  refine g_iast (pc := 68) (w := uI w28 (wR w21 a0 4) (3 : Int32).toNatClampNeg r27) C k32 k33 dX4_lawHolds_68 ?_
  refine g_aload_n (pc := 69) C dX4_lawHolds_69 (q := 0) rfl ?_
  refine gfX4_22 (pc := 70) (w := uI (uI w28 (wR w21 a0 4) (3 : Int32).toNatClampNeg r27) (wR w28 a0 4) (4 : Int32).toNatClampNeg a3) C k31 (isK_ne k32) dX4_lawHolds_70 ?_
  refine g_iconst (pc := 73) C dX4_lawHolds_73 (v := 5) rfl ?_
  refine g_aload_n (pc := 74) C dX4_lawHolds_74 (q := 0) rfl ?_
  obtain ⟨k34, h⟩ := h
  refine gfX4_28 (pc := 75) (w := uI (uI w28 (wR w21 a0 4) (3 : Int32).toNatClampNeg r27) (wR w28 a0 4) (4 : Int32).toNatClampNeg a3) C k31 (isK_ne k34) dX4_lawHolds_75 ?_
  refine gfX4_89 (pc := 78) (w := uI (uI w28 (wR w21 a0 4) (3 : Int32).toNatClampNeg r27) (wR w28 a0 4) (4 : Int32).toNatClampNeg a3) C k34 dX4_lawHolds_78 ?_
  refine g_bipush (pc := 81) C dX4_lawHolds_81 (v := 24) rfl ?_
  refine h_irem (pc := 83) C dX4_lawHolds_83 (by decide) ?_
  obtain ⟨k35, h⟩ := h
  refine g_iast (pc := 84) (w := uI (uI w28 (wR w21 a0 4) (3 : Int32).toNatClampNeg r27) (wR w28 a0 4) (4 : Int32).toNatClampNeg a3) C k32 k35 dX4_lawHolds_84 ?_
  refine g_aload_n (pc := 85) C dX4_lawHolds_85 (q := 0) rfl ?_
  refine gfX4_22 (pc := 86) (w := uI (uI (uI w28 (wR w21 a0 4) (3 : Int32).toNatClampNeg r27) (wR w28 a0 4) (4 : Int32).toNatClampNeg a3) (wR w28 a0 4) (5 : Int32).toNatClampNeg (x_irem (wI (uI (uI w28 (wR w21 a0 4) (3 : Int32).toNatClampNeg r27) (wR w28 a0 4) (4 : Int32).toNatClampNeg a3) (wR w28 a0 0) 1) 24)) C k31 (isK_ne k32) dX4_lawHolds_86 ?_
  refine g_bipush (pc := 89) C dX4_lawHolds_89 (v := 6) rfl ?_
  refine g_aload_n (pc := 91) C dX4_lawHolds_91 (q := 0) rfl ?_
  refine gfX4_28 (pc := 92) (w := uI (uI (uI w28 (wR w21 a0 4) (3 : Int32).toNatClampNeg r27) (wR w28 a0 4) (4 : Int32).toNatClampNeg a3) (wR w28 a0 4) (5 : Int32).toNatClampNeg (x_irem (wI (uI (uI w28 (wR w21 a0 4) (3 : Int32).toNatClampNeg r27) (wR w28 a0 4) (4 : Int32).toNatClampNeg a3) (wR w28 a0 0) 1) 24)) C k31 (isK_ne k34) dX4_lawHolds_92 ?_
  refine g_iload_n (pc := 95) C dX4_lawHolds_95 (q := 2) rfl ?_
  refine miX4_92 (pc := 96) (w := uI (uI (uI w28 (wR w21 a0 4) (3 : Int32).toNatClampNeg r27) (wR w28 a0 4) (4 : Int32).toNatClampNeg a3) (wR w28 a0 4) (5 : Int32).toNatClampNeg (x_irem (wI (uI (uI w28 (wR w21 a0 4) (3 : Int32).toNatClampNeg r27) (wR w28 a0 4) (4 : Int32).toNatClampNeg a3) (wR w28 a0 0) 1) 24)) C k34 h (Nat.le_of_ble_eq_true rfl) (Nat.le_of_ble_eq_true rfl) ⟨Nat.le_refl _, Nat.le_refl _⟩ dX4_lawHolds_96 (fun r36 w37 h => ?_)
  obtain ⟨k38, h⟩ := h
  obtain ⟨k39, h⟩ := h
  refine g_iast (pc := 99) C k38 k39 dX4_lawHolds_99 ?_
  refine g_aload_n (pc := 100) C dX4_lawHolds_100 (q := 0) rfl ?_
  obtain ⟨k40, h⟩ := h
  obtain ⟨k41, h⟩ := h
  refine gfX4_22 (pc := 101) (w := uI w37 (wR w28 a0 4) (6 : Int32).toNatClampNeg r36) C k40 (isK_ne k41) dX4_lawHolds_101 ?_
  refine g_bipush (pc := 104) C dX4_lawHolds_104 (v := 7) rfl ?_
  refine g_aload_n (pc := 106) C dX4_lawHolds_106 (q := 0) rfl ?_
  obtain ⟨k42, h⟩ := h
  refine gfX4_28 (pc := 107) (w := uI w37 (wR w28 a0 4) (6 : Int32).toNatClampNeg r36) C k40 (isK_ne k42) dX4_lawHolds_107 ?_
  obtain ⟨k43, h⟩ := h
  refine gfX4_46 (pc := 110) (w := uI w37 (wR w28 a0 4) (6 : Int32).toNatClampNeg r36) C k42 (isK_ne k43) dX4_lawHolds_110 ?_
  refine g_iload_n (pc := 113) C dX4_lawHolds_113 (q := 1) rfl ?_
  refine miX4_50 (pc := 114) (w := uI w37 (wR w28 a0 4) (6 : Int32).toNatClampNeg r36) C k43 h (Nat.le_of_ble_eq_true rfl) (Nat.le_of_ble_eq_true rfl) ⟨Nat.le_refl _, Nat.le_refl _⟩ dX4_lawHolds_114 (fun r44 w45 h => ?_)
  refine miX4_78 (pc := 117) C h (Nat.le_of_ble_eq_true rfl) (Nat.le_of_ble_eq_true rfl) ⟨Nat.le_refl _, Nat.le_refl _⟩ dX4_lawHolds_117 (fun r46 w47 h => ?_)
  obtain ⟨k48, h⟩ := h
  obtain ⟨k49, h⟩ := h
  refine g_iast (pc := 120) C k48 k49 dX4_lawHolds_120 ?_
  refine g_aload_n (pc := 121) C dX4_lawHolds_121 (q := 0) rfl ?_
  obtain ⟨k50, h⟩ := h
  obtain ⟨k51, h⟩ := h
  refine gfX4_28 (pc := 122) (w := uI w47 (wR w37 a0 4) (7 : Int32).toNatClampNeg r46) C k50 (isK_ne k51) dX4_lawHolds_122 ?_
  obtain ⟨k52, h⟩ := h
  refine gfX4_46 (pc := 125) (w := uI w47 (wR w37 a0 4) (7 : Int32).toNatClampNeg r46) C k51 (isK_ne k52) dX4_lawHolds_125 ?_
  obtain ⟨k53, h⟩ := h
  refine gfX4_95 (pc := 128) (w := uI w47 (wR w37 a0 4) (7 : Int32).toNatClampNeg r46) C k52 (isL_ne k53) dX4_lawHolds_128 ?_
  refine g_astore (pc := 131) C dX4_lawHolds_131 (Nat.le_of_ble_eq_true rfl) (lo' := [(4, .ref (adr x (wR w47 (wR w47 (wR w47 a0 0) 0) 4))), (0, .ref (adr x a0)), (1, .int a1), (2, .int a2), (3, .int a3)]) rfl ?_
  refine g_iconst (pc := 133) C dX4_lawHolds_133 (v := 0) rfl ?_
  refine g_istore (pc := 134) C dX4_lawHolds_134 (Nat.le_of_ble_eq_true rfl) (lo' := [(5, .int 0), (4, .ref (adr x (wR w47 (wR w47 (wR w47 a0 0) 0) 4))), (0, .ref (adr x a0)), (1, .int a1), (2, .int a2), (3, .int a3)]) rfl ?_
  refine g_iconst (pc := 136) C dX4_lawHolds_136 (v := 0) rfl ?_
  refine g_istore (pc := 137) C dX4_lawHolds_137 (Nat.le_of_ble_eq_true rfl) (lo' := [(6, .int 0), (5, .int 0), (4, .ref (adr x (wR w47 (wR w47 (wR w47 a0 0) 0) 4))), (0, .ref (adr x a0)), (1, .int a1), (2, .int a2), (3, .int a3)]) rfl ?_
  obtain ⟨n91, h⟩ := h
  refine g_sub [3, 2, 1, 0] rfl ?_
  refine t_X4_lawHolds_139 C hlk hr ?_ n91 _ _ _ _ _ h
  · intro b83 b84 w85 h
    refine g_iload (pc := 294) C dX4_lawHolds_294 (q := 1) rfl ?_
    refine g_iconst (pc := 296) C dX4_lawHolds_296 (v := 1) rfl ?_
    refine g_icmp_lt (pc := 297) C dX4_lawHolds_297 (tgt := 313) rfl (fun z86 => ?_) (fun z86 => ?_)
    · replace h := h.1 z86
      refine g_iconst (pc := 313) C dX4_lawHolds_313 (v := 0) rfl ?_
      exact g_zret (pc := 314) C hlk hr (Nat.le_refl _) (Nat.le_refl _) dX4_lawHolds_314 (Or.inl rfl) h
    · replace h := h.2 z86
      refine g_aload_n (pc := 300) C dX4_lawHolds_300 (q := 0) rfl ?_
      obtain ⟨k87, h⟩ := h
      obtain ⟨k88, h⟩ := h
      refine gfX4_25 (pc := 301) C k87 (isK_ne k88) dX4_lawHolds_301 ?_
      refine g_iconst (pc := 304) C dX4_lawHolds_304 (v := 0) rfl ?_
      obtain ⟨k89, h⟩ := h
      refine g_iald (pc := 305) C k88 k89 dX4_lawHolds_305 ?_
      refine g_if_eq (pc := 306) C dX4_lawHolds_306 (tgt := 313) rfl (fun z90 => ?_) (fun z90 => ?_)
      · replace h := h.1 z90
        refine g_iconst (pc := 313) C dX4_lawHolds_313 (v := 0) rfl ?_
        exact g_zret (pc := 314) C hlk hr (Nat.le_refl _) (Nat.le_refl _) dX4_lawHolds_314 (Or.inl rfl) h
      · replace h := h.2 z90
        refine g_iconst (pc := 309) C dX4_lawHolds_309 (v := 1) rfl ?_
        refine g_goto (pc := 310) C dX4_lawHolds_310 (tgt := 314) rfl ?_
        exact g_zret (pc := 314) C hlk hr (Nat.le_refl _) (Nat.le_refl _) dX4_lawHolds_314 (Or.inr rfl) h
theorem miX4_56 (C : xC x p s m c cc nL args RX4) {a0 : Nat} {a1 : Int32} {a2 : Int32} {a3 : Int32} {K : Int32 → Wd → Prop} {D MC MS : Nat} (hq : isK w a0 4) (h : w_X4_lawHolds a0 a1 a2 a3 K w) (hD : 1 + 1 ≤ D) (hW : (st.map fun v => v.category).sum ≤ 8) (hij : i ≤ MC ∧ j ≤ MS) (hd : decode cc pc = .ok (.invokevirtual 56, 3)) (k : ∀ (r : Int32) (u : Wd), K r u → GW x p l e (rmd D MC MS) s m args below meth c nL Q (pc + 3) lo (.int r :: st) u i j) : GW x p l e (rmd D MC MS) s m args below meth c nL Q pc lo (.int a3 :: .int a2 :: .int a1 :: .ref (adr x a0) :: st) w i j := g_callVi0 C (As := [.int a1, .int a2, .int a3]) (ci := 4) (c_X4_lawHolds h) (x_cwV C 3 LMX4_56 ⟨rfl, by decide, by decide, rfl⟩ hD (by decide)) rfl hq (by decide) rfl rfl hW hd hij k
def l_X4_wokenAtOnce_23  (K : Int32 → Wd → Prop) : Nat → Nat → Int32 → Int32 → Int32 → Int32 → Int32 → Wd → Prop
  | 0, _, _, _, _, _, _, _ => False
  | n + 1, a0, a1, a2, a3, a4, a5, w => ((10 ≤ a5 → K a4 w) ∧ (¬ 10 ≤ a5 → w_X11_has a3 a5 (fun r8 w9 => ((r8 = 0 → l_X4_wokenAtOnce_23 K n a0 a1 a2 a3 a4 (a5 + 1) w9) ∧ (¬ r8 = 0 → isK w9 a0 4 ∧ w_X4_lawHolds a0 a1 a5 a2 (fun r12 w13 => ((r12 = 0 → l_X4_wokenAtOnce_23 K n a0 a1 a2 a3 a4 (a5 + 1) w13) ∧ (¬ r12 = 0 → l_X4_wokenAtOnce_23 K n a0 a1 a2 a3 (a4 ||| (x_ishl 1 a5)) (a5 + 1) w13))) w9))) w))
def w_X4_wokenAtOnce (a0 : Nat) (a1 : Int32) (a2 : Int32) (K : Int32 → Wd → Prop) (w : Wd) : Prop :=
  isK w a0 4 ∧ isK w (wR w a0 0) 2 ∧ isK w (wR w (wR w a0 0) 0) 1 ∧ w_X1_besideOf (wR w (wR w a0 0) 0) a1 (fun r4 w5 => isK w5 a0 4 ∧ ∃ n15, l_X4_wokenAtOnce_23  K n15 a0 a1 a2 (r4 &&& (wI w5 a0 1)) 0 0 w5) w
theorem t_X4_wokenAtOnce_23 (C : xC x p s m c cX4_wokenAtOnce 6 args RX4) (hlk : meth.locks = false) (hr : meth.sig.returnType = some .int) {K : Int32 → Wd → Prop}   : ∀ (n : Nat) (a0 : Nat) (a1 : Int32) (a2 : Int32) (a3 : Int32) (a4 : Int32) (a5 : Int32) (w : Wd), l_X4_wokenAtOnce_23 K n a0 a1 a2 a3 a4 a5 w → GW x p l e (rmd 2 0 0) s m args below meth c 6 (QI x K below args s 0 0) 23 [(0, .ref (adr x a0)), (1, .int a1), (2, .int a2), (3, .int a3), (4, .int a4), (5, .int a5)] [] w 0 0 := by
  intro n
  induction n with
  | zero => intro _ _ _ _ _ _ _ h; exact False.elim h
  | succ n ih =>
    intro a0 a1 a2 a3 a4 a5 w h
    refine g_iload (pc := 23) C dX4_wokenAtOnce_23 (q := 5) rfl ?_
    refine g_bipush (pc := 25) C dX4_wokenAtOnce_25 (v := 10) rfl ?_
    refine g_icmp_ge (pc := 27) C dX4_wokenAtOnce_27 (tgt := 65) rfl (fun z7 => ?_) (fun z7 => ?_)
    · replace h := h.1 z7
      refine g_iload (pc := 65) C dX4_wokenAtOnce_65 (q := 4) rfl ?_
      exact g_iret (pc := 67) C hlk hr (Nat.le_refl _) (Nat.le_refl _) dX4_wokenAtOnce_67 h
    · replace h := h.2 z7
      refine g_iload_n (pc := 30) C dX4_wokenAtOnce_30 (q := 3) rfl ?_
      refine g_iload (pc := 31) C dX4_wokenAtOnce_31 (q := 5) rfl ?_
      refine miX4_38 (pc := 33) C h (Nat.le_of_ble_eq_true rfl) (Nat.le_of_ble_eq_true rfl) ⟨Nat.le_refl _, Nat.le_refl _⟩ dX4_wokenAtOnce_33 (fun r8 w9 h => ?_)
      refine g_if_eq (pc := 36) C dX4_wokenAtOnce_36 (tgt := 59) rfl (fun z10 => ?_) (fun z10 => ?_)
      · replace h := h.1 z10
        refine g_iinc (pc := 59) C dX4_wokenAtOnce_59 (q := 5) rfl (v2 := a5 + 1) rfl (Nat.le_of_ble_eq_true rfl) (lo' := [(5, .int (a5 + 1)), (0, .ref (adr x a0)), (1, .int a1), (2, .int a2), (3, .int a3), (4, .int a4)]) rfl ?_
        refine g_goto (pc := 62) C dX4_wokenAtOnce_62 (tgt := 23) rfl ?_
        refine g_sub [1, 2, 3, 4, 5, 0] rfl ?_
        exact ih _ _ _ _ _ _ _ h
      · replace h := h.2 z10
        refine g_aload_n (pc := 39) C dX4_wokenAtOnce_39 (q := 0) rfl ?_
        refine g_iload_n (pc := 40) C dX4_wokenAtOnce_40 (q := 1) rfl ?_
        refine g_iload (pc := 41) C dX4_wokenAtOnce_41 (q := 5) rfl ?_
        refine g_iload_n (pc := 43) C dX4_wokenAtOnce_43 (q := 2) rfl ?_
        obtain ⟨k11, h⟩ := h
        refine miX4_56 (pc := 44) C k11 h (Nat.le_of_ble_eq_true rfl) (Nat.le_of_ble_eq_true rfl) ⟨Nat.le_refl _, Nat.le_refl _⟩ dX4_wokenAtOnce_44 (fun r12 w13 h => ?_)
        refine g_if_eq (pc := 47) C dX4_wokenAtOnce_47 (tgt := 59) rfl (fun z14 => ?_) (fun z14 => ?_)
        · replace h := h.1 z14
          refine g_iinc (pc := 59) C dX4_wokenAtOnce_59 (q := 5) rfl (v2 := a5 + 1) rfl (Nat.le_of_ble_eq_true rfl) (lo' := [(5, .int (a5 + 1)), (0, .ref (adr x a0)), (1, .int a1), (2, .int a2), (3, .int a3), (4, .int a4)]) rfl ?_
          refine g_goto (pc := 62) C dX4_wokenAtOnce_62 (tgt := 23) rfl ?_
          refine g_sub [1, 2, 3, 4, 5, 0] rfl ?_
          exact ih _ _ _ _ _ _ _ h
        · replace h := h.2 z14
          refine g_iload (pc := 50) C dX4_wokenAtOnce_50 (q := 4) rfl ?_
          refine g_iconst (pc := 52) C dX4_wokenAtOnce_52 (v := 1) rfl ?_
          refine g_iload (pc := 53) C dX4_wokenAtOnce_53 (q := 5) rfl ?_
          refine h_ishl (pc := 55) C dX4_wokenAtOnce_55 ?_
          refine g_ior (pc := 56) C dX4_wokenAtOnce_56 ?_
          refine g_istore (pc := 57) C dX4_wokenAtOnce_57 (Nat.le_of_ble_eq_true rfl) (lo' := [(4, .int (a4 ||| (x_ishl 1 a5))), (0, .ref (adr x a0)), (1, .int a1), (2, .int a2), (3, .int a3), (5, .int a5)]) rfl ?_
          refine g_iinc (pc := 59) C dX4_wokenAtOnce_59 (q := 5) rfl (v2 := a5 + 1) rfl (Nat.le_of_ble_eq_true rfl) (lo' := [(5, .int (a5 + 1)), (4, .int (a4 ||| (x_ishl 1 a5))), (0, .ref (adr x a0)), (1, .int a1), (2, .int a2), (3, .int a3)]) rfl ?_
          refine g_goto (pc := 62) C dX4_wokenAtOnce_62 (tgt := 23) rfl ?_
          refine g_sub [2, 3, 4, 5, 1, 0] rfl ?_
          exact ih _ _ _ _ _ _ _ h
theorem c_X4_wokenAtOnce {x : xG} {l : Launch} {a0 : Nat} {a1 : Int32} {a2 : Int32} {K : Int32 → Wd → Prop} {w : Wd} (h : w_X4_wokenAtOnce a0 a1 a2 K w) : Met l yX4_wokenAtOnce (xws yX4_wokenAtOnce cX4_wokenAtOnce 6 (some .int)) (rmd 2 0 0) (xPc x [.ref (adr x a0), .int a1, .int a2] w) (QcI x K) 0 0 (xA x) := by
  refine xMet (by decide) (Nat.le_of_ble_eq_true rfl) (fun p e s m below meth c C hlk hr _ => ?_)
  show GW x p l e (rmd 2 0 0) s m [.ref (adr x a0), .int a1, .int a2].toArray below meth c 6 (QI x K below [.ref (adr x a0), .int a1, .int a2].toArray s 0 0) 0 [(0, .ref (adr x a0)), (1, .int a1), (2, .int a2)] [] w 0 0
  refine g_aload_n (pc := 0) C dX4_wokenAtOnce_0 (q := 0) rfl ?_
  obtain ⟨k1, h⟩ := h
  obtain ⟨k2, h⟩ := h
  refine gfX4_28 (pc := 1) C k1 (isK_ne k2) dX4_wokenAtOnce_1 ?_
  obtain ⟨k3, h⟩ := h
  refine gfX4_46 (pc := 4) C k2 (isK_ne k3) dX4_wokenAtOnce_4 ?_
  refine g_iload_n (pc := 7) C dX4_wokenAtOnce_7 (q := 1) rfl ?_
  refine miX4_50 (pc := 8) C k3 h (Nat.le_of_ble_eq_true rfl) (Nat.le_of_ble_eq_true rfl) ⟨Nat.le_refl _, Nat.le_refl _⟩ dX4_wokenAtOnce_8 (fun r4 w5 h => ?_)
  refine g_aload_n (pc := 11) C dX4_wokenAtOnce_11 (q := 0) rfl ?_
  obtain ⟨k6, h⟩ := h
  refine gfX4_9 (pc := 12) C k6 dX4_wokenAtOnce_12 ?_
  refine g_iand (pc := 15) C dX4_wokenAtOnce_15 ?_
  refine g_istore_n (pc := 16) C dX4_wokenAtOnce_16 (Nat.le_of_ble_eq_true rfl) (lo' := [(3, .int (r4 &&& (wI w5 a0 1))), (0, .ref (adr x a0)), (1, .int a1), (2, .int a2)]) rfl ?_
  refine g_iconst (pc := 17) C dX4_wokenAtOnce_17 (v := 0) rfl ?_
  refine g_istore (pc := 18) C dX4_wokenAtOnce_18 (Nat.le_of_ble_eq_true rfl) (lo' := [(4, .int 0), (3, .int (r4 &&& (wI w5 a0 1))), (0, .ref (adr x a0)), (1, .int a1), (2, .int a2)]) rfl ?_
  refine g_iconst (pc := 20) C dX4_wokenAtOnce_20 (v := 0) rfl ?_
  refine g_istore (pc := 21) C dX4_wokenAtOnce_21 (Nat.le_of_ble_eq_true rfl) (lo' := [(5, .int 0), (4, .int 0), (3, .int (r4 &&& (wI w5 a0 1))), (0, .ref (adr x a0)), (1, .int a1), (2, .int a2)]) rfl ?_
  obtain ⟨n15, h⟩ := h
  refine g_sub [3, 4, 5, 2, 1, 0] rfl ?_
  refine t_X4_wokenAtOnce_23 C hlk hr n15 _ _ _ _ _ _ _ h
theorem miX4_42 (C : xC x p s m c cc nL args RX4) {a0 : Nat} {a1 : Int32} {a2 : Int32} {K : Int32 → Wd → Prop} {D MC MS : Nat} (hq : isK w a0 4) (h : w_X4_wokenAtOnce a0 a1 a2 K w) (hD : 2 + 1 ≤ D) (hW : (st.map fun v => v.category).sum ≤ 8) (hij : i ≤ MC ∧ j ≤ MS) (hd : decode cc pc = .ok (.invokevirtual 42, 3)) (k : ∀ (r : Int32) (u : Wd), K r u → GW x p l e (rmd D MC MS) s m args below meth c nL Q (pc + 3) lo (.int r :: st) u i j) : GW x p l e (rmd D MC MS) s m args below meth c nL Q pc lo (.int a2 :: .int a1 :: .ref (adr x a0) :: st) w i j := g_callVi0 C (As := [.int a1, .int a2]) (ci := 4) (c_X4_wokenAtOnce h) (x_cwV C 2 LMX4_42 ⟨rfl, by decide, by decide, rfl⟩ hD (by decide)) rfl hq (by decide) rfl rfl hW hd hij k
theorem miX4_60 (C : xC x p s m c cc nL args RX4) {a0 : Nat} {a1 : Int32} {a2 : Int32} {K : Int32 → Wd → Prop} {D MC MS : Nat} (hq : isK w a0 4) (h : w_X4_spread a0 a1 a2 K w) (hD : 2 + 1 ≤ D) (hW : (st.map fun v => v.category).sum ≤ 8) (hij : i ≤ MC ∧ j ≤ MS) (hd : decode cc pc = .ok (.invokevirtual 60, 3)) (k : ∀ (r : Int32) (u : Wd), K r u → GW x p l e (rmd D MC MS) s m args below meth c nL Q (pc + 3) lo (.int r :: st) u i j) : GW x p l e (rmd D MC MS) s m args below meth c nL Q pc lo (.int a2 :: .int a1 :: .ref (adr x a0) :: st) w i j := g_callVi0 C (As := [.int a1, .int a2]) (ci := 4) (c_X4_spread h) (x_cwV C 2 LMX4_60 ⟨rfl, by decide, by decide, rfl⟩ hD (by decide)) rfl hq (by decide) rfl rfl hW hd hij k
def w_X4_wokenBy (a0 : Nat) (a1 : Int32) (a2 : Int32) (K : Int32 → Wd → Prop) (w : Wd) : Prop :=
  isK w a0 4 ∧ w_X4_wokenAtOnce a0 a1 a2 (fun r2 w3 => isK w3 a0 4 ∧ w_X4_spread a0 r2 ((wI w3 a0 1) &&& ((x_ishl 1 a1) ^^^ (-1))) (fun r5 w6 => K r5 w6) w3) w
theorem c_X4_wokenBy {x : xG} {l : Launch} {a0 : Nat} {a1 : Int32} {a2 : Int32} {K : Int32 → Wd → Prop} {w : Wd} (h : w_X4_wokenBy a0 a1 a2 K w) : Met l yX4_wokenBy (xws yX4_wokenBy cX4_wokenBy 3 (some .int)) (rmd 3 0 0) (xPc x [.ref (adr x a0), .int a1, .int a2] w) (QcI x K) 0 0 (xA x) := by
  refine xMet (by decide) (Nat.le_of_ble_eq_true rfl) (fun p e s m below meth c C hlk hr _ => ?_)
  show GW x p l e (rmd 3 0 0) s m [.ref (adr x a0), .int a1, .int a2].toArray below meth c 3 (QI x K below [.ref (adr x a0), .int a1, .int a2].toArray s 0 0) 0 [(0, .ref (adr x a0)), (1, .int a1), (2, .int a2)] [] w 0 0
  refine g_aload_n (pc := 0) C dX4_wokenBy_0 (q := 0) rfl ?_
  refine g_aload_n (pc := 1) C dX4_wokenBy_1 (q := 0) rfl ?_
  refine g_iload_n (pc := 2) C dX4_wokenBy_2 (q := 1) rfl ?_
  refine g_iload_n (pc := 3) C dX4_wokenBy_3 (q := 2) rfl ?_
  obtain ⟨k1, h⟩ := h
  refine miX4_42 (pc := 4) C k1 h (Nat.le_of_ble_eq_true rfl) (Nat.le_of_ble_eq_true rfl) ⟨Nat.le_refl _, Nat.le_refl _⟩ dX4_wokenBy_4 (fun r2 w3 h => ?_)
  refine g_aload_n (pc := 7) C dX4_wokenBy_7 (q := 0) rfl ?_
  obtain ⟨k4, h⟩ := h
  refine gfX4_9 (pc := 8) C k4 dX4_wokenBy_8 ?_
  refine g_iconst (pc := 11) C dX4_wokenBy_11 (v := 1) rfl ?_
  refine g_iload_n (pc := 12) C dX4_wokenBy_12 (q := 1) rfl ?_
  refine h_ishl (pc := 13) C dX4_wokenBy_13 ?_
  refine g_iconst (pc := 14) C dX4_wokenBy_14 (v := (-1)) rfl ?_
  refine g_ixor (pc := 15) C dX4_wokenBy_15 ?_
  refine g_iand (pc := 16) C dX4_wokenBy_16 ?_
  refine miX4_60 (pc := 17) C k4 h (Nat.le_of_ble_eq_true rfl) (Nat.le_of_ble_eq_true rfl) ⟨Nat.le_refl _, Nat.le_refl _⟩ dX4_wokenBy_17 (fun r5 w6 h => ?_)
  exact g_iret (pc := 20) C hlk hr (Nat.le_refl _) (Nat.le_refl _) dX4_wokenBy_20 h
theorem miX4_66 (C : xC x p s m c cc nL args RX4) {a0 : Nat} {K : Int32 → Wd → Prop} {D MC MS : Nat} (hq : isK w a0 1) (h : w_X1_allWells a0 K w) (hD : 0 + 1 ≤ D) (hW : (st.map fun v => v.category).sum ≤ 8) (hij : i ≤ MC ∧ j ≤ MS) (hd : decode cc pc = .ok (.invokevirtual 66, 3)) (k : ∀ (r : Int32) (u : Wd), K r u → GW x p l e (rmd D MC MS) s m args below meth c nL Q (pc + 3) lo (.int r :: st) u i j) : GW x p l e (rmd D MC MS) s m args below meth c nL Q pc lo (.ref (adr x a0) :: st) w i j := g_callVi0 C (As := []) (ci := 1) (c_X1_allWells h) (x_cwV C 0 LMX4_66 ⟨rfl, by decide, by decide, rfl⟩ hD (by decide)) rfl hq (by decide) rfl rfl hW hd hij k
theorem miX4_69 (C : xC x p s m c cc nL args RX4) {a0 : Nat} {a1 : Int32} {a2 : Int32} {K : Int32 → Wd → Prop} {D MC MS : Nat} (hq : isK w a0 4) (h : w_X4_wokenBy a0 a1 a2 K w) (hD : 3 + 1 ≤ D) (hW : (st.map fun v => v.category).sum ≤ 8) (hij : i ≤ MC ∧ j ≤ MS) (hd : decode cc pc = .ok (.invokevirtual 69, 3)) (k : ∀ (r : Int32) (u : Wd), K r u → GW x p l e (rmd D MC MS) s m args below meth c nL Q (pc + 3) lo (.int r :: st) u i j) : GW x p l e (rmd D MC MS) s m args below meth c nL Q pc lo (.int a2 :: .int a1 :: .ref (adr x a0) :: st) w i j := g_callVi0 C (As := [.int a1, .int a2]) (ci := 4) (c_X4_wokenBy h) (x_cwV C 2 LMX4_69 ⟨rfl, by decide, by decide, rfl⟩ hD (by decide)) rfl hq (by decide) rfl rfl hW hd hij k
def l_X4_awakeOnesThatWake_37  (K : Int32 → Wd → Prop) : Nat → Nat → Int32 → Int32 → Int32 → Int32 → Int32 → Wd → Prop
  | 0, _, _, _, _, _, _, _ => False
  | n + 1, a0, a1, a2, a3, a4, a5, w => ((10 ≤ a5 → K a3 w) ∧ (¬ 10 ≤ a5 → w_X11_has a4 a5 (fun r12 w13 => ((r12 = 0 → l_X4_awakeOnesThatWake_37 K n a0 a1 a2 a3 a4 (a5 + 1) w13) ∧ (¬ r12 = 0 → isK w13 a0 4 ∧ w_X4_wokenBy a0 a5 a2 (fun r16 w17 => w_X11_has r16 a1 (fun r18 w19 => ((r18 = 0 → l_X4_awakeOnesThatWake_37 K n a0 a1 a2 a3 a4 (a5 + 1) w19) ∧ (¬ r18 = 0 → l_X4_awakeOnesThatWake_37 K n a0 a1 a2 (a3 ||| (x_ishl 1 a5)) a4 (a5 + 1) w19))) w17) w13))) w))
def w_X4_awakeOnesThatWake (a0 : Nat) (a1 : Int32) (a2 : Int32) (K : Int32 → Wd → Prop) (w : Wd) : Prop :=
  isK w a0 4 ∧ w_X11_has (wI w a0 1) a1 (fun r2 w3 => ((r2 = 0 → K 0 w3) ∧ (¬ r2 = 0 → isK w3 a0 4 ∧ isK w3 (wR w3 a0 0) 2 ∧ isK w3 (wR w3 (wR w3 a0 0) 0) 1 ∧ w_X1_allWells (wR w3 (wR w3 a0 0) 0) (fun r8 w9 => isK w9 a0 4 ∧ ∃ n21, l_X4_awakeOnesThatWake_37  K n21 a0 a1 a2 0 (r8 &&& ((wI w9 a0 1) ^^^ (-1))) 0 w9) w3))) w
theorem t_X4_awakeOnesThatWake_37 (C : xC x p s m c cX4_awakeOnesThatWake 6 args RX4) (hlk : meth.locks = false) (hr : meth.sig.returnType = some .int) {K : Int32 → Wd → Prop}   : ∀ (n : Nat) (a0 : Nat) (a1 : Int32) (a2 : Int32) (a3 : Int32) (a4 : Int32) (a5 : Int32) (w : Wd), l_X4_awakeOnesThatWake_37 K n a0 a1 a2 a3 a4 a5 w → GW x p l e (rmd 4 0 0) s m args below meth c 6 (QI x K below args s 0 0) 37 [(0, .ref (adr x a0)), (1, .int a1), (2, .int a2), (3, .int a3), (4, .int a4), (5, .int a5)] [] w 0 0 := by
  intro n
  induction n with
  | zero => intro _ _ _ _ _ _ _ h; exact False.elim h
  | succ n ih =>
    intro a0 a1 a2 a3 a4 a5 w h
    refine g_iload (pc := 37) C dX4_awakeOnesThatWake_37 (q := 5) rfl ?_
    refine g_bipush (pc := 39) C dX4_awakeOnesThatWake_39 (v := 10) rfl ?_
    refine g_icmp_ge (pc := 41) C dX4_awakeOnesThatWake_41 (tgt := 81) rfl (fun z11 => ?_) (fun z11 => ?_)
    · replace h := h.1 z11
      refine g_iload_n (pc := 81) C dX4_awakeOnesThatWake_81 (q := 3) rfl ?_
      exact g_iret (pc := 82) C hlk hr (Nat.le_refl _) (Nat.le_refl _) dX4_awakeOnesThatWake_82 h
    · replace h := h.2 z11
      refine g_iload (pc := 44) C dX4_awakeOnesThatWake_44 (q := 4) rfl ?_
      refine g_iload (pc := 46) C dX4_awakeOnesThatWake_46 (q := 5) rfl ?_
      refine miX4_38 (pc := 48) C h (Nat.le_of_ble_eq_true rfl) (Nat.le_of_ble_eq_true rfl) ⟨Nat.le_refl _, Nat.le_refl _⟩ dX4_awakeOnesThatWake_48 (fun r12 w13 h => ?_)
      refine g_if_eq (pc := 51) C dX4_awakeOnesThatWake_51 (tgt := 75) rfl (fun z14 => ?_) (fun z14 => ?_)
      · replace h := h.1 z14
        refine g_iinc (pc := 75) C dX4_awakeOnesThatWake_75 (q := 5) rfl (v2 := a5 + 1) rfl (Nat.le_of_ble_eq_true rfl) (lo' := [(5, .int (a5 + 1)), (0, .ref (adr x a0)), (1, .int a1), (2, .int a2), (3, .int a3), (4, .int a4)]) rfl ?_
        refine g_goto (pc := 78) C dX4_awakeOnesThatWake_78 (tgt := 37) rfl ?_
        refine g_sub [1, 2, 3, 4, 5, 0] rfl ?_
        exact ih _ _ _ _ _ _ _ h
      · replace h := h.2 z14
        refine g_aload_n (pc := 54) C dX4_awakeOnesThatWake_54 (q := 0) rfl ?_
        refine g_iload (pc := 55) C dX4_awakeOnesThatWake_55 (q := 5) rfl ?_
        refine g_iload_n (pc := 57) C dX4_awakeOnesThatWake_57 (q := 2) rfl ?_
        obtain ⟨k15, h⟩ := h
        refine miX4_69 (pc := 58) C k15 h (Nat.le_of_ble_eq_true rfl) (Nat.le_of_ble_eq_true rfl) ⟨Nat.le_refl _, Nat.le_refl _⟩ dX4_awakeOnesThatWake_58 (fun r16 w17 h => ?_)
        refine g_iload_n (pc := 61) C dX4_awakeOnesThatWake_61 (q := 1) rfl ?_
        refine miX4_38 (pc := 62) C h (Nat.le_of_ble_eq_true rfl) (Nat.le_of_ble_eq_true rfl) ⟨Nat.le_refl _, Nat.le_refl _⟩ dX4_awakeOnesThatWake_62 (fun r18 w19 h => ?_)
        refine g_if_eq (pc := 65) C dX4_awakeOnesThatWake_65 (tgt := 75) rfl (fun z20 => ?_) (fun z20 => ?_)
        · replace h := h.1 z20
          refine g_iinc (pc := 75) C dX4_awakeOnesThatWake_75 (q := 5) rfl (v2 := a5 + 1) rfl (Nat.le_of_ble_eq_true rfl) (lo' := [(5, .int (a5 + 1)), (0, .ref (adr x a0)), (1, .int a1), (2, .int a2), (3, .int a3), (4, .int a4)]) rfl ?_
          refine g_goto (pc := 78) C dX4_awakeOnesThatWake_78 (tgt := 37) rfl ?_
          refine g_sub [1, 2, 3, 4, 5, 0] rfl ?_
          exact ih _ _ _ _ _ _ _ h
        · replace h := h.2 z20
          refine g_iload_n (pc := 68) C dX4_awakeOnesThatWake_68 (q := 3) rfl ?_
          refine g_iconst (pc := 69) C dX4_awakeOnesThatWake_69 (v := 1) rfl ?_
          refine g_iload (pc := 70) C dX4_awakeOnesThatWake_70 (q := 5) rfl ?_
          refine h_ishl (pc := 72) C dX4_awakeOnesThatWake_72 ?_
          refine g_ior (pc := 73) C dX4_awakeOnesThatWake_73 ?_
          refine g_istore_n (pc := 74) C dX4_awakeOnesThatWake_74 (Nat.le_of_ble_eq_true rfl) (lo' := [(3, .int (a3 ||| (x_ishl 1 a5))), (0, .ref (adr x a0)), (1, .int a1), (2, .int a2), (4, .int a4), (5, .int a5)]) rfl ?_
          refine g_iinc (pc := 75) C dX4_awakeOnesThatWake_75 (q := 5) rfl (v2 := a5 + 1) rfl (Nat.le_of_ble_eq_true rfl) (lo' := [(5, .int (a5 + 1)), (3, .int (a3 ||| (x_ishl 1 a5))), (0, .ref (adr x a0)), (1, .int a1), (2, .int a2), (4, .int a4)]) rfl ?_
          refine g_goto (pc := 78) C dX4_awakeOnesThatWake_78 (tgt := 37) rfl ?_
          refine g_sub [2, 3, 4, 1, 5, 0] rfl ?_
          exact ih _ _ _ _ _ _ _ h
theorem c_X4_awakeOnesThatWake {x : xG} {l : Launch} {a0 : Nat} {a1 : Int32} {a2 : Int32} {K : Int32 → Wd → Prop} {w : Wd} (h : w_X4_awakeOnesThatWake a0 a1 a2 K w) : Met l yX4_awakeOnesThatWake (xws yX4_awakeOnesThatWake cX4_awakeOnesThatWake 6 (some .int)) (rmd 4 0 0) (xPc x [.ref (adr x a0), .int a1, .int a2] w) (QcI x K) 0 0 (xA x) := by
  refine xMet (by decide) (Nat.le_of_ble_eq_true rfl) (fun p e s m below meth c C hlk hr _ => ?_)
  show GW x p l e (rmd 4 0 0) s m [.ref (adr x a0), .int a1, .int a2].toArray below meth c 6 (QI x K below [.ref (adr x a0), .int a1, .int a2].toArray s 0 0) 0 [(0, .ref (adr x a0)), (1, .int a1), (2, .int a2)] [] w 0 0
  refine g_iconst (pc := 0) C dX4_awakeOnesThatWake_0 (v := 0) rfl ?_
  refine g_istore_n (pc := 1) C dX4_awakeOnesThatWake_1 (Nat.le_of_ble_eq_true rfl) (lo' := [(3, .int 0), (0, .ref (adr x a0)), (1, .int a1), (2, .int a2)]) rfl ?_
  refine g_aload_n (pc := 2) C dX4_awakeOnesThatWake_2 (q := 1) rfl ?_
  obtain ⟨k1, h⟩ := h
  refine gfX4_9 (pc := 3) C k1 dX4_awakeOnesThatWake_3 ?_
  refine g_iload_n (pc := 6) C dX4_awakeOnesThatWake_6 (q := 2) rfl ?_
  refine miX4_38 (pc := 7) C h (Nat.le_of_ble_eq_true rfl) (Nat.le_of_ble_eq_true rfl) ⟨Nat.le_refl _, Nat.le_refl _⟩ dX4_awakeOnesThatWake_7 (fun r2 w3 h => ?_)
  refine g_if_ne (pc := 10) C dX4_awakeOnesThatWake_10 (tgt := 15) rfl (fun z4 => ?_) (fun z4 => ?_)
  · replace h := h.2 z4
    refine g_aload_n (pc := 15) C dX4_awakeOnesThatWake_15 (q := 1) rfl ?_
    obtain ⟨k5, h⟩ := h
    obtain ⟨k6, h⟩ := h
    refine gfX4_28 (pc := 16) C k5 (isK_ne k6) dX4_awakeOnesThatWake_16 ?_
    obtain ⟨k7, h⟩ := h
    refine gfX4_46 (pc := 19) C k6 (isK_ne k7) dX4_awakeOnesThatWake_19 ?_
    refine miX4_66 (pc := 22) C k7 h (Nat.le_of_ble_eq_true rfl) (Nat.le_of_ble_eq_true rfl) ⟨Nat.le_refl _, Nat.le_refl _⟩ dX4_awakeOnesThatWake_22 (fun r8 w9 h => ?_)
    refine g_aload_n (pc := 25) C dX4_awakeOnesThatWake_25 (q := 1) rfl ?_
    obtain ⟨k10, h⟩ := h
    refine gfX4_9 (pc := 26) C k10 dX4_awakeOnesThatWake_26 ?_
    refine g_iconst (pc := 29) C dX4_awakeOnesThatWake_29 (v := (-1)) rfl ?_
    refine g_ixor (pc := 30) C dX4_awakeOnesThatWake_30 ?_
    refine g_iand (pc := 31) C dX4_awakeOnesThatWake_31 ?_
    refine g_istore (pc := 32) C dX4_awakeOnesThatWake_32 (Nat.le_of_ble_eq_true rfl) (lo' := [(4, .int (r8 &&& ((wI w9 a0 1) ^^^ (-1)))), (3, .int 0), (0, .ref (adr x a0)), (1, .int a1), (2, .int a2)]) rfl ?_
    refine g_iconst (pc := 34) C dX4_awakeOnesThatWake_34 (v := 0) rfl ?_
    refine g_istore (pc := 35) C dX4_awakeOnesThatWake_35 (Nat.le_of_ble_eq_true rfl) (lo' := [(5, .int 0), (4, .int (r8 &&& ((wI w9 a0 1) ^^^ (-1)))), (3, .int 0), (0, .ref (adr x a0)), (1, .int a1), (2, .int a2)]) rfl ?_
    obtain ⟨n21, h⟩ := h
    refine g_sub [3, 4, 5, 2, 1, 0] rfl ?_
    refine t_X4_awakeOnesThatWake_37 C hlk hr n21 _ _ _ _ _ _ _ h
  · replace h := h.1 z4
    refine g_iload_n (pc := 13) C dX4_awakeOnesThatWake_13 (q := 0) rfl ?_
    exact g_iret (pc := 14) C hlk hr (Nat.le_refl _) (Nat.le_refl _) dX4_awakeOnesThatWake_14 h
def w_X4_isFewer (a0 : Int32) (a1 : Int32) (K : Int32 → Wd → Prop) (w : Wd) : Prop :=
  ((a1 < 0 → K 1 w) ∧ (¬ a1 < 0 → w_J6_bitCount_0f7a4 a0 (fun r2 w3 => w_J6_bitCount_0f7a4 a1 (fun r4 w5 => ((r4 ≤ r2 → K 0 w5) ∧ (¬ r4 ≤ r2 → K 1 w5))) w3) w))
theorem c_X4_isFewer {x : xG} {l : Launch} {a0 : Int32} {a1 : Int32} {K : Int32 → Wd → Prop} {w : Wd} (h : w_X4_isFewer a0 a1 K w) : Met l yX4_isFewer (xws yX4_isFewer cX4_isFewer 2 (some .boolean)) (rmd 1 0 0) (xPc x [.int a0, .int a1] w) (QcI x K) 0 0 (xA x) := by
  refine xMet (by decide) (Nat.le_of_ble_eq_true rfl) (fun p e s m below meth c C hlk hr _ => ?_)
  show GW x p l e (rmd 1 0 0) s m [.int a0, .int a1].toArray below meth c 2 (QI x K below [.int a0, .int a1].toArray s 0 0) 0 [(0, .int a0), (1, .int a1)] [] w 0 0
  refine g_iload_n (pc := 0) C dX4_isFewer_0 (q := 1) rfl ?_
  refine g_if_lt (pc := 1) C dX4_isFewer_1 (tgt := 15) rfl (fun z1 => ?_) (fun z1 => ?_)
  · replace h := h.1 z1
    refine g_iconst (pc := 15) C dX4_isFewer_15 (v := 1) rfl ?_
    refine g_goto (pc := 16) C dX4_isFewer_16 (tgt := 20) rfl ?_
    exact g_zret (pc := 20) C hlk hr (Nat.le_refl _) (Nat.le_refl _) dX4_isFewer_20 (Or.inr rfl) h
  · replace h := h.2 z1
    refine g_iload_n (pc := 4) C dX4_isFewer_4 (q := 0) rfl ?_
    refine miX4_78 (pc := 5) C h (Nat.le_of_ble_eq_true rfl) (Nat.le_of_ble_eq_true rfl) ⟨Nat.le_refl _, Nat.le_refl _⟩ dX4_isFewer_5 (fun r2 w3 h => ?_)
    refine g_iload_n (pc := 8) C dX4_isFewer_8 (q := 1) rfl ?_
    refine miX4_78 (pc := 9) C h (Nat.le_of_ble_eq_true rfl) (Nat.le_of_ble_eq_true rfl) ⟨Nat.le_refl _, Nat.le_refl _⟩ dX4_isFewer_9 (fun r4 w5 h => ?_)
    refine g_icmp_ge (pc := 12) C dX4_isFewer_12 (tgt := 19) rfl (fun z6 => ?_) (fun z6 => ?_)
    · replace h := h.1 z6
      refine g_iconst (pc := 19) C dX4_isFewer_19 (v := 0) rfl ?_
      exact g_zret (pc := 20) C hlk hr (Nat.le_refl _) (Nat.le_refl _) dX4_isFewer_20 (Or.inl rfl) h
    · replace h := h.2 z6
      refine g_iconst (pc := 15) C dX4_isFewer_15 (v := 1) rfl ?_
      refine g_goto (pc := 16) C dX4_isFewer_16 (tgt := 20) rfl ?_
      exact g_zret (pc := 20) C hlk hr (Nat.le_refl _) (Nat.le_refl _) dX4_isFewer_20 (Or.inr rfl) h
def l_X4_reachOf_4  (K : Int32 → Wd → Prop) : Nat → Nat → Int32 → Int32 → Int32 → Wd → Prop
  | 0, _, _, _, _, _ => False
  | n + 1, a0, a1, a2, a3, w => isK w a0 4 ∧ isK w (wR w a0 3) 20 ∧ (((Int32.ofNat (wn w (wR w a0 3))) ≤ a3 → K a2 w) ∧ (¬ (Int32.ofNat (wn w (wR w a0 3))) ≤ a3 → w_X11_has a1 a3 (fun r4 w5 => ((r4 = 0 → l_X4_reachOf_4 K n a0 a1 a2 (a3 + 1) w5) ∧ (¬ r4 = 0 → isK w5 a0 4 ∧ isK w5 (wR w5 a0 3) 20 ∧ vp_in a3 (wn w5 (wR w5 a0 3)) ∧ l_X4_reachOf_4 K n a0 a1 (a2 ||| (wI w5 (wR w5 a0 3) a3.toNatClampNeg)) (a3 + 1) w5))) w))
def w_X4_reachOf (a0 : Nat) (a1 : Int32) (K : Int32 → Wd → Prop) (w : Wd) : Prop :=
  ∃ n10, l_X4_reachOf_4  K n10 a0 a1 0 0 w
theorem t_X4_reachOf_4 (C : xC x p s m c cX4_reachOf 4 args RX4) (hlk : meth.locks = false) (hr : meth.sig.returnType = some .int) {K : Int32 → Wd → Prop}   : ∀ (n : Nat) (a0 : Nat) (a1 : Int32) (a2 : Int32) (a3 : Int32) (w : Wd), l_X4_reachOf_4 K n a0 a1 a2 a3 w → GW x p l e (rmd 1 0 0) s m args below meth c 4 (QI x K below args s 0 0) 4 [(0, .ref (adr x a0)), (1, .int a1), (2, .int a2), (3, .int a3)] [] w 0 0 := by
  intro n
  induction n with
  | zero => intro _ _ _ _ _ h; exact False.elim h
  | succ n ih =>
    intro a0 a1 a2 a3 w h
    refine g_iload_n (pc := 4) C dX4_reachOf_4 (q := 3) rfl ?_
    refine g_aload_n (pc := 5) C dX4_reachOf_5 (q := 0) rfl ?_
    obtain ⟨k1, h⟩ := h
    obtain ⟨k2, h⟩ := h
    refine gfX4_19 (pc := 6) C k1 (isK_ne k2) dX4_reachOf_6 ?_
    refine g_alen (pc := 9) C k2 (by decide) dX4_reachOf_9 ?_
    refine g_icmp_ge (pc := 10) C dX4_reachOf_10 (tgt := 36) rfl (fun z3 => ?_) (fun z3 => ?_)
    · replace h := h.1 z3
      refine g_iload_n (pc := 36) C dX4_reachOf_36 (q := 2) rfl ?_
      exact g_iret (pc := 37) C hlk hr (Nat.le_refl _) (Nat.le_refl _) dX4_reachOf_37 h
    · replace h := h.2 z3
      refine g_iload_n (pc := 13) C dX4_reachOf_13 (q := 1) rfl ?_
      refine g_iload_n (pc := 14) C dX4_reachOf_14 (q := 3) rfl ?_
      refine miX4_38 (pc := 15) C h (Nat.le_of_ble_eq_true rfl) (Nat.le_of_ble_eq_true rfl) ⟨Nat.le_refl _, Nat.le_refl _⟩ dX4_reachOf_15 (fun r4 w5 h => ?_)
      refine g_if_eq (pc := 18) C dX4_reachOf_18 (tgt := 30) rfl (fun z6 => ?_) (fun z6 => ?_)
      · replace h := h.1 z6
        refine g_iinc (pc := 30) C dX4_reachOf_30 (q := 3) rfl (v2 := a3 + 1) rfl (Nat.le_of_ble_eq_true rfl) (lo' := [(3, .int (a3 + 1)), (0, .ref (adr x a0)), (1, .int a1), (2, .int a2)]) rfl ?_
        refine g_goto (pc := 33) C dX4_reachOf_33 (tgt := 4) rfl ?_
        refine g_sub [1, 2, 3, 0] rfl ?_
        exact ih _ _ _ _ _ h
      · replace h := h.2 z6
        refine g_iload_n (pc := 21) C dX4_reachOf_21 (q := 2) rfl ?_
        refine g_aload_n (pc := 22) C dX4_reachOf_22 (q := 0) rfl ?_
        obtain ⟨k7, h⟩ := h
        obtain ⟨k8, h⟩ := h
        refine gfX4_19 (pc := 23) C k7 (isK_ne k8) dX4_reachOf_23 ?_
        refine g_iload_n (pc := 26) C dX4_reachOf_26 (q := 3) rfl ?_
        obtain ⟨k9, h⟩ := h
        refine g_iald (pc := 27) C k8 k9 dX4_reachOf_27 ?_
        refine g_ior (pc := 28) C dX4_reachOf_28 ?_
        refine g_istore_n (pc := 29) C dX4_reachOf_29 (Nat.le_of_ble_eq_true rfl) (lo' := [(2, .int (a2 ||| (wI w5 (wR w5 a0 3) a3.toNatClampNeg))), (0, .ref (adr x a0)), (1, .int a1), (3, .int a3)]) rfl ?_
        refine g_iinc (pc := 30) C dX4_reachOf_30 (q := 3) rfl (v2 := a3 + 1) rfl (Nat.le_of_ble_eq_true rfl) (lo' := [(3, .int (a3 + 1)), (2, .int (a2 ||| (wI w5 (wR w5 a0 3) a3.toNatClampNeg))), (0, .ref (adr x a0)), (1, .int a1)]) rfl ?_
        refine g_goto (pc := 33) C dX4_reachOf_33 (tgt := 4) rfl ?_
        refine g_sub [2, 3, 1, 0] rfl ?_
        exact ih _ _ _ _ _ h
theorem c_X4_reachOf {x : xG} {l : Launch} {a0 : Nat} {a1 : Int32} {K : Int32 → Wd → Prop} {w : Wd} (h : w_X4_reachOf a0 a1 K w) : Met l yX4_reachOf (xws yX4_reachOf cX4_reachOf 4 (some .int)) (rmd 1 0 0) (xPc x [.ref (adr x a0), .int a1] w) (QcI x K) 0 0 (xA x) := by
  refine xMet (by decide) (Nat.le_of_ble_eq_true rfl) (fun p e s m below meth c C hlk hr _ => ?_)
  show GW x p l e (rmd 1 0 0) s m [.ref (adr x a0), .int a1].toArray below meth c 4 (QI x K below [.ref (adr x a0), .int a1].toArray s 0 0) 0 [(0, .ref (adr x a0)), (1, .int a1)] [] w 0 0
  refine g_iconst (pc := 0) C dX4_reachOf_0 (v := 0) rfl ?_
  refine g_istore_n (pc := 1) C dX4_reachOf_1 (Nat.le_of_ble_eq_true rfl) (lo' := [(2, .int 0), (0, .ref (adr x a0)), (1, .int a1)]) rfl ?_
  refine g_iconst (pc := 2) C dX4_reachOf_2 (v := 0) rfl ?_
  refine g_istore_n (pc := 3) C dX4_reachOf_3 (Nat.le_of_ble_eq_true rfl) (lo' := [(3, .int 0), (2, .int 0), (0, .ref (adr x a0)), (1, .int a1)]) rfl ?_
  obtain ⟨n10, h⟩ := h
  refine g_sub [2, 3, 1, 0] rfl ?_
  refine t_X4_reachOf_4 C hlk hr n10 _ _ _ _ _ h
theorem miX4_72 (C : xC x p s m c cc nL args RX4) {a0 : Int32} {a1 : Int32} {K : Int32 → Wd → Prop} {D MC MS : Nat} (h : w_X4_isFewer a0 a1 K w) (hD : 1 + 1 ≤ D) (hW : (st.map fun v => v.category).sum ≤ 8) (hij : i ≤ MC ∧ j ≤ MS) (hd : decode cc pc = .ok (.invokestatic 72, 3)) (k : ∀ (r : Int32) (u : Wd), K r u → GW x p l e (rmd D MC MS) s m args below meth c nL Q (pc + 3) lo (.int r :: st) u i j) : GW x p l e (rmd D MC MS) s m args below meth c nL Q pc lo (.int a1 :: .int a0 :: st) w i j := g_callSi0 C (As := [.int a0, .int a1]) (c_X4_isFewer h) (x_cwS C 2 LMX4_72 ⟨by decide, by decide, rfl⟩ hD (by decide)) rfl rfl hW hd hij k
theorem miX4_75 (C : xC x p s m c cc nL args RX4) {a0 : Nat} {a1 : Int32} {K : Int32 → Wd → Prop} {D MC MS : Nat} (hq : isK w a0 4) (h : w_X4_reachOf a0 a1 K w) (hD : 1 + 1 ≤ D) (hW : (st.map fun v => v.category).sum ≤ 8) (hij : i ≤ MC ∧ j ≤ MS) (hd : decode cc pc = .ok (.invokevirtual 75, 3)) (k : ∀ (r : Int32) (u : Wd), K r u → GW x p l e (rmd D MC MS) s m args below meth c nL Q (pc + 3) lo (.int r :: st) u i j) : GW x p l e (rmd D MC MS) s m args below meth c nL Q pc lo (.int a1 :: .ref (adr x a0) :: st) w i j := g_callVi0 C (As := [.int a1]) (ci := 4) (c_X4_reachOf h) (x_cwV C 1 LMX4_75 ⟨rfl, by decide, by decide, rfl⟩ hD (by decide)) rfl hq (by decide) rfl rfl hW hd hij k
def l_X4_leastChorus_20 (E59 : Nat → Int32 → Wd → Prop) (K : Int32 → Wd → Prop) : Nat → Nat → Int32 → Int32 → Int32 → Wd → Prop
  | 0, _, _, _, _, _ => False
  | n + 1, a0, a1, a2, a3, w => isK w a0 4 ∧ isK w (wR w a0 3) 20 ∧ (((Int32.ofNat (wn w (wR w a0 3))) ≤ a3 → E59 a0 a2 w) ∧ (¬ (Int32.ofNat (wn w (wR w a0 3))) ≤ a3 → w_X11_has a2 a3 (fun r10 w11 => ((r10 = 0 → isK w11 (wR w a0 3) 20 ∧ vp_in a3 (wn w11 (wR w a0 3)) ∧ l_X4_leastChorus_20 E59 K n a0 a1 a2 (a3 + 1) (uI w11 (wR w a0 3) a3.toNatClampNeg 0)) ∧ (¬ r10 = 0 → isK w11 a0 4 ∧ w_X4_wokenBy a0 a3 a1 (fun r16 w17 => isK w17 (wR w a0 3) 20 ∧ vp_in a3 (wn w17 (wR w a0 3)) ∧ l_X4_leastChorus_20 E59 K n a0 a1 a2 (a3 + 1) (uI w17 (wR w a0 3) a3.toNatClampNeg r16)) w11))) w))
def l_X4_leastChorus_64  (K : Int32 → Wd → Prop) : Nat → Nat → Int32 → Int32 → Int32 → Wd → Prop
  | 0, _, _, _, _, _ => False
  | n + 1, a0, a2, a3, a4, w => ((1024 ≤ a4 → K a3 w) ∧ (¬ 1024 ≤ a4 → (((a4 &&& (a2 ^^^ (-1))) = 0 → w_X4_isFewer a4 a3 (fun r25 w26 => ((r25 = 0 → l_X4_leastChorus_64 K n a0 a2 a3 (a4 + 1) w26) ∧ (¬ r25 = 0 → isK w26 a0 4 ∧ w_X4_reachOf a0 a4 (fun r29 w30 => ((((wI w26 a0 1) &&& (r29 ^^^ (-1))) = 0 → l_X4_leastChorus_64 K n a0 a2 a4 (a4 + 1) w30) ∧ (¬ ((wI w26 a0 1) &&& (r29 ^^^ (-1))) = 0 → l_X4_leastChorus_64 K n a0 a2 a3 (a4 + 1) w30))) w26))) w) ∧ (¬ (a4 &&& (a2 ^^^ (-1))) = 0 → l_X4_leastChorus_64 K n a0 a2 a3 (a4 + 1) w))))
def w_X4_leastChorus (a0 : Nat) (a1 : Int32) (K : Int32 → Wd → Prop) (w : Wd) : Prop :=
  isK w a0 4 ∧ isK w (wR w a0 0) 2 ∧ isK w (wR w (wR w a0 0) 0) 1 ∧ w_X1_allWells (wR w (wR w a0 0) 0) (fun r4 w5 => isK w5 a0 4 ∧ ∃ n33, l_X4_leastChorus_20 (fun b20 b21 w22 => ∃ n32, l_X4_leastChorus_64  K n32 b20 b21 (-1) 0 w22) K n33 a0 a1 (r4 &&& ((wI w5 a0 1) ^^^ (-1))) 0 w5) w
theorem t_X4_leastChorus_20 (C : xC x p s m c cX4_leastChorus 5 args RX4) (hlk : meth.locks = false) (hr : meth.sig.returnType = some .int) {K : Int32 → Wd → Prop} {E59 : Nat → Int32 → Wd → Prop} (hE59 : ∀ (b0 : Nat) (b2 : Int32) (w : Wd), E59 b0 b2 w → GW x p l e (rmd 4 0 0) s m args below meth c 5 (QI x K below args s 0 0) 59 [(0, .ref (adr x b0)), (2, .int b2)] [] w 0 0) : ∀ (n : Nat) (a0 : Nat) (a1 : Int32) (a2 : Int32) (a3 : Int32) (w : Wd), l_X4_leastChorus_20 E59 K n a0 a1 a2 a3 w → GW x p l e (rmd 4 0 0) s m args below meth c 5 (QI x K below args s 0 0) 20 [(0, .ref (adr x a0)), (1, .int a1), (2, .int a2), (3, .int a3)] [] w 0 0 := by
  intro n
  induction n with
  | zero => intro _ _ _ _ _ h; exact False.elim h
  | succ n ih =>
    intro a0 a1 a2 a3 w h
    refine g_iload_n (pc := 20) C dX4_leastChorus_20 (q := 3) rfl ?_
    refine g_aload_n (pc := 21) C dX4_leastChorus_21 (q := 0) rfl ?_
    obtain ⟨k7, h⟩ := h
    obtain ⟨k8, h⟩ := h
    refine gfX4_19 (pc := 22) C k7 (isK_ne k8) dX4_leastChorus_22 ?_
    refine g_alen (pc := 25) C k8 (by decide) dX4_leastChorus_25 ?_
    refine g_icmp_ge (pc := 26) C dX4_leastChorus_26 (tgt := 59) rfl (fun z9 => ?_) (fun z9 => ?_)
    · replace h := h.1 z9
      refine g_sub [0, 2] rfl ?_
      exact hE59 _ _ _ h
    · replace h := h.2 z9
      refine g_aload_n (pc := 29) C dX4_leastChorus_29 (q := 0) rfl ?_
      refine gfX4_19 (pc := 30) C k7 (isK_ne k8) dX4_leastChorus_30 ?_
      refine g_iload_n (pc := 33) C dX4_leastChorus_33 (q := 3) rfl ?_
      refine g_iload_n (pc := 34) C dX4_leastChorus_34 (q := 2) rfl ?_
      refine g_iload_n (pc := 35) C dX4_leastChorus_35 (q := 3) rfl ?_
      refine miX4_38 (pc := 36) C h (Nat.le_of_ble_eq_true rfl) (Nat.le_of_ble_eq_true rfl) ⟨Nat.le_refl _, Nat.le_refl _⟩ dX4_leastChorus_36 (fun r10 w11 h => ?_)
      refine g_if_eq (pc := 39) C dX4_leastChorus_39 (tgt := 51) rfl (fun z12 => ?_) (fun z12 => ?_)
      · replace h := h.1 z12
        refine g_iconst (pc := 51) C dX4_leastChorus_51 (v := 0) rfl ?_
        obtain ⟨k13, h⟩ := h
        obtain ⟨k14, h⟩ := h
        refine g_iast (pc := 52) C k13 k14 dX4_leastChorus_52 ?_
        refine g_iinc (pc := 53) C dX4_leastChorus_53 (q := 3) rfl (v2 := a3 + 1) rfl (Nat.le_of_ble_eq_true rfl) (lo' := [(3, .int (a3 + 1)), (0, .ref (adr x a0)), (1, .int a1), (2, .int a2)]) rfl ?_
        refine g_goto (pc := 56) C dX4_leastChorus_56 (tgt := 20) rfl ?_
        refine g_sub [1, 2, 3, 0] rfl ?_
        exact ih _ _ _ _ _ h
      · replace h := h.2 z12
        refine g_aload_n (pc := 42) C dX4_leastChorus_42 (q := 0) rfl ?_
        refine g_iload_n (pc := 43) C dX4_leastChorus_43 (q := 3) rfl ?_
        refine g_iload_n (pc := 44) C dX4_leastChorus_44 (q := 1) rfl ?_
        obtain ⟨k15, h⟩ := h
        refine miX4_69 (pc := 45) C k15 h (Nat.le_of_ble_eq_true rfl) (Nat.le_of_ble_eq_true rfl) ⟨Nat.le_refl _, Nat.le_refl _⟩ dX4_leastChorus_45 (fun r16 w17 h => ?_)
        refine g_goto (pc := 48) C dX4_leastChorus_48 (tgt := 52) rfl ?_
        obtain ⟨k18, h⟩ := h
        obtain ⟨k19, h⟩ := h
        refine g_iast (pc := 52) C k18 k19 dX4_leastChorus_52 ?_
        refine g_iinc (pc := 53) C dX4_leastChorus_53 (q := 3) rfl (v2 := a3 + 1) rfl (Nat.le_of_ble_eq_true rfl) (lo' := [(3, .int (a3 + 1)), (0, .ref (adr x a0)), (1, .int a1), (2, .int a2)]) rfl ?_
        refine g_goto (pc := 56) C dX4_leastChorus_56 (tgt := 20) rfl ?_
        refine g_sub [1, 2, 3, 0] rfl ?_
        exact ih _ _ _ _ _ h
theorem t_X4_leastChorus_64 (C : xC x p s m c cX4_leastChorus 5 args RX4) (hlk : meth.locks = false) (hr : meth.sig.returnType = some .int) {K : Int32 → Wd → Prop}   : ∀ (n : Nat) (a0 : Nat) (a2 : Int32) (a3 : Int32) (a4 : Int32) (w : Wd), l_X4_leastChorus_64 K n a0 a2 a3 a4 w → GW x p l e (rmd 4 0 0) s m args below meth c 5 (QI x K below args s 0 0) 64 [(0, .ref (adr x a0)), (2, .int a2), (3, .int a3), (4, .int a4)] [] w 0 0 := by
  intro n
  induction n with
  | zero => intro _ _ _ _ _ h; exact False.elim h
  | succ n ih =>
    intro a0 a2 a3 a4 w h
    refine g_iload (pc := 64) C dX4_leastChorus_64 (q := 3) rfl ?_
    refine g_sipush (pc := 66) C dX4_leastChorus_66 (v := 1024) rfl ?_
    refine g_icmp_ge (pc := 69) C dX4_leastChorus_69 (tgt := 115) rfl (fun z23 => ?_) (fun z23 => ?_)
    · replace h := h.1 z23
      refine g_iload_n (pc := 115) C dX4_leastChorus_115 (q := 2) rfl ?_
      exact g_iret (pc := 116) C hlk hr (Nat.le_refl _) (Nat.le_refl _) dX4_leastChorus_116 h
    · replace h := h.2 z23
      refine g_iload (pc := 72) C dX4_leastChorus_72 (q := 3) rfl ?_
      refine g_iload_n (pc := 74) C dX4_leastChorus_74 (q := 1) rfl ?_
      refine g_iconst (pc := 75) C dX4_leastChorus_75 (v := (-1)) rfl ?_
      refine g_ixor (pc := 76) C dX4_leastChorus_76 ?_
      refine g_iand (pc := 77) C dX4_leastChorus_77 ?_
      refine g_if_ne (pc := 78) C dX4_leastChorus_78 (tgt := 109) rfl (fun z24 => ?_) (fun z24 => ?_)
      · replace h := h.2 z24
        refine g_iinc (pc := 109) C dX4_leastChorus_109 (q := 3) rfl (v2 := a4 + 1) rfl (Nat.le_of_ble_eq_true rfl) (lo' := [(4, .int (a4 + 1)), (0, .ref (adr x a0)), (2, .int a2), (3, .int a3)]) rfl ?_
        refine g_goto (pc := 112) C dX4_leastChorus_112 (tgt := 64) rfl ?_
        refine g_sub [1, 2, 3, 0] rfl ?_
        exact ih _ _ _ _ _ h
      · replace h := h.1 z24
        refine g_iload (pc := 81) C dX4_leastChorus_81 (q := 3) rfl ?_
        refine g_iload_n (pc := 83) C dX4_leastChorus_83 (q := 2) rfl ?_
        refine miX4_72 (pc := 84) C h (Nat.le_of_ble_eq_true rfl) (Nat.le_of_ble_eq_true rfl) ⟨Nat.le_refl _, Nat.le_refl _⟩ dX4_leastChorus_84 (fun r25 w26 h => ?_)
        refine g_if_eq (pc := 87) C dX4_leastChorus_87 (tgt := 109) rfl (fun z27 => ?_) (fun z27 => ?_)
        · replace h := h.1 z27
          refine g_iinc (pc := 109) C dX4_leastChorus_109 (q := 3) rfl (v2 := a4 + 1) rfl (Nat.le_of_ble_eq_true rfl) (lo' := [(4, .int (a4 + 1)), (0, .ref (adr x a0)), (2, .int a2), (3, .int a3)]) rfl ?_
          refine g_goto (pc := 112) C dX4_leastChorus_112 (tgt := 64) rfl ?_
          refine g_sub [1, 2, 3, 0] rfl ?_
          exact ih _ _ _ _ _ h
        · replace h := h.2 z27
          refine g_aload_n (pc := 90) C dX4_leastChorus_90 (q := 0) rfl ?_
          obtain ⟨k28, h⟩ := h
          refine gfX4_9 (pc := 91) C k28 dX4_leastChorus_91 ?_
          refine g_aload_n (pc := 94) C dX4_leastChorus_94 (q := 0) rfl ?_
          refine g_iload (pc := 95) C dX4_leastChorus_95 (q := 3) rfl ?_
          refine miX4_75 (pc := 97) C k28 h (Nat.le_of_ble_eq_true rfl) (Nat.le_of_ble_eq_true rfl) ⟨Nat.le_refl _, Nat.le_refl _⟩ dX4_leastChorus_97 (fun r29 w30 h => ?_)
          refine g_iconst (pc := 100) C dX4_leastChorus_100 (v := (-1)) rfl ?_
          refine g_ixor (pc := 101) C dX4_leastChorus_101 ?_
          refine g_iand (pc := 102) C dX4_leastChorus_102 ?_
          refine g_if_ne (pc := 103) C dX4_leastChorus_103 (tgt := 109) rfl (fun z31 => ?_) (fun z31 => ?_)
          · replace h := h.2 z31
            refine g_iinc (pc := 109) C dX4_leastChorus_109 (q := 3) rfl (v2 := a4 + 1) rfl (Nat.le_of_ble_eq_true rfl) (lo' := [(4, .int (a4 + 1)), (0, .ref (adr x a0)), (2, .int a2), (3, .int a3)]) rfl ?_
            refine g_goto (pc := 112) C dX4_leastChorus_112 (tgt := 64) rfl ?_
            refine g_sub [1, 2, 3, 0] rfl ?_
            exact ih _ _ _ _ _ h
          · replace h := h.1 z31
            refine g_iload (pc := 106) C dX4_leastChorus_106 (q := 3) rfl ?_
            refine g_istore_n (pc := 108) C dX4_leastChorus_108 (Nat.le_of_ble_eq_true rfl) (lo' := [(3, .int a4), (0, .ref (adr x a0)), (2, .int a2), (4, .int a4)]) rfl ?_
            refine g_iinc (pc := 109) C dX4_leastChorus_109 (q := 3) rfl (v2 := a4 + 1) rfl (Nat.le_of_ble_eq_true rfl) (lo' := [(4, .int (a4 + 1)), (3, .int a4), (0, .ref (adr x a0)), (2, .int a2)]) rfl ?_
            refine g_goto (pc := 112) C dX4_leastChorus_112 (tgt := 64) rfl ?_
            refine g_sub [2, 3, 1, 0] rfl ?_
            exact ih _ _ _ _ _ h
theorem c_X4_leastChorus {x : xG} {l : Launch} {a0 : Nat} {a1 : Int32} {K : Int32 → Wd → Prop} {w : Wd} (h : w_X4_leastChorus a0 a1 K w) : Met l yX4_leastChorus (xws yX4_leastChorus cX4_leastChorus 5 (some .int)) (rmd 4 0 0) (xPc x [.ref (adr x a0), .int a1] w) (QcI x K) 0 0 (xA x) := by
  refine xMet (by decide) (Nat.le_of_ble_eq_true rfl) (fun p e s m below meth c C hlk hr _ => ?_)
  show GW x p l e (rmd 4 0 0) s m [.ref (adr x a0), .int a1].toArray below meth c 5 (QI x K below [.ref (adr x a0), .int a1].toArray s 0 0) 0 [(0, .ref (adr x a0)), (1, .int a1)] [] w 0 0
  refine g_aload_n (pc := 0) C dX4_leastChorus_0 (q := 0) rfl ?_
  obtain ⟨k1, h⟩ := h
  obtain ⟨k2, h⟩ := h
  refine gfX4_28 (pc := 1) C k1 (isK_ne k2) dX4_leastChorus_1 ?_
  obtain ⟨k3, h⟩ := h
  refine gfX4_46 (pc := 4) C k2 (isK_ne k3) dX4_leastChorus_4 ?_
  refine miX4_66 (pc := 7) C k3 h (Nat.le_of_ble_eq_true rfl) (Nat.le_of_ble_eq_true rfl) ⟨Nat.le_refl _, Nat.le_refl _⟩ dX4_leastChorus_7 (fun r4 w5 h => ?_)
  refine g_aload_n (pc := 10) C dX4_leastChorus_10 (q := 0) rfl ?_
  obtain ⟨k6, h⟩ := h
  refine gfX4_9 (pc := 11) C k6 dX4_leastChorus_11 ?_
  refine g_iconst (pc := 14) C dX4_leastChorus_14 (v := (-1)) rfl ?_
  refine g_ixor (pc := 15) C dX4_leastChorus_15 ?_
  refine g_iand (pc := 16) C dX4_leastChorus_16 ?_
  refine g_istore_n (pc := 17) C dX4_leastChorus_17 (Nat.le_of_ble_eq_true rfl) (lo' := [(2, .int (r4 &&& ((wI w5 a0 1) ^^^ (-1)))), (0, .ref (adr x a0)), (1, .int a1)]) rfl ?_
  refine g_iconst (pc := 18) C dX4_leastChorus_18 (v := 0) rfl ?_
  refine g_istore_n (pc := 19) C dX4_leastChorus_19 (Nat.le_of_ble_eq_true rfl) (lo' := [(3, .int 0), (2, .int (r4 &&& ((wI w5 a0 1) ^^^ (-1)))), (0, .ref (adr x a0)), (1, .int a1)]) rfl ?_
  obtain ⟨n33, h⟩ := h
  refine g_sub [2, 3, 1, 0] rfl ?_
  refine t_X4_leastChorus_20 C hlk hr ?_ n33 _ _ _ _ _ h
  · intro b20 b21 w22 h
    refine g_iconst (pc := 59) C dX4_leastChorus_59 (v := (-1)) rfl ?_
    refine g_istore_n (pc := 60) C dX4_leastChorus_60 (Nat.le_of_ble_eq_true rfl) (lo' := [(3, .int (-1)), (0, .ref (adr x b20)), (2, .int b21)]) rfl ?_
    refine g_iconst (pc := 61) C dX4_leastChorus_61 (v := 0) rfl ?_
    refine g_istore (pc := 62) C dX4_leastChorus_62 (Nat.le_of_ble_eq_true rfl) (lo' := [(4, .int 0), (3, .int (-1)), (0, .ref (adr x b20)), (2, .int b21)]) rfl ?_
    obtain ⟨n32, h⟩ := h
    refine g_sub [2, 3, 1, 0] rfl ?_
    refine t_X4_leastChorus_64 C hlk hr n32 _ _ _ _ _ h
def l_X4_leastShield_57  (K : Int32 → Wd → Prop) : Nat → Nat → Int32 → Int32 → Int32 → Int32 → Int32 → Int32 → Wd → Prop
  | 0, _, _, _, _, _, _, _, _ => False
  | n + 1, a0, a3, a4, a5, a7, a8, a9, w => ((1024 ≤ a9 → K a8 w) ∧ (¬ 1024 ≤ a9 → w_X11_has a4 a3 (fun r11 w12 => ((r11 = 0 → (((a9 &&& (a7 ^^^ (-1))) = 0 → w_X4_isFewer a9 a8 (fun r15 w16 => ((r15 = 0 → l_X4_leastShield_57 K n a0 a3 a4 a5 a7 a8 (a9 + 1) w16) ∧ (¬ r15 = 0 → isK w16 a0 4 ∧ w_X4_spread a0 a4 (a5 &&& (a9 ^^^ (-1))) (fun r19 w20 => w_X11_has r19 a3 (fun r21 w22 => ((r21 = 0 → l_X4_leastShield_57 K n a0 a3 a4 a5 a7 a9 (a9 + 1) w22) ∧ (¬ r21 = 0 → l_X4_leastShield_57 K n a0 a3 a4 a5 a7 a8 (a9 + 1) w22))) w20) w16))) w12) ∧ (¬ (a9 &&& (a7 ^^^ (-1))) = 0 → l_X4_leastShield_57 K n a0 a3 a4 a5 a7 a8 (a9 + 1) w12))) ∧ (¬ r11 = 0 → K a8 w12))) w))
def w_X4_leastShield (a0 : Nat) (a1 : Int32) (a2 : Int32) (a3 : Int32) (K : Int32 → Wd → Prop) (w : Wd) : Prop :=
  isK w a0 4 ∧ w_X4_wokenAtOnce a0 a1 a2 (fun r2 w3 => isK w3 a0 4 ∧ w_X4_spread a0 r2 ((wI w3 a0 1) &&& ((x_ishl 1 a1) ^^^ (-1))) (fun r5 w6 => w_X11_has r5 a3 (fun r7 w8 => ((r7 = 0 → K 0 w8) ∧ (¬ r7 = 0 → ∃ n24, l_X4_leastShield_57  K n24 a0 a3 r2 ((wI w3 a0 1) &&& ((x_ishl 1 a1) ^^^ (-1))) (r5 &&& ((x_ishl 1 a3) ^^^ (-1))) (-1) 1 w8))) w6) w3) w
theorem t_X4_leastShield_57 (C : xC x p s m c cX4_leastShield 10 args RX4) (hlk : meth.locks = false) (hr : meth.sig.returnType = some .int) {K : Int32 → Wd → Prop}   : ∀ (n : Nat) (a0 : Nat) (a3 : Int32) (a4 : Int32) (a5 : Int32) (a7 : Int32) (a8 : Int32) (a9 : Int32) (w : Wd), l_X4_leastShield_57 K n a0 a3 a4 a5 a7 a8 a9 w → GW x p l e (rmd 3 0 0) s m args below meth c 10 (QI x K below args s 0 0) 57 [(0, .ref (adr x a0)), (3, .int a3), (4, .int a4), (5, .int a5), (7, .int a7), (8, .int a8), (9, .int a9)] [] w 0 0 := by
  intro n
  induction n with
  | zero => intro _ _ _ _ _ _ _ _ h; exact False.elim h
  | succ n ih =>
    intro a0 a3 a4 a5 a7 a8 a9 w h
    refine g_iload (pc := 57) C dX4_leastShield_57 (q := 6) rfl ?_
    refine g_sipush (pc := 59) C dX4_leastShield_59 (v := 1024) rfl ?_
    refine g_icmp_ge (pc := 62) C dX4_leastShield_62 (tgt := 124) rfl (fun z10 => ?_) (fun z10 => ?_)
    · replace h := h.1 z10
      refine g_iload (pc := 124) C dX4_leastShield_124 (q := 5) rfl ?_
      exact g_iret (pc := 126) C hlk hr (Nat.le_refl _) (Nat.le_refl _) dX4_leastShield_126 h
    · replace h := h.2 z10
      refine g_iload (pc := 65) C dX4_leastShield_65 (q := 2) rfl ?_
      refine g_iload_n (pc := 67) C dX4_leastShield_67 (q := 1) rfl ?_
      refine miX4_38 (pc := 68) C h (Nat.le_of_ble_eq_true rfl) (Nat.le_of_ble_eq_true rfl) ⟨Nat.le_refl _, Nat.le_refl _⟩ dX4_leastShield_68 (fun r11 w12 h => ?_)
      refine g_if_ne (pc := 71) C dX4_leastShield_71 (tgt := 124) rfl (fun z13 => ?_) (fun z13 => ?_)
      · replace h := h.2 z13
        refine g_iload (pc := 124) C dX4_leastShield_124 (q := 5) rfl ?_
        exact g_iret (pc := 126) C hlk hr (Nat.le_refl _) (Nat.le_refl _) dX4_leastShield_126 h
      · replace h := h.1 z13
        refine g_iload (pc := 74) C dX4_leastShield_74 (q := 6) rfl ?_
        refine g_iload (pc := 76) C dX4_leastShield_76 (q := 4) rfl ?_
        refine g_iconst (pc := 78) C dX4_leastShield_78 (v := (-1)) rfl ?_
        refine g_ixor (pc := 79) C dX4_leastShield_79 ?_
        refine g_iand (pc := 80) C dX4_leastShield_80 ?_
        refine g_if_ne (pc := 81) C dX4_leastShield_81 (tgt := 118) rfl (fun z14 => ?_) (fun z14 => ?_)
        · replace h := h.2 z14
          refine g_iinc (pc := 118) C dX4_leastShield_118 (q := 6) rfl (v2 := a9 + 1) rfl (Nat.le_of_ble_eq_true rfl) (lo' := [(9, .int (a9 + 1)), (0, .ref (adr x a0)), (3, .int a3), (4, .int a4), (5, .int a5), (7, .int a7), (8, .int a8)]) rfl ?_
          refine g_goto (pc := 121) C dX4_leastShield_121 (tgt := 57) rfl ?_
          refine g_sub [1, 2, 3, 4, 5, 6, 0] rfl ?_
          exact ih _ _ _ _ _ _ _ _ h
        · replace h := h.1 z14
          refine g_iload (pc := 84) C dX4_leastShield_84 (q := 6) rfl ?_
          refine g_iload (pc := 86) C dX4_leastShield_86 (q := 5) rfl ?_
          refine miX4_72 (pc := 88) C h (Nat.le_of_ble_eq_true rfl) (Nat.le_of_ble_eq_true rfl) ⟨Nat.le_refl _, Nat.le_refl _⟩ dX4_leastShield_88 (fun r15 w16 h => ?_)
          refine g_if_eq (pc := 91) C dX4_leastShield_91 (tgt := 118) rfl (fun z17 => ?_) (fun z17 => ?_)
          · replace h := h.1 z17
            refine g_iinc (pc := 118) C dX4_leastShield_118 (q := 6) rfl (v2 := a9 + 1) rfl (Nat.le_of_ble_eq_true rfl) (lo' := [(9, .int (a9 + 1)), (0, .ref (adr x a0)), (3, .int a3), (4, .int a4), (5, .int a5), (7, .int a7), (8, .int a8)]) rfl ?_
            refine g_goto (pc := 121) C dX4_leastShield_121 (tgt := 57) rfl ?_
            refine g_sub [1, 2, 3, 4, 5, 6, 0] rfl ?_
            exact ih _ _ _ _ _ _ _ _ h
          · replace h := h.2 z17
            refine g_aload_n (pc := 94) C dX4_leastShield_94 (q := 0) rfl ?_
            refine g_iload (pc := 95) C dX4_leastShield_95 (q := 2) rfl ?_
            refine g_iload (pc := 97) C dX4_leastShield_97 (q := 3) rfl ?_
            refine g_iload (pc := 99) C dX4_leastShield_99 (q := 6) rfl ?_
            refine g_iconst (pc := 101) C dX4_leastShield_101 (v := (-1)) rfl ?_
            refine g_ixor (pc := 102) C dX4_leastShield_102 ?_
            refine g_iand (pc := 103) C dX4_leastShield_103 ?_
            obtain ⟨k18, h⟩ := h
            refine miX4_60 (pc := 104) C k18 h (Nat.le_of_ble_eq_true rfl) (Nat.le_of_ble_eq_true rfl) ⟨Nat.le_refl _, Nat.le_refl _⟩ dX4_leastShield_104 (fun r19 w20 h => ?_)
            refine g_iload_n (pc := 107) C dX4_leastShield_107 (q := 1) rfl ?_
            refine miX4_38 (pc := 108) C h (Nat.le_of_ble_eq_true rfl) (Nat.le_of_ble_eq_true rfl) ⟨Nat.le_refl _, Nat.le_refl _⟩ dX4_leastShield_108 (fun r21 w22 h => ?_)
            refine g_if_ne (pc := 111) C dX4_leastShield_111 (tgt := 118) rfl (fun z23 => ?_) (fun z23 => ?_)
            · replace h := h.2 z23
              refine g_iinc (pc := 118) C dX4_leastShield_118 (q := 6) rfl (v2 := a9 + 1) rfl (Nat.le_of_ble_eq_true rfl) (lo' := [(9, .int (a9 + 1)), (0, .ref (adr x a0)), (3, .int a3), (4, .int a4), (5, .int a5), (7, .int a7), (8, .int a8)]) rfl ?_
              refine g_goto (pc := 121) C dX4_leastShield_121 (tgt := 57) rfl ?_
              refine g_sub [1, 2, 3, 4, 5, 6, 0] rfl ?_
              exact ih _ _ _ _ _ _ _ _ h
            · replace h := h.1 z23
              refine g_iload (pc := 114) C dX4_leastShield_114 (q := 6) rfl ?_
              refine g_istore (pc := 116) C dX4_leastShield_116 (Nat.le_of_ble_eq_true rfl) (lo' := [(8, .int a9), (0, .ref (adr x a0)), (3, .int a3), (4, .int a4), (5, .int a5), (7, .int a7), (9, .int a9)]) rfl ?_
              refine g_iinc (pc := 118) C dX4_leastShield_118 (q := 6) rfl (v2 := a9 + 1) rfl (Nat.le_of_ble_eq_true rfl) (lo' := [(9, .int (a9 + 1)), (8, .int a9), (0, .ref (adr x a0)), (3, .int a3), (4, .int a4), (5, .int a5), (7, .int a7)]) rfl ?_
              refine g_goto (pc := 121) C dX4_leastShield_121 (tgt := 57) rfl ?_
              refine g_sub [2, 3, 4, 5, 6, 1, 0] rfl ?_
              exact ih _ _ _ _ _ _ _ _ h
theorem c_X4_leastShield {x : xG} {l : Launch} {a0 : Nat} {a1 : Int32} {a2 : Int32} {a3 : Int32} {K : Int32 → Wd → Prop} {w : Wd} (h : w_X4_leastShield a0 a1 a2 a3 K w) : Met l yX4_leastShield (xws yX4_leastShield cX4_leastShield 10 (some .int)) (rmd 3 0 0) (xPc x [.ref (adr x a0), .int a1, .int a2, .int a3] w) (QcI x K) 0 0 (xA x) := by
  refine xMet (by decide) (Nat.le_of_ble_eq_true rfl) (fun p e s m below meth c C hlk hr _ => ?_)
  show GW x p l e (rmd 3 0 0) s m [.ref (adr x a0), .int a1, .int a2, .int a3].toArray below meth c 10 (QI x K below [.ref (adr x a0), .int a1, .int a2, .int a3].toArray s 0 0) 0 [(0, .ref (adr x a0)), (1, .int a1), (2, .int a2), (3, .int a3)] [] w 0 0
  refine g_aload_n (pc := 0) C dX4_leastShield_0 (q := 0) rfl ?_
  refine g_iload_n (pc := 1) C dX4_leastShield_1 (q := 1) rfl ?_
  refine g_iload_n (pc := 2) C dX4_leastShield_2 (q := 2) rfl ?_
  obtain ⟨k1, h⟩ := h
  refine miX4_42 (pc := 3) C k1 h (Nat.le_of_ble_eq_true rfl) (Nat.le_of_ble_eq_true rfl) ⟨Nat.le_refl _, Nat.le_refl _⟩ dX4_leastShield_3 (fun r2 w3 h => ?_)
  refine g_istore (pc := 6) C dX4_leastShield_6 (Nat.le_of_ble_eq_true rfl) (lo' := [(4, .int r2), (0, .ref (adr x a0)), (1, .int a1), (2, .int a2), (3, .int a3)]) rfl ?_
  refine g_aload_n (pc := 8) C dX4_leastShield_8 (q := 1) rfl ?_
  obtain ⟨k4, h⟩ := h
  refine gfX4_9 (pc := 9) C k4 dX4_leastShield_9 ?_
  refine g_iconst (pc := 12) C dX4_leastShield_12 (v := 1) rfl ?_
  refine g_iload_n (pc := 13) C dX4_leastShield_13 (q := 2) rfl ?_
  refine h_ishl (pc := 14) C dX4_leastShield_14 ?_
  refine g_iconst (pc := 15) C dX4_leastShield_15 (v := (-1)) rfl ?_
  refine g_ixor (pc := 16) C dX4_leastShield_16 ?_
  refine g_iand (pc := 17) C dX4_leastShield_17 ?_
  refine g_istore (pc := 18) C dX4_leastShield_18 (Nat.le_of_ble_eq_true rfl) (lo' := [(5, .int ((wI w3 a0 1) &&& ((x_ishl 1 a1) ^^^ (-1)))), (4, .int r2), (0, .ref (adr x a0)), (1, .int a1), (2, .int a2), (3, .int a3)]) rfl ?_
  refine g_aload_n (pc := 20) C dX4_leastShield_20 (q := 2) rfl ?_
  refine g_iload (pc := 21) C dX4_leastShield_21 (q := 1) rfl ?_
  refine g_iload (pc := 23) C dX4_leastShield_23 (q := 0) rfl ?_
  refine miX4_60 (pc := 25) C k4 h (Nat.le_of_ble_eq_true rfl) (Nat.le_of_ble_eq_true rfl) ⟨Nat.le_refl _, Nat.le_refl _⟩ dX4_leastShield_25 (fun r5 w6 h => ?_)
  refine g_istore (pc := 28) C dX4_leastShield_28 (Nat.le_of_ble_eq_true rfl) (lo' := [(6, .int r5), (5, .int ((wI w3 a0 1) &&& ((x_ishl 1 a1) ^^^ (-1)))), (4, .int r2), (0, .ref (adr x a0)), (1, .int a1), (2, .int a2), (3, .int a3)]) rfl ?_
  refine g_iload (pc := 30) C dX4_leastShield_30 (q := 0) rfl ?_
  refine g_iload_n (pc := 32) C dX4_leastShield_32 (q := 6) rfl ?_
  refine miX4_38 (pc := 33) C h (Nat.le_of_ble_eq_true rfl) (Nat.le_of_ble_eq_true rfl) ⟨Nat.le_refl _, Nat.le_refl _⟩ dX4_leastShield_33 (fun r7 w8 h => ?_)
  refine g_if_ne (pc := 36) C dX4_leastShield_36 (tgt := 41) rfl (fun z9 => ?_) (fun z9 => ?_)
  · replace h := h.2 z9
    refine g_iload (pc := 41) C dX4_leastShield_41 (q := 0) rfl ?_
    refine g_iconst (pc := 43) C dX4_leastShield_43 (v := 1) rfl ?_
    refine g_iload_n (pc := 44) C dX4_leastShield_44 (q := 6) rfl ?_
    refine h_ishl (pc := 45) C dX4_leastShield_45 ?_
    refine g_iconst (pc := 46) C dX4_leastShield_46 (v := (-1)) rfl ?_
    refine g_ixor (pc := 47) C dX4_leastShield_47 ?_
    refine g_iand (pc := 48) C dX4_leastShield_48 ?_
    refine g_istore (pc := 49) C dX4_leastShield_49 (Nat.le_of_ble_eq_true rfl) (lo' := [(7, .int (r5 &&& ((x_ishl 1 a3) ^^^ (-1)))), (6, .int r5), (5, .int ((wI w3 a0 1) &&& ((x_ishl 1 a1) ^^^ (-1)))), (4, .int r2), (0, .ref (adr x a0)), (1, .int a1), (2, .int a2), (3, .int a3)]) rfl ?_
    refine g_iconst (pc := 51) C dX4_leastShield_51 (v := (-1)) rfl ?_
    refine g_istore (pc := 52) C dX4_leastShield_52 (Nat.le_of_ble_eq_true rfl) (lo' := [(8, .int (-1)), (7, .int (r5 &&& ((x_ishl 1 a3) ^^^ (-1)))), (6, .int r5), (5, .int ((wI w3 a0 1) &&& ((x_ishl 1 a1) ^^^ (-1)))), (4, .int r2), (0, .ref (adr x a0)), (1, .int a1), (2, .int a2), (3, .int a3)]) rfl ?_
    refine g_iconst (pc := 54) C dX4_leastShield_54 (v := 1) rfl ?_
    refine g_istore (pc := 55) C dX4_leastShield_55 (Nat.le_of_ble_eq_true rfl) (lo' := [(9, .int 1), (8, .int (-1)), (7, .int (r5 &&& ((x_ishl 1 a3) ^^^ (-1)))), (6, .int r5), (5, .int ((wI w3 a0 1) &&& ((x_ishl 1 a1) ^^^ (-1)))), (4, .int r2), (0, .ref (adr x a0)), (1, .int a1), (2, .int a2), (3, .int a3)]) rfl ?_
    obtain ⟨n24, h⟩ := h
    refine g_sub [6, 9, 5, 4, 2, 1, 0] rfl ?_
    refine t_X4_leastShield_57 C hlk hr n24 _ _ _ _ _ _ _ _ h
  · replace h := h.1 z9
    refine g_iconst (pc := 39) C dX4_leastShield_39 (v := 0) rfl ?_
    exact g_iret (pc := 40) C hlk hr (Nat.le_refl _) (Nat.le_refl _) dX4_leastShield_40 h
theorem miX4_32 (C : xC x p s m c cc nL args RX4) {a0 : Nat} {K : Int32 → Wd → Prop} {D MC MS : Nat} (hq : isK w a0 2) (h : w_X2_asleepBits a0 K w) (hD : 2 + 1 ≤ D) (hW : (st.map fun v => v.category).sum ≤ 8) (hij : i ≤ MC ∧ j ≤ MS) (hd : decode cc pc = .ok (.invokevirtual 32, 3)) (k : ∀ (r : Int32) (u : Wd), K r u → GW x p l e (rmd D MC MS) s m args below meth c nL Q (pc + 3) lo (.int r :: st) u i j) : GW x p l e (rmd D MC MS) s m args below meth c nL Q pc lo (.ref (adr x a0) :: st) w i j := g_callVi0 C (As := []) (ci := 2) (c_X2_asleepBits h) (x_cwV C 0 LMX4_32 ⟨rfl, by decide, by decide, rfl⟩ hD (by decide)) rfl hq (by decide) rfl rfl hW hd hij k
def w_X4_lookAt (a0 : Nat) (a1 : Nat) (K : Wd → Prop) (w : Wd) : Prop :=
  isK w a0 4 ∧ a1 ≠ 0 ∧ isK w a1 2 ∧ w_X2_asleepBits a1 (fun r4 w5 => isK w5 a0 4 ∧ K (uI w5 a0 1 r4)) (uR w a0 0 a1)
theorem c_X4_lookAt {x : xG} {l : Launch} {a0 : Nat} {a1 : Nat} {K : Wd → Prop} {w : Wd} (h : w_X4_lookAt a0 a1 K w) : Met l yX4_lookAt (xws yX4_lookAt cX4_lookAt 2 none) (rmd 3 0 0) (xPc x [.ref (adr x a0), .ref (adr x a1)] w) (QcV x K) 0 0 (xA x) := by
  refine xMet (by decide) (Nat.le_of_ble_eq_true rfl) (fun p e s m below meth c C hlk hr _ => ?_)
  show GW x p l e (rmd 3 0 0) s m [.ref (adr x a0), .ref (adr x a1)].toArray below meth c 2 (QV x K below [.ref (adr x a0), .ref (adr x a1)].toArray s 0 0) 0 [(0, .ref (adr x a0)), (1, .ref (adr x a1))] [] w 0 0
  refine g_aload_n (pc := 0) C dX4_lookAt_0 (q := 0) rfl ?_
  refine g_aload_n (pc := 1) C dX4_lookAt_1 (q := 1) rfl ?_
  obtain ⟨k1, h⟩ := h
  obtain ⟨k2, h⟩ := h
  refine pfX4_28 (pc := 2) C k1 k2 dX4_lookAt_2 ?_
  refine g_aload_n (pc := 5) C dX4_lookAt_5 (q := 0) rfl ?_
  refine g_aload_n (pc := 6) C dX4_lookAt_6 (q := 1) rfl ?_
  obtain ⟨k3, h⟩ := h
  refine miX4_32 (pc := 7) (w := uR w a0 0 a1) C k3 h (Nat.le_of_ble_eq_true rfl) (Nat.le_of_ble_eq_true rfl) ⟨Nat.le_refl _, Nat.le_refl _⟩ dX4_lookAt_7 (fun r4 w5 h => ?_)
  obtain ⟨k6, h⟩ := h
  refine pfX4_9 (pc := 10) C k6 dX4_lookAt_10 ?_
  exact g_vret (pc := 13) C hlk hr (Nat.le_refl _) (Nat.le_refl _) dX4_lookAt_13 h
def l_X4_over_15  (K : Wd → Prop) : Nat → Nat → Int32 → Wd → Prop
  | 0, _, _, _ => False
  | n + 1, a0, a2, w => isK w a0 4 ∧ isK w (wR w a0 2) 20 ∧ (((Int32.ofNat (wn w (wR w a0 2))) ≤ a2 → K w) ∧ (¬ (Int32.ofNat (wn w (wR w a0 2))) ≤ a2 → w_X11_has (wI w a0 1) a2 (fun r10 w11 => ((r10 = 0 → isK w11 (wR w a0 2) 20 ∧ vp_in a2 (wn w11 (wR w a0 2)) ∧ l_X4_over_15 K n a0 (a2 + 1) (uI w11 (wR w a0 2) a2.toNatClampNeg 0)) ∧ (¬ r10 = 0 → isK w11 a0 4 ∧ w_X4_wokenAtOnce a0 a2 0 (fun r16 w17 => isK w17 (wR w a0 2) 20 ∧ vp_in a2 (wn w17 (wR w a0 2)) ∧ l_X4_over_15 K n a0 (a2 + 1) (uI w17 (wR w a0 2) a2.toNatClampNeg r16)) w11))) w))
def w_X4_over (a0 : Nat) (a1 : Nat) (K : Wd → Prop) (w : Wd) : Prop :=
  isK w a0 4 ∧ a1 ≠ 0 ∧ isK w a1 2 ∧ w_X2_asleepBits a1 (fun r4 w5 => isK w5 a0 4 ∧ ∃ n20, l_X4_over_15  K n20 a0 0 (uI w5 a0 1 r4)) (uR w a0 0 a1)
theorem t_X4_over_15 (C : xC x p s m c cX4_over 3 args RX4) (hlk : meth.locks = false) (hr : meth.sig.returnType = none) {K : Wd → Prop}   : ∀ (n : Nat) (a0 : Nat) (a2 : Int32) (w : Wd), l_X4_over_15 K n a0 a2 w → GW x p l e (rmd 3 0 0) s m args below meth c 3 (QV x K below args s 0 0) 15 [(0, .ref (adr x a0)), (2, .int a2)] [] w 0 0 := by
  intro n
  induction n with
  | zero => intro _ _ _ h; exact False.elim h
  | succ n ih =>
    intro a0 a2 w h
    refine g_iload_n (pc := 15) C dX4_over_15 (q := 1) rfl ?_
    refine g_aload_n (pc := 16) C dX4_over_16 (q := 0) rfl ?_
    obtain ⟨k7, h⟩ := h
    obtain ⟨k8, h⟩ := h
    refine gfX4_15 (pc := 17) C k7 (isK_ne k8) dX4_over_17 ?_
    refine g_alen (pc := 20) C k8 (by decide) dX4_over_20 ?_
    refine g_icmp_ge (pc := 21) C dX4_over_21 (tgt := 57) rfl (fun z9 => ?_) (fun z9 => ?_)
    · replace h := h.1 z9
      exact g_vret (pc := 57) C hlk hr (Nat.le_refl _) (Nat.le_refl _) dX4_over_57 h
    · replace h := h.2 z9
      refine g_aload_n (pc := 24) C dX4_over_24 (q := 0) rfl ?_
      refine gfX4_15 (pc := 25) C k7 (isK_ne k8) dX4_over_25 ?_
      refine g_iload_n (pc := 28) C dX4_over_28 (q := 1) rfl ?_
      refine g_aload_n (pc := 29) C dX4_over_29 (q := 0) rfl ?_
      refine gfX4_9 (pc := 30) C k7 dX4_over_30 ?_
      refine g_iload_n (pc := 33) C dX4_over_33 (q := 1) rfl ?_
      refine miX4_38 (pc := 34) C h (Nat.le_of_ble_eq_true rfl) (Nat.le_of_ble_eq_true rfl) ⟨Nat.le_refl _, Nat.le_refl _⟩ dX4_over_34 (fun r10 w11 h => ?_)
      refine g_if_eq (pc := 37) C dX4_over_37 (tgt := 49) rfl (fun z12 => ?_) (fun z12 => ?_)
      · replace h := h.1 z12
        refine g_iconst (pc := 49) C dX4_over_49 (v := 0) rfl ?_
        obtain ⟨k13, h⟩ := h
        obtain ⟨k14, h⟩ := h
        refine g_iast (pc := 50) C k13 k14 dX4_over_50 ?_
        refine g_iinc (pc := 51) C dX4_over_51 (q := 1) rfl (v2 := a2 + 1) rfl (Nat.le_of_ble_eq_true rfl) (lo' := [(2, .int (a2 + 1)), (0, .ref (adr x a0))]) rfl ?_
        refine g_goto (pc := 54) C dX4_over_54 (tgt := 15) rfl ?_
        refine g_sub [1, 0] rfl ?_
        exact ih _ _ _ h
      · replace h := h.2 z12
        refine g_aload_n (pc := 40) C dX4_over_40 (q := 0) rfl ?_
        refine g_iload_n (pc := 41) C dX4_over_41 (q := 1) rfl ?_
        refine g_iconst (pc := 42) C dX4_over_42 (v := 0) rfl ?_
        obtain ⟨k15, h⟩ := h
        refine miX4_42 (pc := 43) C k15 h (Nat.le_of_ble_eq_true rfl) (Nat.le_of_ble_eq_true rfl) ⟨Nat.le_refl _, Nat.le_refl _⟩ dX4_over_43 (fun r16 w17 h => ?_)
        refine g_goto (pc := 46) C dX4_over_46 (tgt := 50) rfl ?_
        obtain ⟨k18, h⟩ := h
        obtain ⟨k19, h⟩ := h
        refine g_iast (pc := 50) C k18 k19 dX4_over_50 ?_
        refine g_iinc (pc := 51) C dX4_over_51 (q := 1) rfl (v2 := a2 + 1) rfl (Nat.le_of_ble_eq_true rfl) (lo' := [(2, .int (a2 + 1)), (0, .ref (adr x a0))]) rfl ?_
        refine g_goto (pc := 54) C dX4_over_54 (tgt := 15) rfl ?_
        refine g_sub [1, 0] rfl ?_
        exact ih _ _ _ h
theorem c_X4_over {x : xG} {l : Launch} {a0 : Nat} {a1 : Nat} {K : Wd → Prop} {w : Wd} (h : w_X4_over a0 a1 K w) : Met l yX4_over (xws yX4_over cX4_over 3 none) (rmd 3 0 0) (xPc x [.ref (adr x a0), .ref (adr x a1)] w) (QcV x K) 0 0 (xA x) := by
  refine xMet (by decide) (Nat.le_of_ble_eq_true rfl) (fun p e s m below meth c C hlk hr _ => ?_)
  show GW x p l e (rmd 3 0 0) s m [.ref (adr x a0), .ref (adr x a1)].toArray below meth c 3 (QV x K below [.ref (adr x a0), .ref (adr x a1)].toArray s 0 0) 0 [(0, .ref (adr x a0)), (1, .ref (adr x a1))] [] w 0 0
  refine g_aload_n (pc := 0) C dX4_over_0 (q := 0) rfl ?_
  refine g_aload_n (pc := 1) C dX4_over_1 (q := 1) rfl ?_
  obtain ⟨k1, h⟩ := h
  obtain ⟨k2, h⟩ := h
  refine pfX4_28 (pc := 2) C k1 k2 dX4_over_2 ?_
  refine g_aload_n (pc := 5) C dX4_over_5 (q := 0) rfl ?_
  refine g_aload_n (pc := 6) C dX4_over_6 (q := 1) rfl ?_
  obtain ⟨k3, h⟩ := h
  refine miX4_32 (pc := 7) (w := uR w a0 0 a1) C k3 h (Nat.le_of_ble_eq_true rfl) (Nat.le_of_ble_eq_true rfl) ⟨Nat.le_refl _, Nat.le_refl _⟩ dX4_over_7 (fun r4 w5 h => ?_)
  obtain ⟨k6, h⟩ := h
  refine pfX4_9 (pc := 10) C k6 dX4_over_10 ?_
  refine g_iconst (pc := 13) C dX4_over_13 (v := 0) rfl ?_
  refine g_istore_n (pc := 14) C dX4_over_14 (Nat.le_of_ble_eq_true rfl) (lo' := [(2, .int 0), (0, .ref (adr x a0)), (1, .ref (adr x a1))]) rfl ?_
  obtain ⟨n20, h⟩ := h
  refine g_sub [1, 0] rfl ?_
  refine t_X4_over_15 C hlk hr n20 _ _ _ h
def l_X4_yawnsTill_27  (K : Int32 → Wd → Prop) : Nat → Nat → Int32 → Int32 → Int32 → Int32 → Int32 → Wd → Prop
  | 0, _, _, _, _, _, _, _ => False
  | n + 1, a0, a3, a4, a5, a6, a7, w => ((10 < a7 → K 0 w) ∧ (¬ 10 < a7 → ((a5 = 0 → K 0 w) ∧ (¬ a5 = 0 → w_X11_has a5 a3 (fun r6 w7 => ((r6 = 0 → isK w7 a0 4 ∧ w_X4_wokenByYawns a0 a5 (fun r10 w11 => l_X4_yawnsTill_27 K n a0 a3 a4 ((r10 &&& a4) &&& (a6 ^^^ (-1))) (a6 ||| ((r10 &&& a4) &&& (a6 ^^^ (-1)))) (a7 + 1) w11) w7) ∧ (¬ r6 = 0 → K a7 w7))) w))))
def w_X4_yawnsTill (a0 : Nat) (a1 : Int32) (a2 : Int32) (a3 : Int32) (K : Int32 → Wd → Prop) (w : Wd) : Prop :=
  isK w a0 4 ∧ w_X4_wokenAtOnce a0 a1 a2 (fun r2 w3 => ∃ n12, l_X4_yawnsTill_27  K n12 a0 a3 ((wI w a0 1) &&& ((x_ishl 1 a1) ^^^ (-1))) r2 r2 1 w3) w
theorem t_X4_yawnsTill_27 (C : xC x p s m c cX4_yawnsTill 8 args RX4) (hlk : meth.locks = false) (hr : meth.sig.returnType = some .int) {K : Int32 → Wd → Prop}   : ∀ (n : Nat) (a0 : Nat) (a3 : Int32) (a4 : Int32) (a5 : Int32) (a6 : Int32) (a7 : Int32) (w : Wd), l_X4_yawnsTill_27 K n a0 a3 a4 a5 a6 a7 w → GW x p l e (rmd 3 0 0) s m args below meth c 8 (QI x K below args s 0 0) 27 [(0, .ref (adr x a0)), (3, .int a3), (4, .int a4), (5, .int a5), (6, .int a6), (7, .int a7)] [] w 0 0 := by
  intro n
  induction n with
  | zero => intro _ _ _ _ _ _ _ h; exact False.elim h
  | succ n ih =>
    intro a0 a3 a4 a5 a6 a7 w h
    refine g_iload (pc := 27) C dX4_yawnsTill_27 (q := 5) rfl ?_
    refine g_bipush (pc := 29) C dX4_yawnsTill_29 (v := 10) rfl ?_
    refine g_icmp_gt (pc := 31) C dX4_yawnsTill_31 (tgt := 80) rfl (fun z4 => ?_) (fun z4 => ?_)
    · replace h := h.1 z4
      refine g_iconst (pc := 80) C dX4_yawnsTill_80 (v := 0) rfl ?_
      exact g_iret (pc := 81) C hlk hr (Nat.le_refl _) (Nat.le_refl _) dX4_yawnsTill_81 h
    · replace h := h.2 z4
      refine g_iload (pc := 34) C dX4_yawnsTill_34 (q := 3) rfl ?_
      refine g_if_eq (pc := 36) C dX4_yawnsTill_36 (tgt := 80) rfl (fun z5 => ?_) (fun z5 => ?_)
      · replace h := h.1 z5
        refine g_iconst (pc := 80) C dX4_yawnsTill_80 (v := 0) rfl ?_
        exact g_iret (pc := 81) C hlk hr (Nat.le_refl _) (Nat.le_refl _) dX4_yawnsTill_81 h
      · replace h := h.2 z5
        refine g_iload (pc := 39) C dX4_yawnsTill_39 (q := 3) rfl ?_
        refine g_iload_n (pc := 41) C dX4_yawnsTill_41 (q := 1) rfl ?_
        refine miX4_38 (pc := 42) C h (Nat.le_of_ble_eq_true rfl) (Nat.le_of_ble_eq_true rfl) ⟨Nat.le_refl _, Nat.le_refl _⟩ dX4_yawnsTill_42 (fun r6 w7 h => ?_)
        refine g_if_eq (pc := 45) C dX4_yawnsTill_45 (tgt := 51) rfl (fun z8 => ?_) (fun z8 => ?_)
        · replace h := h.1 z8
          refine g_aload_n (pc := 51) C dX4_yawnsTill_51 (q := 0) rfl ?_
          refine g_iload (pc := 52) C dX4_yawnsTill_52 (q := 3) rfl ?_
          obtain ⟨k9, h⟩ := h
          refine miX4_63 (pc := 54) C k9 h (Nat.le_of_ble_eq_true rfl) (Nat.le_of_ble_eq_true rfl) ⟨Nat.le_refl _, Nat.le_refl _⟩ dX4_yawnsTill_54 (fun r10 w11 h => ?_)
          refine g_iload (pc := 57) C dX4_yawnsTill_57 (q := 2) rfl ?_
          refine g_iand (pc := 59) C dX4_yawnsTill_59 ?_
          refine g_iload (pc := 60) C dX4_yawnsTill_60 (q := 4) rfl ?_
          refine g_iconst (pc := 62) C dX4_yawnsTill_62 (v := (-1)) rfl ?_
          refine g_ixor (pc := 63) C dX4_yawnsTill_63 ?_
          refine g_iand (pc := 64) C dX4_yawnsTill_64 ?_
          refine g_istore (pc := 65) C dX4_yawnsTill_65 (Nat.le_of_ble_eq_true rfl) (lo' := [(5, .int ((r10 &&& a4) &&& (a6 ^^^ (-1)))), (0, .ref (adr x a0)), (3, .int a3), (4, .int a4), (6, .int a6), (7, .int a7)]) rfl ?_
          refine g_iload (pc := 67) C dX4_yawnsTill_67 (q := 4) rfl ?_
          refine g_iload (pc := 69) C dX4_yawnsTill_69 (q := 0) rfl ?_
          refine g_ior (pc := 71) C dX4_yawnsTill_71 ?_
          refine g_istore (pc := 72) C dX4_yawnsTill_72 (Nat.le_of_ble_eq_true rfl) (lo' := [(6, .int (a6 ||| ((r10 &&& a4) &&& (a6 ^^^ (-1))))), (5, .int ((r10 &&& a4) &&& (a6 ^^^ (-1)))), (0, .ref (adr x a0)), (3, .int a3), (4, .int a4), (7, .int a7)]) rfl ?_
          refine g_iinc (pc := 74) C dX4_yawnsTill_74 (q := 5) rfl (v2 := a7 + 1) rfl (Nat.le_of_ble_eq_true rfl) (lo' := [(7, .int (a7 + 1)), (6, .int (a6 ||| ((r10 &&& a4) &&& (a6 ^^^ (-1))))), (5, .int ((r10 &&& a4) &&& (a6 ^^^ (-1)))), (0, .ref (adr x a0)), (3, .int a3), (4, .int a4)]) rfl ?_
          refine g_goto (pc := 77) C dX4_yawnsTill_77 (tgt := 27) rfl ?_
          refine g_sub [3, 4, 5, 2, 1, 0] rfl ?_
          exact ih _ _ _ _ _ _ _ h
        · replace h := h.2 z8
          refine g_iload (pc := 48) C dX4_yawnsTill_48 (q := 5) rfl ?_
          exact g_iret (pc := 50) C hlk hr (Nat.le_refl _) (Nat.le_refl _) dX4_yawnsTill_50 h
theorem c_X4_yawnsTill {x : xG} {l : Launch} {a0 : Nat} {a1 : Int32} {a2 : Int32} {a3 : Int32} {K : Int32 → Wd → Prop} {w : Wd} (h : w_X4_yawnsTill a0 a1 a2 a3 K w) : Met l yX4_yawnsTill (xws yX4_yawnsTill cX4_yawnsTill 8 (some .int)) (rmd 3 0 0) (xPc x [.ref (adr x a0), .int a1, .int a2, .int a3] w) (QcI x K) 0 0 (xA x) := by
  refine xMet (by decide) (Nat.le_of_ble_eq_true rfl) (fun p e s m below meth c C hlk hr _ => ?_)
  show GW x p l e (rmd 3 0 0) s m [.ref (adr x a0), .int a1, .int a2, .int a3].toArray below meth c 8 (QI x K below [.ref (adr x a0), .int a1, .int a2, .int a3].toArray s 0 0) 0 [(0, .ref (adr x a0)), (1, .int a1), (2, .int a2), (3, .int a3)] [] w 0 0
  refine g_aload_n (pc := 0) C dX4_yawnsTill_0 (q := 0) rfl ?_
  obtain ⟨k1, h⟩ := h
  refine gfX4_9 (pc := 1) C k1 dX4_yawnsTill_1 ?_
  refine g_iconst (pc := 4) C dX4_yawnsTill_4 (v := 1) rfl ?_
  refine g_iload_n (pc := 5) C dX4_yawnsTill_5 (q := 1) rfl ?_
  refine h_ishl (pc := 6) C dX4_yawnsTill_6 ?_
  refine g_iconst (pc := 7) C dX4_yawnsTill_7 (v := (-1)) rfl ?_
  refine g_ixor (pc := 8) C dX4_yawnsTill_8 ?_
  refine g_iand (pc := 9) C dX4_yawnsTill_9 ?_
  refine g_istore (pc := 10) C dX4_yawnsTill_10 (Nat.le_of_ble_eq_true rfl) (lo' := [(4, .int ((wI w a0 1) &&& ((x_ishl 1 a1) ^^^ (-1)))), (0, .ref (adr x a0)), (1, .int a1), (2, .int a2), (3, .int a3)]) rfl ?_
  refine g_aload_n (pc := 12) C dX4_yawnsTill_12 (q := 1) rfl ?_
  refine g_iload_n (pc := 13) C dX4_yawnsTill_13 (q := 2) rfl ?_
  refine g_iload_n (pc := 14) C dX4_yawnsTill_14 (q := 3) rfl ?_
  refine miX4_42 (pc := 15) C k1 h (Nat.le_of_ble_eq_true rfl) (Nat.le_of_ble_eq_true rfl) ⟨Nat.le_refl _, Nat.le_refl _⟩ dX4_yawnsTill_15 (fun r2 w3 h => ?_)
  refine g_istore (pc := 18) C dX4_yawnsTill_18 (Nat.le_of_ble_eq_true rfl) (lo' := [(5, .int r2), (4, .int ((wI w a0 1) &&& ((x_ishl 1 a1) ^^^ (-1)))), (0, .ref (adr x a0)), (1, .int a1), (2, .int a2), (3, .int a3)]) rfl ?_
  refine g_iload (pc := 20) C dX4_yawnsTill_20 (q := 0) rfl ?_
  refine g_istore (pc := 22) C dX4_yawnsTill_22 (Nat.le_of_ble_eq_true rfl) (lo' := [(6, .int r2), (5, .int r2), (4, .int ((wI w a0 1) &&& ((x_ishl 1 a1) ^^^ (-1)))), (0, .ref (adr x a0)), (1, .int a1), (2, .int a2), (3, .int a3)]) rfl ?_
  refine g_iconst (pc := 24) C dX4_yawnsTill_24 (v := 1) rfl ?_
  refine g_istore (pc := 25) C dX4_yawnsTill_25 (Nat.le_of_ble_eq_true rfl) (lo' := [(7, .int 1), (6, .int r2), (5, .int r2), (4, .int ((wI w a0 1) &&& ((x_ishl 1 a1) ^^^ (-1)))), (0, .ref (adr x a0)), (1, .int a1), (2, .int a2), (3, .int a3)]) rfl ?_
  obtain ⟨n12, h⟩ := h
  refine g_sub [4, 7, 3, 2, 1, 0] rfl ?_
  refine t_X4_yawnsTill_27 C hlk hr n12 _ _ _ _ _ _ _ h
theorem miX0_92 (C : xC x p s m c cc nL args RX0) {a0 : Int32} {K : Int32 → Wd → Prop} {D MC MS : Nat} (h : w_J6_bitCount_0f7a4 a0 K w) (hD : 0 + 1 ≤ D) (hW : (st.map fun v => v.category).sum ≤ 8) (hij : i ≤ MC ∧ j ≤ MS) (hd : decode cc pc = .ok (.invokestatic 92, 3)) (k : ∀ (r : Int32) (u : Wd), K r u → GW x p l e (rmd D MC MS) s m args below meth c nL Q (pc + 3) lo (.int r :: st) u i j) : GW x p l e (rmd D MC MS) s m args below meth c nL Q pc lo (.int a0 :: st) w i j := g_callSi0 C (As := [.int a0]) (c_J6_bitCount_0f7a4 h) (x_cwS C 1 LMX0_92 ⟨by decide, by decide, rfl⟩ hD (by decide)) rfl rfl hW hd hij k
theorem miX0_97 (C : xC x p s m c cc nL args RX0) {a0 : Nat} {a1 : Int32} {K : Wd → Prop} {D MC MS : Nat} (hq : isK w a0 2) (h : w_X2_wakeUp a0 a1 K w) (hD : 2 + 1 ≤ D) (hW : (st.map fun v => v.category).sum ≤ 8) (hij : i ≤ MC ∧ j ≤ MS) (hd : decode cc pc = .ok (.invokevirtual 97, 3)) (k : ∀ (u : Wd), K u → GW x p l e (rmd D MC MS) s m args below meth c nL Q (pc + 3) lo st u i j) : GW x p l e (rmd D MC MS) s m args below meth c nL Q pc lo (.int a1 :: .ref (adr x a0) :: st) w i j := g_callVv0 C (As := [.int a1]) (ci := 2) (c_X2_wakeUp h) (x_cwV C 1 LMX0_97 ⟨rfl, by decide, by decide, rfl⟩ hD (by decide)) rfl hq (by decide) rfl rfl hW hd hij k
theorem miX0_104 (C : xC x p s m c cc nL args RX0) {a0 : Int32} {a1 : Int32} {K : Int32 → Wd → Prop} {D MC MS : Nat} (h : w_X11_has a0 a1 K w) (hD : 0 + 1 ≤ D) (hW : (st.map fun v => v.category).sum ≤ 8) (hij : i ≤ MC ∧ j ≤ MS) (hd : decode cc pc = .ok (.invokestatic 104, 3)) (k : ∀ (r : Int32) (u : Wd), K r u → GW x p l e (rmd D MC MS) s m args below meth c nL Q (pc + 3) lo (.int r :: st) u i j) : GW x p l e (rmd D MC MS) s m args below meth c nL Q pc lo (.int a1 :: .int a0 :: st) w i j := g_callNi0 C (As := [.int a0, .int a1]) (c_X11_has h) (x_cwN C 2 LKX11_has LNX0_104 LSX11_has LIX11 ⟨by decide, by decide, rfl⟩ hD (by decide)) rfl rfl hW hd hij k
def l_X0_rouse_2 (E27 : Nat → Int32 → Wd → Prop) (K : Wd → Prop) : Nat → Nat → Int32 → Int32 → Wd → Prop
  | 0, _, _, _, _ => False
  | n + 1, a0, a1, a2, w => ((10 ≤ a2 → E27 a0 a1 w) ∧ (¬ 10 ≤ a2 → w_X11_has a1 a2 (fun r2 w3 => ((r2 = 0 → l_X0_rouse_2 E27 K n a0 a1 (a2 + 1) w3) ∧ (¬ r2 = 0 → isK w3 a0 2 ∧ w_X2_wakeUp a0 a2 (fun w6 => l_X0_rouse_2 E27 K n a0 a1 (a2 + 1) w6) w3))) w))
def w_X0_rouse (a0 : Nat) (a1 : Int32) (K : Wd → Prop) (w : Wd) : Prop :=
  ∃ n14, l_X0_rouse_2 (fun b7 b8 w9 => w_J6_bitCount_0f7a4 b8 (fun r10 w11 => ((r10 < 2 → K w11) ∧ (¬ r10 < 2 → isK w11 b7 2 ∧ K (uI w11 b7 2 ((wI w11 b7 2) ||| b8))))) w9) K n14 a0 a1 0 w
theorem t_X0_rouse_2 (C : xC x p s m c cX0_rouse 3 args RX0) (hlk : meth.locks = false) (hr : meth.sig.returnType = none) {K : Wd → Prop} {E27 : Nat → Int32 → Wd → Prop} (hE27 : ∀ (b0 : Nat) (b1 : Int32) (w : Wd), E27 b0 b1 w → GW x p l e (rmd 3 0 0) s m args below meth c 3 (QV x K below args s 0 0) 27 [(0, .ref (adr x b0)), (1, .int b1)] [] w 0 0) : ∀ (n : Nat) (a0 : Nat) (a1 : Int32) (a2 : Int32) (w : Wd), l_X0_rouse_2 E27 K n a0 a1 a2 w → GW x p l e (rmd 3 0 0) s m args below meth c 3 (QV x K below args s 0 0) 2 [(0, .ref (adr x a0)), (1, .int a1), (2, .int a2)] [] w 0 0 := by
  intro n
  induction n with
  | zero => intro _ _ _ _ h; exact False.elim h
  | succ n ih =>
    intro a0 a1 a2 w h
    refine g_iload_n (pc := 2) C dX0_rouse_2 (q := 2) rfl ?_
    refine g_bipush (pc := 3) C dX0_rouse_3 (v := 10) rfl ?_
    refine g_icmp_ge (pc := 5) C dX0_rouse_5 (tgt := 27) rfl (fun z1 => ?_) (fun z1 => ?_)
    · replace h := h.1 z1
      refine g_sub [0, 1] rfl ?_
      exact hE27 _ _ _ h
    · replace h := h.2 z1
      refine g_iload_n (pc := 8) C dX0_rouse_8 (q := 1) rfl ?_
      refine g_iload_n (pc := 9) C dX0_rouse_9 (q := 2) rfl ?_
      refine miX0_104 (pc := 10) C h (Nat.le_of_ble_eq_true rfl) (Nat.le_of_ble_eq_true rfl) ⟨Nat.le_refl _, Nat.le_refl _⟩ dX0_rouse_10 (fun r2 w3 h => ?_)
      refine g_if_eq (pc := 13) C dX0_rouse_13 (tgt := 21) rfl (fun z4 => ?_) (fun z4 => ?_)
      · replace h := h.1 z4
        refine g_iinc (pc := 21) C dX0_rouse_21 (q := 2) rfl (v2 := a2 + 1) rfl (Nat.le_of_ble_eq_true rfl) (lo' := [(2, .int (a2 + 1)), (0, .ref (adr x a0)), (1, .int a1)]) rfl ?_
        refine g_goto (pc := 24) C dX0_rouse_24 (tgt := 2) rfl ?_
        refine g_sub [1, 2, 0] rfl ?_
        exact ih _ _ _ _ h
      · replace h := h.2 z4
        refine g_aload_n (pc := 16) C dX0_rouse_16 (q := 0) rfl ?_
        refine g_iload_n (pc := 17) C dX0_rouse_17 (q := 2) rfl ?_
        obtain ⟨k5, h⟩ := h
        refine miX0_97 (pc := 18) C k5 h (Nat.le_of_ble_eq_true rfl) (Nat.le_of_ble_eq_true rfl) ⟨Nat.le_refl _, Nat.le_refl _⟩ dX0_rouse_18 (fun w6 h => ?_)
        refine g_iinc (pc := 21) C dX0_rouse_21 (q := 2) rfl (v2 := a2 + 1) rfl (Nat.le_of_ble_eq_true rfl) (lo' := [(2, .int (a2 + 1)), (0, .ref (adr x a0)), (1, .int a1)]) rfl ?_
        refine g_goto (pc := 24) C dX0_rouse_24 (tgt := 2) rfl ?_
        refine g_sub [1, 2, 0] rfl ?_
        exact ih _ _ _ _ h
theorem c_X0_rouse {x : xG} {l : Launch} {a0 : Nat} {a1 : Int32} {K : Wd → Prop} {w : Wd} (h : w_X0_rouse a0 a1 K w) : Met l yX0_rouse (xws yX0_rouse cX0_rouse 3 none) (rmd 3 0 0) (xPc x [.ref (adr x a0), .int a1] w) (QcV x K) 0 0 (xA x) := by
  refine xMet (by decide) (Nat.le_of_ble_eq_true rfl) (fun p e s m below meth c C hlk hr _ => ?_)
  show GW x p l e (rmd 3 0 0) s m [.ref (adr x a0), .int a1].toArray below meth c 3 (QV x K below [.ref (adr x a0), .int a1].toArray s 0 0) 0 [(0, .ref (adr x a0)), (1, .int a1)] [] w 0 0
  refine g_iconst (pc := 0) C dX0_rouse_0 (v := 0) rfl ?_
  refine g_istore_n (pc := 1) C dX0_rouse_1 (Nat.le_of_ble_eq_true rfl) (lo' := [(2, .int 0), (0, .ref (adr x a0)), (1, .int a1)]) rfl ?_
  obtain ⟨n14, h⟩ := h
  refine g_sub [1, 2, 0] rfl ?_
  refine t_X0_rouse_2 C hlk hr ?_ n14 _ _ _ _ h
  · intro b7 b8 w9 h
    refine g_iload_n (pc := 27) C dX0_rouse_27 (q := 1) rfl ?_
    refine miX0_92 (pc := 28) C h (Nat.le_of_ble_eq_true rfl) (Nat.le_of_ble_eq_true rfl) ⟨Nat.le_refl _, Nat.le_refl _⟩ dX0_rouse_28 (fun r10 w11 h => ?_)
    refine g_iconst (pc := 31) C dX0_rouse_31 (v := 2) rfl ?_
    refine g_icmp_lt (pc := 32) C dX0_rouse_32 (tgt := 45) rfl (fun z12 => ?_) (fun z12 => ?_)
    · replace h := h.1 z12
      exact g_vret (pc := 45) C hlk hr (Nat.le_refl _) (Nat.le_refl _) dX0_rouse_45 h
    · replace h := h.2 z12
      refine g_aload_n (pc := 35) C dX0_rouse_35 (q := 0) rfl ?_
      refine g_dup (pc := 36) C dX0_rouse_36 rfl ?_
      obtain ⟨k13, h⟩ := h
      refine gfX0_108 (pc := 37) C k13 dX0_rouse_37 ?_
      refine g_iload_n (pc := 40) C dX0_rouse_40 (q := 1) rfl ?_
      refine g_ior (pc := 41) C dX0_rouse_41 ?_
      refine pfX0_108 (pc := 42) C k13 dX0_rouse_42 ?_
      exact g_vret (pc := 45) C hlk hr (Nat.le_refl _) (Nat.le_refl _) dX0_rouse_45 h
theorem miX0_74 (C : xC x p s m c cc nL args RX0) {a0 : Nat} {a1 : Nat} {K : Wd → Prop} {D MC MS : Nat} (hq : isK w a0 4) (h : w_X4_over a0 a1 K w) (hD : 3 + 1 ≤ D) (hW : (st.map fun v => v.category).sum ≤ 8) (hij : i ≤ MC ∧ j ≤ MS) (hd : decode cc pc = .ok (.invokevirtual 74, 3)) (k : ∀ (u : Wd), K u → GW x p l e (rmd D MC MS) s m args below meth c nL Q (pc + 3) lo st u i j) : GW x p l e (rmd D MC MS) s m args below meth c nL Q pc lo (.ref (adr x a1) :: .ref (adr x a0) :: st) w i j := g_callVv0 C (As := [.ref (adr x a1)]) (ci := 4) (c_X4_over h) (x_cwV C 1 LMX0_74 ⟨rfl, by decide, by decide, rfl⟩ hD (by decide)) rfl hq (by decide) rfl rfl hW hd hij k
theorem miX0_80 (C : xC x p s m c cc nL args RX0) {a0 : Nat} {a1 : Int32} {a2 : Int32} {K : Int32 → Wd → Prop} {D MC MS : Nat} (hq : isK w a0 4) (h : w_X4_wokenBy a0 a1 a2 K w) (hD : 3 + 1 ≤ D) (hW : (st.map fun v => v.category).sum ≤ 8) (hij : i ≤ MC ∧ j ≤ MS) (hd : decode cc pc = .ok (.invokevirtual 80, 3)) (k : ∀ (r : Int32) (u : Wd), K r u → GW x p l e (rmd D MC MS) s m args below meth c nL Q (pc + 3) lo (.int r :: st) u i j) : GW x p l e (rmd D MC MS) s m args below meth c nL Q pc lo (.int a2 :: .int a1 :: .ref (adr x a0) :: st) w i j := g_callVi0 C (As := [.int a1, .int a2]) (ci := 4) (c_X4_wokenBy h) (x_cwV C 2 LMX0_80 ⟨rfl, by decide, by decide, rfl⟩ hD (by decide)) rfl hq (by decide) rfl rfl hW hd hij k
theorem miX0_84 (C : xC x p s m c cc nL args RX0) {a0 : Nat} {a1 : Int32} {K : Wd → Prop} {D MC MS : Nat} (h : w_X0_rouse a0 a1 K w) (hD : 3 + 1 ≤ D) (hW : (st.map fun v => v.category).sum ≤ 8) (hij : i ≤ MC ∧ j ≤ MS) (hd : decode cc pc = .ok (.invokestatic 84, 3)) (k : ∀ (u : Wd), K u → GW x p l e (rmd D MC MS) s m args below meth c nL Q (pc + 3) lo st u i j) : GW x p l e (rmd D MC MS) s m args below meth c nL Q pc lo (.int a1 :: .ref (adr x a0) :: st) w i j := g_callSv0 C (As := [.ref (adr x a0), .int a1]) (c_X0_rouse h) (x_cwS C 2 LMX0_84 ⟨by decide, by decide, rfl⟩ hD (by decide)) rfl rfl hW hd hij k
def w_X0_coinInto (a0 : Nat) (a1 : Nat) (a2 : Int32) (K : Int32 → Wd → Prop) (w : Wd) : Prop :=
  isK w a0 0 ∧ isK w (wR w a0 0) 4 ∧ w_X4_over (wR w a0 0) a1 (fun w3 => isK w3 a0 0 ∧ isK w3 (wR w3 a0 0) 4 ∧ w_X4_wokenBy (wR w3 a0 0) a2 0 (fun r6 w7 => isK w7 a1 2 ∧ w_X2_wakeUp a1 a2 (fun w9 => w_X0_rouse a1 r6 (fun w10 => w_J6_bitCount_0f7a4 r6 (fun r11 w12 => K r11 w12) w10) w9) w7) w3) w
theorem c_X0_coinInto {x : xG} {l : Launch} {a0 : Nat} {a1 : Nat} {a2 : Int32} {K : Int32 → Wd → Prop} {w : Wd} (h : w_X0_coinInto a0 a1 a2 K w) : Met l yX0_coinInto (xws yX0_coinInto cX0_coinInto 4 (some .int)) (rmd 4 0 0) (xPc x [.ref (adr x a0), .ref (adr x a1), .int a2] w) (QcI x K) 0 0 (xA x) := by
  refine xMet (by decide) (Nat.le_of_ble_eq_true rfl) (fun p e s m below meth c C hlk hr _ => ?_)
  show GW x p l e (rmd 4 0 0) s m [.ref (adr x a0), .ref (adr x a1), .int a2].toArray below meth c 4 (QI x K below [.ref (adr x a0), .ref (adr x a1), .int a2].toArray s 0 0) 0 [(0, .ref (adr x a0)), (1, .ref (adr x a1)), (2, .int a2)] [] w 0 0
  refine g_aload_n (pc := 0) C dX0_coinInto_0 (q := 0) rfl ?_
  obtain ⟨k1, h⟩ := h
  obtain ⟨k2, h⟩ := h
  refine gfX0_9 (pc := 1) C k1 (isK_ne k2) dX0_coinInto_1 ?_
  refine g_aload_n (pc := 4) C dX0_coinInto_4 (q := 1) rfl ?_
  refine miX0_74 (pc := 5) C k2 h (Nat.le_of_ble_eq_true rfl) (Nat.le_of_ble_eq_true rfl) ⟨Nat.le_refl _, Nat.le_refl _⟩ dX0_coinInto_5 (fun w3 h => ?_)
  refine g_aload_n (pc := 8) C dX0_coinInto_8 (q := 0) rfl ?_
  obtain ⟨k4, h⟩ := h
  obtain ⟨k5, h⟩ := h
  refine gfX0_9 (pc := 9) C k4 (isK_ne k5) dX0_coinInto_9 ?_
  refine g_iload_n (pc := 12) C dX0_coinInto_12 (q := 2) rfl ?_
  refine g_iconst (pc := 13) C dX0_coinInto_13 (v := 0) rfl ?_
  refine miX0_80 (pc := 14) C k5 h (Nat.le_of_ble_eq_true rfl) (Nat.le_of_ble_eq_true rfl) ⟨Nat.le_refl _, Nat.le_refl _⟩ dX0_coinInto_14 (fun r6 w7 h => ?_)
  refine g_istore_n (pc := 17) C dX0_coinInto_17 (Nat.le_of_ble_eq_true rfl) (lo' := [(3, .int r6), (0, .ref (adr x a0)), (1, .ref (adr x a1)), (2, .int a2)]) rfl ?_
  refine g_aload_n (pc := 18) C dX0_coinInto_18 (q := 2) rfl ?_
  refine g_iload_n (pc := 19) C dX0_coinInto_19 (q := 3) rfl ?_
  obtain ⟨k8, h⟩ := h
  refine miX0_97 (pc := 20) C k8 h (Nat.le_of_ble_eq_true rfl) (Nat.le_of_ble_eq_true rfl) ⟨Nat.le_refl _, Nat.le_refl _⟩ dX0_coinInto_20 (fun w9 h => ?_)
  refine g_aload_n (pc := 23) C dX0_coinInto_23 (q := 2) rfl ?_
  refine g_iload_n (pc := 24) C dX0_coinInto_24 (q := 0) rfl ?_
  refine miX0_84 (pc := 25) C h (Nat.le_of_ble_eq_true rfl) (Nat.le_of_ble_eq_true rfl) ⟨Nat.le_refl _, Nat.le_refl _⟩ dX0_coinInto_25 (fun w10 h => ?_)
  refine g_iload_n (pc := 28) C dX0_coinInto_28 (q := 0) rfl ?_
  refine miX0_92 (pc := 29) C h (Nat.le_of_ble_eq_true rfl) (Nat.le_of_ble_eq_true rfl) ⟨Nat.le_refl _, Nat.le_refl _⟩ dX0_coinInto_29 (fun r11 w12 h => ?_)
  exact g_iret (pc := 32) C hlk hr (Nat.le_refl _) (Nat.le_refl _) dX0_coinInto_32 h
theorem miX0_88 (C : xC x p s m c cc nL args RX0) {a0 : Nat} {a1 : Int32} {a2 : Int32} {K : Wd → Prop} {D MC MS : Nat} (hq : isK w a0 2) (h : w_X2_pourOut a0 a1 a2 K w) (hD : 0 + 1 ≤ D) (hW : (st.map fun v => v.category).sum ≤ 8) (hij : i ≤ MC ∧ j ≤ MS) (hd : decode cc pc = .ok (.invokevirtual 88, 3)) (k : ∀ (u : Wd), K u → GW x p l e (rmd D MC MS) s m args below meth c nL Q (pc + 3) lo st u i j) : GW x p l e (rmd D MC MS) s m args below meth c nL Q pc lo (.int a2 :: .int a1 :: .ref (adr x a0) :: st) w i j := g_callVv0 C (As := [.int a1, .int a2]) (ci := 2) (c_X2_pourOut h) (x_cwV C 2 LMX0_88 ⟨rfl, by decide, by decide, rfl⟩ hD (by decide)) rfl hq (by decide) rfl rfl hW hd hij k
def w_X0_drawFrom (a0 : Nat) (a1 : Nat) (a2 : Int32) (a3 : Int32) (K : Int32 → Wd → Prop) (w : Wd) : Prop :=
  isK w a0 0 ∧ isK w (wR w a0 0) 4 ∧ w_X4_over (wR w a0 0) a1 (fun w3 => isK w3 a0 0 ∧ isK w3 (wR w3 a0 0) 4 ∧ w_X4_wokenBy (wR w3 a0 0) a2 a3 (fun r6 w7 => w_X0_rouse a1 r6 (fun w8 => isK w8 a1 2 ∧ w_X2_pourOut a1 a2 a3 (fun w10 => w_J6_bitCount_0f7a4 r6 (fun r11 w12 => K r11 w12) w10) w8) w7) w3) w
theorem c_X0_drawFrom {x : xG} {l : Launch} {a0 : Nat} {a1 : Nat} {a2 : Int32} {a3 : Int32} {K : Int32 → Wd → Prop} {w : Wd} (h : w_X0_drawFrom a0 a1 a2 a3 K w) : Met l yX0_drawFrom (xws yX0_drawFrom cX0_drawFrom 5 (some .int)) (rmd 4 0 0) (xPc x [.ref (adr x a0), .ref (adr x a1), .int a2, .int a3] w) (QcI x K) 0 0 (xA x) := by
  refine xMet (by decide) (Nat.le_of_ble_eq_true rfl) (fun p e s m below meth c C hlk hr _ => ?_)
  show GW x p l e (rmd 4 0 0) s m [.ref (adr x a0), .ref (adr x a1), .int a2, .int a3].toArray below meth c 5 (QI x K below [.ref (adr x a0), .ref (adr x a1), .int a2, .int a3].toArray s 0 0) 0 [(0, .ref (adr x a0)), (1, .ref (adr x a1)), (2, .int a2), (3, .int a3)] [] w 0 0
  refine g_aload_n (pc := 0) C dX0_drawFrom_0 (q := 0) rfl ?_
  obtain ⟨k1, h⟩ := h
  obtain ⟨k2, h⟩ := h
  refine gfX0_9 (pc := 1) C k1 (isK_ne k2) dX0_drawFrom_1 ?_
  refine g_aload_n (pc := 4) C dX0_drawFrom_4 (q := 1) rfl ?_
  refine miX0_74 (pc := 5) C k2 h (Nat.le_of_ble_eq_true rfl) (Nat.le_of_ble_eq_true rfl) ⟨Nat.le_refl _, Nat.le_refl _⟩ dX0_drawFrom_5 (fun w3 h => ?_)
  refine g_aload_n (pc := 8) C dX0_drawFrom_8 (q := 0) rfl ?_
  obtain ⟨k4, h⟩ := h
  obtain ⟨k5, h⟩ := h
  refine gfX0_9 (pc := 9) C k4 (isK_ne k5) dX0_drawFrom_9 ?_
  refine g_iload_n (pc := 12) C dX0_drawFrom_12 (q := 2) rfl ?_
  refine g_iload_n (pc := 13) C dX0_drawFrom_13 (q := 3) rfl ?_
  refine miX0_80 (pc := 14) C k5 h (Nat.le_of_ble_eq_true rfl) (Nat.le_of_ble_eq_true rfl) ⟨Nat.le_refl _, Nat.le_refl _⟩ dX0_drawFrom_14 (fun r6 w7 h => ?_)
  refine g_istore (pc := 17) C dX0_drawFrom_17 (Nat.le_of_ble_eq_true rfl) (lo' := [(4, .int r6), (0, .ref (adr x a0)), (1, .ref (adr x a1)), (2, .int a2), (3, .int a3)]) rfl ?_
  refine g_aload_n (pc := 19) C dX0_drawFrom_19 (q := 2) rfl ?_
  refine g_iload (pc := 20) C dX0_drawFrom_20 (q := 0) rfl ?_
  refine miX0_84 (pc := 22) C h (Nat.le_of_ble_eq_true rfl) (Nat.le_of_ble_eq_true rfl) ⟨Nat.le_refl _, Nat.le_refl _⟩ dX0_drawFrom_22 (fun w8 h => ?_)
  refine g_aload_n (pc := 25) C dX0_drawFrom_25 (q := 2) rfl ?_
  refine g_iload_n (pc := 26) C dX0_drawFrom_26 (q := 3) rfl ?_
  refine g_iload_n (pc := 27) C dX0_drawFrom_27 (q := 4) rfl ?_
  obtain ⟨k9, h⟩ := h
  refine miX0_88 (pc := 28) C k9 h (Nat.le_of_ble_eq_true rfl) (Nat.le_of_ble_eq_true rfl) ⟨Nat.le_refl _, Nat.le_refl _⟩ dX0_drawFrom_28 (fun w10 h => ?_)
  refine g_iload (pc := 31) C dX0_drawFrom_31 (q := 0) rfl ?_
  refine miX0_92 (pc := 33) C h (Nat.le_of_ble_eq_true rfl) (Nat.le_of_ble_eq_true rfl) ⟨Nat.le_refl _, Nat.le_refl _⟩ dX0_drawFrom_33 (fun r11 w12 h => ?_)
  exact g_iret (pc := 36) C hlk hr (Nat.le_refl _) (Nat.le_refl _) dX0_drawFrom_36 h
theorem miX0_100 (C : xC x p s m c cc nL args RX0) {a0 : Nat} {K : Int32 → Wd → Prop} {D MC MS : Nat} (hq : isK w a0 2) (h : w_X2_asleepBits a0 K w) (hD : 2 + 1 ≤ D) (hW : (st.map fun v => v.category).sum ≤ 8) (hij : i ≤ MC ∧ j ≤ MS) (hd : decode cc pc = .ok (.invokevirtual 100, 3)) (k : ∀ (r : Int32) (u : Wd), K r u → GW x p l e (rmd D MC MS) s m args below meth c nL Q (pc + 3) lo (.int r :: st) u i j) : GW x p l e (rmd D MC MS) s m args below meth c nL Q pc lo (.ref (adr x a0) :: st) w i j := g_callVi0 C (As := []) (ci := 2) (c_X2_asleepBits h) (x_cwV C 0 LMX0_100 ⟨rfl, by decide, by decide, rfl⟩ hD (by decide)) rfl hq (by decide) rfl rfl hW hd hij k
def w_X0_thunderOver (a0 : Nat) (a1 : Nat) (K : Int32 → Wd → Prop) (w : Wd) : Prop :=
  isK w a1 2 ∧ w_X2_asleepBits a1 (fun r2 w3 => w_X0_rouse a1 r2 (fun w4 => w_J6_bitCount_0f7a4 r2 (fun r5 w6 => K r5 w6) w4) w3) w
theorem c_X0_thunderOver {x : xG} {l : Launch} {a0 : Nat} {a1 : Nat} {K : Int32 → Wd → Prop} {w : Wd} (h : w_X0_thunderOver a0 a1 K w) : Met l yX0_thunderOver (xws yX0_thunderOver cX0_thunderOver 3 (some .int)) (rmd 4 0 0) (xPc x [.ref (adr x a0), .ref (adr x a1)] w) (QcI x K) 0 0 (xA x) := by
  refine xMet (by decide) (Nat.le_of_ble_eq_true rfl) (fun p e s m below meth c C hlk hr _ => ?_)
  show GW x p l e (rmd 4 0 0) s m [.ref (adr x a0), .ref (adr x a1)].toArray below meth c 3 (QI x K below [.ref (adr x a0), .ref (adr x a1)].toArray s 0 0) 0 [(0, .ref (adr x a0)), (1, .ref (adr x a1))] [] w 0 0
  refine g_aload_n (pc := 0) C dX0_thunderOver_0 (q := 1) rfl ?_
  obtain ⟨k1, h⟩ := h
  refine miX0_100 (pc := 1) C k1 h (Nat.le_of_ble_eq_true rfl) (Nat.le_of_ble_eq_true rfl) ⟨Nat.le_refl _, Nat.le_refl _⟩ dX0_thunderOver_1 (fun r2 w3 h => ?_)
  refine g_istore_n (pc := 4) C dX0_thunderOver_4 (Nat.le_of_ble_eq_true rfl) (lo' := [(2, .int r2), (0, .ref (adr x a0)), (1, .ref (adr x a1))]) rfl ?_
  refine g_aload_n (pc := 5) C dX0_thunderOver_5 (q := 2) rfl ?_
  refine g_iload_n (pc := 6) C dX0_thunderOver_6 (q := 0) rfl ?_
  refine miX0_84 (pc := 7) C h (Nat.le_of_ble_eq_true rfl) (Nat.le_of_ble_eq_true rfl) ⟨Nat.le_refl _, Nat.le_refl _⟩ dX0_thunderOver_7 (fun w4 h => ?_)
  refine g_iload_n (pc := 10) C dX0_thunderOver_10 (q := 0) rfl ?_
  refine miX0_92 (pc := 11) C h (Nat.le_of_ble_eq_true rfl) (Nat.le_of_ble_eq_true rfl) ⟨Nat.le_refl _, Nat.le_refl _⟩ dX0_thunderOver_11 (fun r5 w6 h => ?_)
  exact g_iret (pc := 14) C hlk hr (Nat.le_refl _) (Nat.le_refl _) dX0_thunderOver_14 h
theorem miX0_57 (C : xC x p s m c cc nL args RX0) {a0 : Nat} {K : Wd → Prop} {D MC MS : Nat} (hq : isK w a0 2) (h : w_X2_passHour a0 K w) (hD : 3 + 1 ≤ D) (hW : (st.map fun v => v.category).sum ≤ 8) (hij : i ≤ MC ∧ j ≤ MS) (hd : decode cc pc = .ok (.invokevirtual 57, 3)) (k : ∀ (u : Wd), K u → GW x p l e (rmd D MC MS) s m args below meth c nL Q (pc + 3) lo st u i j) : GW x p l e (rmd D MC MS) s m args below meth c nL Q pc lo (.ref (adr x a0) :: st) w i j := g_callVv0 C (As := []) (ci := 2) (c_X2_passHour h) (x_cwV C 0 LMX0_57 ⟨rfl, by decide, by decide, rfl⟩ hD (by decide)) rfl hq (by decide) rfl rfl hW hd hij k
theorem miX0_60 (C : xC x p s m c cc nL args RX0) {a0 : Nat} {a1 : Nat} {K : Int32 → Wd → Prop} {D MC MS : Nat} (hq : isK w a0 0) (h : w_X0_thunderOver a0 a1 K w) (hD : 4 + 1 ≤ D) (hW : (st.map fun v => v.category).sum ≤ 8) (hij : i ≤ MC ∧ j ≤ MS) (hd : decode cc pc = .ok (.invokevirtual 60, 3)) (k : ∀ (r : Int32) (u : Wd), K r u → GW x p l e (rmd D MC MS) s m args below meth c nL Q (pc + 3) lo (.int r :: st) u i j) : GW x p l e (rmd D MC MS) s m args below meth c nL Q pc lo (.ref (adr x a1) :: .ref (adr x a0) :: st) w i j := g_callVi0 C (As := [.ref (adr x a1)]) (ci := 0) (c_X0_thunderOver h) (x_cwV C 1 LMX0_60 ⟨rfl, by decide, by decide, rfl⟩ hD (by decide)) rfl hq (by decide) rfl rfl hW hd hij k
theorem miX0_64 (C : xC x p s m c cc nL args RX0) {a0 : Nat} {a1 : Nat} {a2 : Int32} {a3 : Int32} {K : Int32 → Wd → Prop} {D MC MS : Nat} (hq : isK w a0 0) (h : w_X0_drawFrom a0 a1 a2 a3 K w) (hD : 4 + 1 ≤ D) (hW : (st.map fun v => v.category).sum ≤ 8) (hij : i ≤ MC ∧ j ≤ MS) (hd : decode cc pc = .ok (.invokevirtual 64, 3)) (k : ∀ (r : Int32) (u : Wd), K r u → GW x p l e (rmd D MC MS) s m args below meth c nL Q (pc + 3) lo (.int r :: st) u i j) : GW x p l e (rmd D MC MS) s m args below meth c nL Q pc lo (.int a3 :: .int a2 :: .ref (adr x a1) :: .ref (adr x a0) :: st) w i j := g_callVi0 C (As := [.ref (adr x a1), .int a2, .int a3]) (ci := 0) (c_X0_drawFrom h) (x_cwV C 3 LMX0_64 ⟨rfl, by decide, by decide, rfl⟩ hD (by decide)) rfl hq (by decide) rfl rfl hW hd hij k
theorem miX0_67 (C : xC x p s m c cc nL args RX0) {a0 : Nat} {a1 : Int32} {K : Wd → Prop} {D MC MS : Nat} (hq : isK w a0 2) (h : w_X2_putToSleep a0 a1 K w) (hD : 2 + 1 ≤ D) (hW : (st.map fun v => v.category).sum ≤ 8) (hij : i ≤ MC ∧ j ≤ MS) (hd : decode cc pc = .ok (.invokevirtual 67, 3)) (k : ∀ (u : Wd), K u → GW x p l e (rmd D MC MS) s m args below meth c nL Q (pc + 3) lo st u i j) : GW x p l e (rmd D MC MS) s m args below meth c nL Q pc lo (.int a1 :: .ref (adr x a0) :: st) w i j := g_callVv0 C (As := [.int a1]) (ci := 2) (c_X2_putToSleep h) (x_cwV C 1 LMX0_67 ⟨rfl, by decide, by decide, rfl⟩ hD (by decide)) rfl hq (by decide) rfl rfl hW hd hij k
theorem miX0_71 (C : xC x p s m c cc nL args RX0) {a0 : Nat} {a1 : Nat} {a2 : Int32} {K : Int32 → Wd → Prop} {D MC MS : Nat} (hq : isK w a0 0) (h : w_X0_coinInto a0 a1 a2 K w) (hD : 4 + 1 ≤ D) (hW : (st.map fun v => v.category).sum ≤ 8) (hij : i ≤ MC ∧ j ≤ MS) (hd : decode cc pc = .ok (.invokevirtual 71, 3)) (k : ∀ (r : Int32) (u : Wd), K r u → GW x p l e (rmd D MC MS) s m args below meth c nL Q (pc + 3) lo (.int r :: st) u i j) : GW x p l e (rmd D MC MS) s m args below meth c nL Q pc lo (.int a2 :: .ref (adr x a1) :: .ref (adr x a0) :: st) w i j := g_callVi0 C (As := [.ref (adr x a1), .int a2]) (ci := 0) (c_X0_coinInto h) (x_cwV C 2 LMX0_71 ⟨rfl, by decide, by decide, rfl⟩ hD (by decide)) rfl hq (by decide) rfl rfl hW hd hij k
def w_X0_carryOut (a0 : Nat) (a1 : Nat) (a2 : Int64) (K : Wd → Prop) (w : Wd) : Prop :=
  ((a2.toInt32 = (-1) → isK w a1 2 ∧ w_X2_passHour a1 (fun w17 => K w17) w) ∧ (¬ a2.toInt32 = (-1) → ((a2.toInt32 = 3000 → isK w a0 0 ∧ w_X0_thunderOver a0 a1 (fun r14 w15 => K w15) w) ∧ (¬ a2.toInt32 = 3000 → ((1000 ≤ a2.toInt32 → ((2100 ≤ a2.toInt32 → isK w a0 0 ∧ w_X0_coinInto a0 a1 (a2.toInt32 - 2100) (fun r6 w7 => K w7) w) ∧ (¬ 2100 ≤ a2.toInt32 → isK w a1 2 ∧ w_X2_putToSleep a1 (a2.toInt32 - 2000) (fun w9 => K w9) w))) ∧ (¬ 1000 ≤ a2.toInt32 → isK w a0 0 ∧ w_X0_drawFrom a0 a1 (a2.toInt32 / 100) (x_irem a2.toInt32 100) (fun r11 w12 => K w12) w))))))
theorem c_X0_carryOut {x : xG} {l : Launch} {a0 : Nat} {a1 : Nat} {a2 : Int64} {K : Wd → Prop} {w : Wd} (h : w_X0_carryOut a0 a1 a2 K w) : Met l yX0_carryOut (xws yX0_carryOut cX0_carryOut 5 none) (rmd 5 0 0) (xPc x [.ref (adr x a0), .ref (adr x a1), .long a2] w) (QcV x K) 0 0 (xA x) := by
  refine xMet (by decide) (Nat.le_of_ble_eq_true rfl) (fun p e s m below meth c C hlk hr _ => ?_)
  show GW x p l e (rmd 5 0 0) s m [.ref (adr x a0), .ref (adr x a1), .long a2].toArray below meth c 5 (QV x K below [.ref (adr x a0), .ref (adr x a1), .long a2].toArray s 0 0) 0 [(0, .ref (adr x a0)), (1, .ref (adr x a1)), (2, .long a2)] [] w 0 0
  refine g_lload_n (pc := 0) C dX0_carryOut_0 (q := 2) rfl ?_
  refine g_l2i (pc := 1) C dX0_carryOut_1 ?_
  refine g_istore (pc := 2) C dX0_carryOut_2 (Nat.le_of_ble_eq_true rfl) (lo' := [(4, .int a2.toInt32), (0, .ref (adr x a0)), (1, .ref (adr x a1)), (2, .long a2)]) rfl ?_
  refine g_iload (pc := 4) C dX0_carryOut_4 (q := 0) rfl ?_
  refine g_iconst (pc := 6) C dX0_carryOut_6 (v := (-1)) rfl ?_
  refine g_icmp_ne (pc := 7) C dX0_carryOut_7 (tgt := 17) rfl (fun z1 => ?_) (fun z1 => ?_)
  · replace h := h.2 z1
    refine g_iload (pc := 17) C dX0_carryOut_17 (q := 0) rfl ?_
    refine g_sipush (pc := 19) C dX0_carryOut_19 (v := 3000) rfl ?_
    refine g_icmp_ne (pc := 22) C dX0_carryOut_22 (tgt := 34) rfl (fun z2 => ?_) (fun z2 => ?_)
    · replace h := h.2 z2
      refine g_iload (pc := 34) C dX0_carryOut_34 (q := 0) rfl ?_
      refine g_sipush (pc := 36) C dX0_carryOut_36 (v := 1000) rfl ?_
      refine g_icmp_ge (pc := 39) C dX0_carryOut_39 (tgt := 61) rfl (fun z3 => ?_) (fun z3 => ?_)
      · replace h := h.1 z3
        refine g_iload (pc := 61) C dX0_carryOut_61 (q := 0) rfl ?_
        refine g_sipush (pc := 63) C dX0_carryOut_63 (v := 2100) rfl ?_
        refine g_icmp_ge (pc := 66) C dX0_carryOut_66 (tgt := 82) rfl (fun z4 => ?_) (fun z4 => ?_)
        · replace h := h.1 z4
          refine g_aload_n (pc := 82) C dX0_carryOut_82 (q := 1) rfl ?_
          refine g_aload_n (pc := 83) C dX0_carryOut_83 (q := 2) rfl ?_
          refine g_iload (pc := 84) C dX0_carryOut_84 (q := 0) rfl ?_
          refine g_sipush (pc := 86) C dX0_carryOut_86 (v := 2100) rfl ?_
          refine g_isub (pc := 89) C dX0_carryOut_89 ?_
          obtain ⟨k5, h⟩ := h
          refine miX0_71 (pc := 90) C k5 h (Nat.le_of_ble_eq_true rfl) (Nat.le_of_ble_eq_true rfl) ⟨Nat.le_refl _, Nat.le_refl _⟩ dX0_carryOut_90 (fun r6 w7 h => ?_)
          refine g_pop (pc := 93) C dX0_carryOut_93 rfl ?_
          exact g_vret (pc := 94) C hlk hr (Nat.le_refl _) (Nat.le_refl _) dX0_carryOut_94 h
        · replace h := h.2 z4
          refine g_aload_n (pc := 69) C dX0_carryOut_69 (q := 2) rfl ?_
          refine g_iload (pc := 70) C dX0_carryOut_70 (q := 0) rfl ?_
          refine g_sipush (pc := 72) C dX0_carryOut_72 (v := 2000) rfl ?_
          refine g_isub (pc := 75) C dX0_carryOut_75 ?_
          obtain ⟨k8, h⟩ := h
          refine miX0_67 (pc := 76) C k8 h (Nat.le_of_ble_eq_true rfl) (Nat.le_of_ble_eq_true rfl) ⟨Nat.le_refl _, Nat.le_refl _⟩ dX0_carryOut_76 (fun w9 h => ?_)
          refine g_goto (pc := 79) C dX0_carryOut_79 (tgt := 94) rfl ?_
          exact g_vret (pc := 94) C hlk hr (Nat.le_refl _) (Nat.le_refl _) dX0_carryOut_94 h
      · replace h := h.2 z3
        refine g_aload_n (pc := 42) C dX0_carryOut_42 (q := 1) rfl ?_
        refine g_aload_n (pc := 43) C dX0_carryOut_43 (q := 2) rfl ?_
        refine g_iload (pc := 44) C dX0_carryOut_44 (q := 0) rfl ?_
        refine g_bipush (pc := 46) C dX0_carryOut_46 (v := 100) rfl ?_
        refine g_idiv (pc := 48) C dX0_carryOut_48 (by decide) ?_
        refine g_iload (pc := 49) C dX0_carryOut_49 (q := 0) rfl ?_
        refine g_bipush (pc := 51) C dX0_carryOut_51 (v := 100) rfl ?_
        refine h_irem (pc := 53) C dX0_carryOut_53 (by decide) ?_
        obtain ⟨k10, h⟩ := h
        refine miX0_64 (pc := 54) C k10 h (Nat.le_of_ble_eq_true rfl) (Nat.le_of_ble_eq_true rfl) ⟨Nat.le_refl _, Nat.le_refl _⟩ dX0_carryOut_54 (fun r11 w12 h => ?_)
        refine g_pop (pc := 57) C dX0_carryOut_57 rfl ?_
        refine g_goto (pc := 58) C dX0_carryOut_58 (tgt := 94) rfl ?_
        exact g_vret (pc := 94) C hlk hr (Nat.le_refl _) (Nat.le_refl _) dX0_carryOut_94 h
    · replace h := h.1 z2
      refine g_aload_n (pc := 25) C dX0_carryOut_25 (q := 1) rfl ?_
      refine g_aload_n (pc := 26) C dX0_carryOut_26 (q := 2) rfl ?_
      obtain ⟨k13, h⟩ := h
      refine miX0_60 (pc := 27) C k13 h (Nat.le_of_ble_eq_true rfl) (Nat.le_of_ble_eq_true rfl) ⟨Nat.le_refl _, Nat.le_refl _⟩ dX0_carryOut_27 (fun r14 w15 h => ?_)
      refine g_pop (pc := 30) C dX0_carryOut_30 rfl ?_
      refine g_goto (pc := 31) C dX0_carryOut_31 (tgt := 94) rfl ?_
      exact g_vret (pc := 94) C hlk hr (Nat.le_refl _) (Nat.le_refl _) dX0_carryOut_94 h
  · replace h := h.1 z1
    refine g_aload_n (pc := 10) C dX0_carryOut_10 (q := 2) rfl ?_
    obtain ⟨k16, h⟩ := h
    refine miX0_57 (pc := 11) C k16 h (Nat.le_of_ble_eq_true rfl) (Nat.le_of_ble_eq_true rfl) ⟨Nat.le_refl _, Nat.le_refl _⟩ dX0_carryOut_11 (fun w17 h => ?_)
    refine g_goto (pc := 14) C dX0_carryOut_14 (tgt := 94) rfl ?_
    exact g_vret (pc := 94) C hlk hr (Nat.le_refl _) (Nat.le_refl _) dX0_carryOut_94 h
theorem miX0_21 (C : xC x p s m c cc nL args RX0) {a0 : Nat} {a1 : Int32} {K : Int32 → Wd → Prop} {D MC MS : Nat} (hq : isK w a0 1) (h : w_X1_hasWell a0 a1 K w) (hD : 0 + 1 ≤ D) (hW : (st.map fun v => v.category).sum ≤ 8) (hij : i ≤ MC ∧ j ≤ MS) (hd : decode cc pc = .ok (.invokevirtual 21, 3)) (k : ∀ (r : Int32) (u : Wd), K r u → GW x p l e (rmd D MC MS) s m args below meth c nL Q (pc + 3) lo (.int r :: st) u i j) : GW x p l e (rmd D MC MS) s m args below meth c nL Q pc lo (.int a1 :: .ref (adr x a0) :: st) w i j := g_callVi0 C (As := [.int a1]) (ci := 1) (c_X1_hasWell h) (x_cwV C 1 LMX0_21 ⟨rfl, by decide, by decide, rfl⟩ hD (by decide)) rfl hq (by decide) rfl rfl hW hd hij k
theorem miX0_27 (C : xC x p s m c cc nL args RX0) {a0 : Nat} {a1 : Int32} {K : Int32 → Wd → Prop} {D MC MS : Nat} (hq : isK w a0 2) (h : w_X2_isAwake a0 a1 K w) (hD : 2 + 1 ≤ D) (hW : (st.map fun v => v.category).sum ≤ 8) (hij : i ≤ MC ∧ j ≤ MS) (hd : decode cc pc = .ok (.invokevirtual 27, 3)) (k : ∀ (r : Int32) (u : Wd), K r u → GW x p l e (rmd D MC MS) s m args below meth c nL Q (pc + 3) lo (.int r :: st) u i j) : GW x p l e (rmd D MC MS) s m args below meth c nL Q pc lo (.int a1 :: .ref (adr x a0) :: st) w i j := g_callVi0 C (As := [.int a1]) (ci := 2) (c_X2_isAwake h) (x_cwV C 1 LMX0_27 ⟨rfl, by decide, by decide, rfl⟩ hD (by decide)) rfl hq (by decide) rfl rfl hW hd hij k
def w_X0_whyNotCoin (a0 : Nat) (a1 : Int32) (K : Int32 → Wd → Prop) (w : Wd) : Prop :=
  isK w a0 2 ∧ isK w (wR w a0 0) 1 ∧ w_X1_hasWell (wR w a0 0) a1 (fun r3 w4 => ((r3 = 0 → K 1 w4) ∧ (¬ r3 = 0 → isK w4 a0 2 ∧ w_X2_isAwake a0 a1 (fun r7 w8 => ((r7 = 0 → K 0 w8) ∧ (¬ r7 = 0 → K 2 w8))) w4))) w
theorem c_X0_whyNotCoin {x : xG} {l : Launch} {a0 : Nat} {a1 : Int32} {K : Int32 → Wd → Prop} {w : Wd} (h : w_X0_whyNotCoin a0 a1 K w) : Met l yX0_whyNotCoin (xws yX0_whyNotCoin cX0_whyNotCoin 2 (some .int)) (rmd 3 0 0) (xPc x [.ref (adr x a0), .int a1] w) (QcI x K) 0 0 (xA x) := by
  refine xMet (by decide) (Nat.le_of_ble_eq_true rfl) (fun p e s m below meth c C hlk hr _ => ?_)
  show GW x p l e (rmd 3 0 0) s m [.ref (adr x a0), .int a1].toArray below meth c 2 (QI x K below [.ref (adr x a0), .int a1].toArray s 0 0) 0 [(0, .ref (adr x a0)), (1, .int a1)] [] w 0 0
  refine g_aload_n (pc := 0) C dX0_whyNotCoin_0 (q := 0) rfl ?_
  obtain ⟨k1, h⟩ := h
  obtain ⟨k2, h⟩ := h
  refine gfX0_15 (pc := 1) C k1 (isK_ne k2) dX0_whyNotCoin_1 ?_
  refine g_iload_n (pc := 4) C dX0_whyNotCoin_4 (q := 1) rfl ?_
  refine miX0_21 (pc := 5) C k2 h (Nat.le_of_ble_eq_true rfl) (Nat.le_of_ble_eq_true rfl) ⟨Nat.le_refl _, Nat.le_refl _⟩ dX0_whyNotCoin_5 (fun r3 w4 h => ?_)
  refine g_if_ne (pc := 8) C dX0_whyNotCoin_8 (tgt := 13) rfl (fun z5 => ?_) (fun z5 => ?_)
  · replace h := h.2 z5
    refine g_aload_n (pc := 13) C dX0_whyNotCoin_13 (q := 0) rfl ?_
    refine g_iload_n (pc := 14) C dX0_whyNotCoin_14 (q := 1) rfl ?_
    obtain ⟨k6, h⟩ := h
    refine miX0_27 (pc := 15) C k6 h (Nat.le_of_ble_eq_true rfl) (Nat.le_of_ble_eq_true rfl) ⟨Nat.le_refl _, Nat.le_refl _⟩ dX0_whyNotCoin_15 (fun r7 w8 h => ?_)
    refine g_if_eq (pc := 18) C dX0_whyNotCoin_18 (tgt := 25) rfl (fun z9 => ?_) (fun z9 => ?_)
    · replace h := h.1 z9
      refine g_iconst (pc := 25) C dX0_whyNotCoin_25 (v := 0) rfl ?_
      exact g_iret (pc := 26) C hlk hr (Nat.le_refl _) (Nat.le_refl _) dX0_whyNotCoin_26 h
    · replace h := h.2 z9
      refine g_iconst (pc := 21) C dX0_whyNotCoin_21 (v := 2) rfl ?_
      refine g_goto (pc := 22) C dX0_whyNotCoin_22 (tgt := 26) rfl ?_
      exact g_iret (pc := 26) C hlk hr (Nat.le_refl _) (Nat.le_refl _) dX0_whyNotCoin_26 h
  · replace h := h.1 z5
    refine g_iconst (pc := 11) C dX0_whyNotCoin_11 (v := 1) rfl ?_
    exact g_iret (pc := 12) C hlk hr (Nat.le_refl _) (Nat.le_refl _) dX0_whyNotCoin_12 h
theorem miX0_30 (C : xC x p s m c cc nL args RX0) {a0 : Nat} {a1 : Int32} {K : Int32 → Wd → Prop} {D MC MS : Nat} (hq : isK w a0 2) (h : w_X2_isSour a0 a1 K w) (hD : 1 + 1 ≤ D) (hW : (st.map fun v => v.category).sum ≤ 8) (hij : i ≤ MC ∧ j ≤ MS) (hd : decode cc pc = .ok (.invokevirtual 30, 3)) (k : ∀ (r : Int32) (u : Wd), K r u → GW x p l e (rmd D MC MS) s m args below meth c nL Q (pc + 3) lo (.int r :: st) u i j) : GW x p l e (rmd D MC MS) s m args below meth c nL Q pc lo (.int a1 :: .ref (adr x a0) :: st) w i j := g_callVi0 C (As := [.int a1]) (ci := 2) (c_X2_isSour h) (x_cwV C 1 LMX0_30 ⟨rfl, by decide, by decide, rfl⟩ hD (by decide)) rfl hq (by decide) rfl rfl hW hd hij k
theorem miX0_33 (C : xC x p s m c cc nL args RX0) {a0 : Nat} {a1 : Int32} {K : Int32 → Wd → Prop} {D MC MS : Nat} (hq : isK w a0 2) (h : w_X2_waterOf a0 a1 K w) (hD : 0 + 1 ≤ D) (hW : (st.map fun v => v.category).sum ≤ 8) (hij : i ≤ MC ∧ j ≤ MS) (hd : decode cc pc = .ok (.invokevirtual 33, 3)) (k : ∀ (r : Int32) (u : Wd), K r u → GW x p l e (rmd D MC MS) s m args below meth c nL Q (pc + 3) lo (.int r :: st) u i j) : GW x p l e (rmd D MC MS) s m args below meth c nL Q pc lo (.int a1 :: .ref (adr x a0) :: st) w i j := g_callVi0 C (As := [.int a1]) (ci := 2) (c_X2_waterOf h) (x_cwV C 1 LMX0_33 ⟨rfl, by decide, by decide, rfl⟩ hD (by decide)) rfl hq (by decide) rfl rfl hW hd hij k
def w_X0_whyNotDraw (a0 : Nat) (a1 : Int32) (a2 : Int32) (K : Int32 → Wd → Prop) (w : Wd) : Prop :=
  isK w a0 2 ∧ isK w (wR w a0 0) 1 ∧ w_X1_hasWell (wR w a0 0) a1 (fun r3 w4 => ((r3 = 0 → K 1 w4) ∧ (¬ r3 = 0 → ((a2 < 1 → K 1 w4) ∧ (¬ a2 < 1 → ((a2 ≤ 99 → isK w4 a0 2 ∧ w_X2_isAwake a0 a1 (fun r9 w10 => ((r9 = 0 → K 2 w10) ∧ (¬ r9 = 0 → isK w10 a0 2 ∧ w_X2_isSour a0 a1 (fun r13 w14 => ((r13 = 0 → isK w14 a0 2 ∧ w_X2_waterOf a0 a1 (fun r17 w18 => ((a2 ≤ r17 → K 0 w18) ∧ (¬ a2 ≤ r17 → K 4 w18))) w14) ∧ (¬ r13 = 0 → K 3 w14))) w10))) w4) ∧ (¬ a2 ≤ 99 → K 1 w4))))))) w
theorem c_X0_whyNotDraw {x : xG} {l : Launch} {a0 : Nat} {a1 : Int32} {a2 : Int32} {K : Int32 → Wd → Prop} {w : Wd} (h : w_X0_whyNotDraw a0 a1 a2 K w) : Met l yX0_whyNotDraw (xws yX0_whyNotDraw cX0_whyNotDraw 3 (some .int)) (rmd 3 0 0) (xPc x [.ref (adr x a0), .int a1, .int a2] w) (QcI x K) 0 0 (xA x) := by
  refine xMet (by decide) (Nat.le_of_ble_eq_true rfl) (fun p e s m below meth c C hlk hr _ => ?_)
  show GW x p l e (rmd 3 0 0) s m [.ref (adr x a0), .int a1, .int a2].toArray below meth c 3 (QI x K below [.ref (adr x a0), .int a1, .int a2].toArray s 0 0) 0 [(0, .ref (adr x a0)), (1, .int a1), (2, .int a2)] [] w 0 0
  refine g_aload_n (pc := 0) C dX0_whyNotDraw_0 (q := 0) rfl ?_
  obtain ⟨k1, h⟩ := h
  obtain ⟨k2, h⟩ := h
  refine gfX0_15 (pc := 1) C k1 (isK_ne k2) dX0_whyNotDraw_1 ?_
  refine g_iload_n (pc := 4) C dX0_whyNotDraw_4 (q := 1) rfl ?_
  refine miX0_21 (pc := 5) C k2 h (Nat.le_of_ble_eq_true rfl) (Nat.le_of_ble_eq_true rfl) ⟨Nat.le_refl _, Nat.le_refl _⟩ dX0_whyNotDraw_5 (fun r3 w4 h => ?_)
  refine g_if_eq (pc := 8) C dX0_whyNotDraw_8 (tgt := 22) rfl (fun z5 => ?_) (fun z5 => ?_)
  · replace h := h.1 z5
    refine g_iconst (pc := 22) C dX0_whyNotDraw_22 (v := 1) rfl ?_
    exact g_iret (pc := 23) C hlk hr (Nat.le_refl _) (Nat.le_refl _) dX0_whyNotDraw_23 h
  · replace h := h.2 z5
    refine g_iload_n (pc := 11) C dX0_whyNotDraw_11 (q := 2) rfl ?_
    refine g_iconst (pc := 12) C dX0_whyNotDraw_12 (v := 1) rfl ?_
    refine g_icmp_lt (pc := 13) C dX0_whyNotDraw_13 (tgt := 22) rfl (fun z6 => ?_) (fun z6 => ?_)
    · replace h := h.1 z6
      refine g_iconst (pc := 22) C dX0_whyNotDraw_22 (v := 1) rfl ?_
      exact g_iret (pc := 23) C hlk hr (Nat.le_refl _) (Nat.le_refl _) dX0_whyNotDraw_23 h
    · replace h := h.2 z6
      refine g_iload_n (pc := 16) C dX0_whyNotDraw_16 (q := 2) rfl ?_
      refine g_bipush (pc := 17) C dX0_whyNotDraw_17 (v := 99) rfl ?_
      refine g_icmp_le (pc := 19) C dX0_whyNotDraw_19 (tgt := 24) rfl (fun z7 => ?_) (fun z7 => ?_)
      · replace h := h.1 z7
        refine g_aload_n (pc := 24) C dX0_whyNotDraw_24 (q := 0) rfl ?_
        refine g_iload_n (pc := 25) C dX0_whyNotDraw_25 (q := 1) rfl ?_
        obtain ⟨k8, h⟩ := h
        refine miX0_27 (pc := 26) C k8 h (Nat.le_of_ble_eq_true rfl) (Nat.le_of_ble_eq_true rfl) ⟨Nat.le_refl _, Nat.le_refl _⟩ dX0_whyNotDraw_26 (fun r9 w10 h => ?_)
        refine g_if_ne (pc := 29) C dX0_whyNotDraw_29 (tgt := 34) rfl (fun z11 => ?_) (fun z11 => ?_)
        · replace h := h.2 z11
          refine g_aload_n (pc := 34) C dX0_whyNotDraw_34 (q := 0) rfl ?_
          refine g_iload_n (pc := 35) C dX0_whyNotDraw_35 (q := 1) rfl ?_
          obtain ⟨k12, h⟩ := h
          refine miX0_30 (pc := 36) C k12 h (Nat.le_of_ble_eq_true rfl) (Nat.le_of_ble_eq_true rfl) ⟨Nat.le_refl _, Nat.le_refl _⟩ dX0_whyNotDraw_36 (fun r13 w14 h => ?_)
          refine g_if_eq (pc := 39) C dX0_whyNotDraw_39 (tgt := 44) rfl (fun z15 => ?_) (fun z15 => ?_)
          · replace h := h.1 z15
            refine g_aload_n (pc := 44) C dX0_whyNotDraw_44 (q := 0) rfl ?_
            refine g_iload_n (pc := 45) C dX0_whyNotDraw_45 (q := 1) rfl ?_
            obtain ⟨k16, h⟩ := h
            refine miX0_33 (pc := 46) C k16 h (Nat.le_of_ble_eq_true rfl) (Nat.le_of_ble_eq_true rfl) ⟨Nat.le_refl _, Nat.le_refl _⟩ dX0_whyNotDraw_46 (fun r17 w18 h => ?_)
            refine g_iload_n (pc := 49) C dX0_whyNotDraw_49 (q := 2) rfl ?_
            refine g_icmp_ge (pc := 50) C dX0_whyNotDraw_50 (tgt := 57) rfl (fun z19 => ?_) (fun z19 => ?_)
            · replace h := h.1 z19
              refine g_iconst (pc := 57) C dX0_whyNotDraw_57 (v := 0) rfl ?_
              exact g_iret (pc := 58) C hlk hr (Nat.le_refl _) (Nat.le_refl _) dX0_whyNotDraw_58 h
            · replace h := h.2 z19
              refine g_iconst (pc := 53) C dX0_whyNotDraw_53 (v := 4) rfl ?_
              refine g_goto (pc := 54) C dX0_whyNotDraw_54 (tgt := 58) rfl ?_
              exact g_iret (pc := 58) C hlk hr (Nat.le_refl _) (Nat.le_refl _) dX0_whyNotDraw_58 h
          · replace h := h.2 z15
            refine g_iconst (pc := 42) C dX0_whyNotDraw_42 (v := 3) rfl ?_
            exact g_iret (pc := 43) C hlk hr (Nat.le_refl _) (Nat.le_refl _) dX0_whyNotDraw_43 h
        · replace h := h.1 z11
          refine g_iconst (pc := 32) C dX0_whyNotDraw_32 (v := 2) rfl ?_
          exact g_iret (pc := 33) C hlk hr (Nat.le_refl _) (Nat.le_refl _) dX0_whyNotDraw_33 h
      · replace h := h.2 z7
        refine g_iconst (pc := 22) C dX0_whyNotDraw_22 (v := 1) rfl ?_
        exact g_iret (pc := 23) C hlk hr (Nat.le_refl _) (Nat.le_refl _) dX0_whyNotDraw_23 h
theorem miX0_37 (C : xC x p s m c cc nL args RX0) {a0 : Nat} {a1 : Int32} {K : Int32 → Wd → Prop} {D MC MS : Nat} (hq : isK w a0 1) (h : w_X1_everSleeps a0 a1 K w) (hD : 1 + 1 ≤ D) (hW : (st.map fun v => v.category).sum ≤ 8) (hij : i ≤ MC ∧ j ≤ MS) (hd : decode cc pc = .ok (.invokevirtual 37, 3)) (k : ∀ (r : Int32) (u : Wd), K r u → GW x p l e (rmd D MC MS) s m args below meth c nL Q (pc + 3) lo (.int r :: st) u i j) : GW x p l e (rmd D MC MS) s m args below meth c nL Q pc lo (.int a1 :: .ref (adr x a0) :: st) w i j := g_callVi0 C (As := [.int a1]) (ci := 1) (c_X1_everSleeps h) (x_cwV C 1 LMX0_37 ⟨rfl, by decide, by decide, rfl⟩ hD (by decide)) rfl hq (by decide) rfl rfl hW hd hij k
def w_X0_whyNotLull (a0 : Nat) (a1 : Int32) (K : Int32 → Wd → Prop) (w : Wd) : Prop :=
  isK w a0 2 ∧ isK w (wR w a0 0) 1 ∧ w_X1_hasWell (wR w a0 0) a1 (fun r3 w4 => ((r3 = 0 → K 1 w4) ∧ (¬ r3 = 0 → isK w4 a0 2 ∧ w_X2_isAwake a0 a1 (fun r7 w8 => ((r7 = 0 → K 2 w8) ∧ (¬ r7 = 0 → isK w8 a0 2 ∧ isK w8 (wR w8 a0 0) 1 ∧ w_X1_everSleeps (wR w8 a0 0) a1 (fun r12 w13 => ((r12 = 0 → K 3 w13) ∧ (¬ r12 = 0 → K 0 w13))) w8))) w4))) w
theorem c_X0_whyNotLull {x : xG} {l : Launch} {a0 : Nat} {a1 : Int32} {K : Int32 → Wd → Prop} {w : Wd} (h : w_X0_whyNotLull a0 a1 K w) : Met l yX0_whyNotLull (xws yX0_whyNotLull cX0_whyNotLull 2 (some .int)) (rmd 3 0 0) (xPc x [.ref (adr x a0), .int a1] w) (QcI x K) 0 0 (xA x) := by
  refine xMet (by decide) (Nat.le_of_ble_eq_true rfl) (fun p e s m below meth c C hlk hr _ => ?_)
  show GW x p l e (rmd 3 0 0) s m [.ref (adr x a0), .int a1].toArray below meth c 2 (QI x K below [.ref (adr x a0), .int a1].toArray s 0 0) 0 [(0, .ref (adr x a0)), (1, .int a1)] [] w 0 0
  refine g_aload_n (pc := 0) C dX0_whyNotLull_0 (q := 0) rfl ?_
  obtain ⟨k1, h⟩ := h
  obtain ⟨k2, h⟩ := h
  refine gfX0_15 (pc := 1) C k1 (isK_ne k2) dX0_whyNotLull_1 ?_
  refine g_iload_n (pc := 4) C dX0_whyNotLull_4 (q := 1) rfl ?_
  refine miX0_21 (pc := 5) C k2 h (Nat.le_of_ble_eq_true rfl) (Nat.le_of_ble_eq_true rfl) ⟨Nat.le_refl _, Nat.le_refl _⟩ dX0_whyNotLull_5 (fun r3 w4 h => ?_)
  refine g_if_ne (pc := 8) C dX0_whyNotLull_8 (tgt := 13) rfl (fun z5 => ?_) (fun z5 => ?_)
  · replace h := h.2 z5
    refine g_aload_n (pc := 13) C dX0_whyNotLull_13 (q := 0) rfl ?_
    refine g_iload_n (pc := 14) C dX0_whyNotLull_14 (q := 1) rfl ?_
    obtain ⟨k6, h⟩ := h
    refine miX0_27 (pc := 15) C k6 h (Nat.le_of_ble_eq_true rfl) (Nat.le_of_ble_eq_true rfl) ⟨Nat.le_refl _, Nat.le_refl _⟩ dX0_whyNotLull_15 (fun r7 w8 h => ?_)
    refine g_if_ne (pc := 18) C dX0_whyNotLull_18 (tgt := 23) rfl (fun z9 => ?_) (fun z9 => ?_)
    · replace h := h.2 z9
      refine g_aload_n (pc := 23) C dX0_whyNotLull_23 (q := 0) rfl ?_
      obtain ⟨k10, h⟩ := h
      obtain ⟨k11, h⟩ := h
      refine gfX0_15 (pc := 24) C k10 (isK_ne k11) dX0_whyNotLull_24 ?_
      refine g_iload_n (pc := 27) C dX0_whyNotLull_27 (q := 1) rfl ?_
      refine miX0_37 (pc := 28) C k11 h (Nat.le_of_ble_eq_true rfl) (Nat.le_of_ble_eq_true rfl) ⟨Nat.le_refl _, Nat.le_refl _⟩ dX0_whyNotLull_28 (fun r12 w13 h => ?_)
      refine g_if_eq (pc := 31) C dX0_whyNotLull_31 (tgt := 38) rfl (fun z14 => ?_) (fun z14 => ?_)
      · replace h := h.1 z14
        refine g_iconst (pc := 38) C dX0_whyNotLull_38 (v := 3) rfl ?_
        exact g_iret (pc := 39) C hlk hr (Nat.le_refl _) (Nat.le_refl _) dX0_whyNotLull_39 h
      · replace h := h.2 z14
        refine g_iconst (pc := 34) C dX0_whyNotLull_34 (v := 0) rfl ?_
        refine g_goto (pc := 35) C dX0_whyNotLull_35 (tgt := 39) rfl ?_
        exact g_iret (pc := 39) C hlk hr (Nat.le_refl _) (Nat.le_refl _) dX0_whyNotLull_39 h
    · replace h := h.1 z9
      refine g_iconst (pc := 21) C dX0_whyNotLull_21 (v := 2) rfl ?_
      exact g_iret (pc := 22) C hlk hr (Nat.le_refl _) (Nat.le_refl _) dX0_whyNotLull_22 h
  · replace h := h.1 z5
    refine g_iconst (pc := 11) C dX0_whyNotLull_11 (v := 1) rfl ?_
    exact g_iret (pc := 12) C hlk hr (Nat.le_refl _) (Nat.le_refl _) dX0_whyNotLull_12 h
theorem miX0_46 (C : xC x p s m c cc nL args RX0) {a0 : Nat} {a1 : Int32} {a2 : Int32} {K : Int32 → Wd → Prop} {D MC MS : Nat} (h : w_X0_whyNotDraw a0 a1 a2 K w) (hD : 3 + 1 ≤ D) (hW : (st.map fun v => v.category).sum ≤ 8) (hij : i ≤ MC ∧ j ≤ MS) (hd : decode cc pc = .ok (.invokestatic 46, 3)) (k : ∀ (r : Int32) (u : Wd), K r u → GW x p l e (rmd D MC MS) s m args below meth c nL Q (pc + 3) lo (.int r :: st) u i j) : GW x p l e (rmd D MC MS) s m args below meth c nL Q pc lo (.int a2 :: .int a1 :: .ref (adr x a0) :: st) w i j := g_callSi0 C (As := [.ref (adr x a0), .int a1, .int a2]) (c_X0_whyNotDraw h) (x_cwS C 3 LMX0_46 ⟨by decide, by decide, rfl⟩ hD (by decide)) rfl rfl hW hd hij k
theorem miX0_50 (C : xC x p s m c cc nL args RX0) {a0 : Nat} {a1 : Int32} {K : Int32 → Wd → Prop} {D MC MS : Nat} (h : w_X0_whyNotLull a0 a1 K w) (hD : 3 + 1 ≤ D) (hW : (st.map fun v => v.category).sum ≤ 8) (hij : i ≤ MC ∧ j ≤ MS) (hd : decode cc pc = .ok (.invokestatic 50, 3)) (k : ∀ (r : Int32) (u : Wd), K r u → GW x p l e (rmd D MC MS) s m args below meth c nL Q (pc + 3) lo (.int r :: st) u i j) : GW x p l e (rmd D MC MS) s m args below meth c nL Q pc lo (.int a1 :: .ref (adr x a0) :: st) w i j := g_callSi0 C (As := [.ref (adr x a0), .int a1]) (c_X0_whyNotLull h) (x_cwS C 2 LMX0_50 ⟨by decide, by decide, rfl⟩ hD (by decide)) rfl rfl hW hd hij k
theorem miX0_54 (C : xC x p s m c cc nL args RX0) {a0 : Nat} {a1 : Int32} {K : Int32 → Wd → Prop} {D MC MS : Nat} (h : w_X0_whyNotCoin a0 a1 K w) (hD : 3 + 1 ≤ D) (hW : (st.map fun v => v.category).sum ≤ 8) (hij : i ≤ MC ∧ j ≤ MS) (hd : decode cc pc = .ok (.invokestatic 54, 3)) (k : ∀ (r : Int32) (u : Wd), K r u → GW x p l e (rmd D MC MS) s m args below meth c nL Q (pc + 3) lo (.int r :: st) u i j) : GW x p l e (rmd D MC MS) s m args below meth c nL Q pc lo (.int a1 :: .ref (adr x a0) :: st) w i j := g_callSi0 C (As := [.ref (adr x a0), .int a1]) (c_X0_whyNotCoin h) (x_cwS C 2 LMX0_54 ⟨by decide, by decide, rfl⟩ hD (by decide)) rfl rfl hW hd hij k
def w_X0_whyNotTold (a0 : Nat) (a1 : Int64) (K : Int32 → Wd → Prop) (w : Wd) : Prop :=
  (((lg_cmp a1 (-1)) = 0 → K 0 w) ∧ (¬ (lg_cmp a1 (-1)) = 0 → (((lg_cmp a1 3000) = 0 → K 0 w) ∧ (¬ (lg_cmp a1 3000) = 0 → (((lg_cmp a1 0) < 0 → K 1 w) ∧ (¬ (lg_cmp a1 0) < 0 → (((lg_cmp a1 2200) < 0 → ((1000 ≤ a1.toInt32 → ((2000 ≤ a1.toInt32 → ((2100 ≤ a1.toInt32 → w_X0_whyNotCoin a0 (a1.toInt32 - 2100) (fun r8 w9 => K r8 w9) w) ∧ (¬ 2100 ≤ a1.toInt32 → w_X0_whyNotLull a0 (a1.toInt32 - 2000) (fun r10 w11 => K r10 w11) w))) ∧ (¬ 2000 ≤ a1.toInt32 → K 1 w))) ∧ (¬ 1000 ≤ a1.toInt32 → w_X0_whyNotDraw a0 (a1.toInt32 / 100) (x_irem a1.toInt32 100) (fun r12 w13 => K r12 w13) w))) ∧ (¬ (lg_cmp a1 2200) < 0 → K 1 w))))))))
theorem c_X0_whyNotTold {x : xG} {l : Launch} {a0 : Nat} {a1 : Int64} {K : Int32 → Wd → Prop} {w : Wd} (h : w_X0_whyNotTold a0 a1 K w) : Met l yX0_whyNotTold (xws yX0_whyNotTold cX0_whyNotTold 4 (some .int)) (rmd 4 0 0) (xPc x [.ref (adr x a0), .long a1] w) (QcI x K) 0 0 (xA x) := by
  refine xMet (by decide) (Nat.le_of_ble_eq_true rfl) (fun p e s m below meth c C hlk hr _ => ?_)
  show GW x p l e (rmd 4 0 0) s m [.ref (adr x a0), .long a1].toArray below meth c 4 (QI x K below [.ref (adr x a0), .long a1].toArray s 0 0) 0 [(0, .ref (adr x a0)), (1, .long a1)] [] w 0 0
  refine g_lload_n (pc := 0) C dX0_whyNotTold_0 (q := 1) rfl ?_
  refine g_ldc2 (pc := 1) C LCX0_40 dX0_whyNotTold_1 ?_
  refine g_lcmp (pc := 4) C dX0_whyNotTold_4 ?_
  refine g_if_eq (pc := 5) C dX0_whyNotTold_5 (tgt := 16) rfl (fun z1 => ?_) (fun z1 => ?_)
  · replace h := h.1 z1
    refine g_iconst (pc := 16) C dX0_whyNotTold_16 (v := 0) rfl ?_
    exact g_iret (pc := 17) C hlk hr (Nat.le_refl _) (Nat.le_refl _) dX0_whyNotTold_17 h
  · replace h := h.2 z1
    refine g_lload_n (pc := 8) C dX0_whyNotTold_8 (q := 1) rfl ?_
    refine g_ldc2 (pc := 9) C LCX0_42 dX0_whyNotTold_9 ?_
    refine g_lcmp (pc := 12) C dX0_whyNotTold_12 ?_
    refine g_if_ne (pc := 13) C dX0_whyNotTold_13 (tgt := 18) rfl (fun z2 => ?_) (fun z2 => ?_)
    · replace h := h.2 z2
      refine g_lload_n (pc := 18) C dX0_whyNotTold_18 (q := 1) rfl ?_
      refine g_lconst (pc := 19) C dX0_whyNotTold_19 (v := 0) rfl ?_
      refine g_lcmp (pc := 20) C dX0_whyNotTold_20 ?_
      refine g_if_lt (pc := 21) C dX0_whyNotTold_21 (tgt := 32) rfl (fun z3 => ?_) (fun z3 => ?_)
      · replace h := h.1 z3
        refine g_iconst (pc := 32) C dX0_whyNotTold_32 (v := 1) rfl ?_
        exact g_iret (pc := 33) C hlk hr (Nat.le_refl _) (Nat.le_refl _) dX0_whyNotTold_33 h
      · replace h := h.2 z3
        refine g_lload_n (pc := 24) C dX0_whyNotTold_24 (q := 1) rfl ?_
        refine g_ldc2 (pc := 25) C LCX0_44 dX0_whyNotTold_25 ?_
        refine g_lcmp (pc := 28) C dX0_whyNotTold_28 ?_
        refine g_if_lt (pc := 29) C dX0_whyNotTold_29 (tgt := 34) rfl (fun z4 => ?_) (fun z4 => ?_)
        · replace h := h.1 z4
          refine g_lload_n (pc := 34) C dX0_whyNotTold_34 (q := 1) rfl ?_
          refine g_l2i (pc := 35) C dX0_whyNotTold_35 ?_
          refine g_istore_n (pc := 36) C dX0_whyNotTold_36 (Nat.le_of_ble_eq_true rfl) (lo' := [(3, .int a1.toInt32), (0, .ref (adr x a0)), (1, .long a1)]) rfl ?_
          refine g_iload_n (pc := 37) C dX0_whyNotTold_37 (q := 0) rfl ?_
          refine g_sipush (pc := 38) C dX0_whyNotTold_38 (v := 1000) rfl ?_
          refine g_icmp_ge (pc := 41) C dX0_whyNotTold_41 (tgt := 57) rfl (fun z5 => ?_) (fun z5 => ?_)
          · replace h := h.1 z5
            refine g_iload_n (pc := 57) C dX0_whyNotTold_57 (q := 0) rfl ?_
            refine g_sipush (pc := 58) C dX0_whyNotTold_58 (v := 2000) rfl ?_
            refine g_icmp_ge (pc := 61) C dX0_whyNotTold_61 (tgt := 66) rfl (fun z6 => ?_) (fun z6 => ?_)
            · replace h := h.1 z6
              refine g_iload_n (pc := 66) C dX0_whyNotTold_66 (q := 0) rfl ?_
              refine g_sipush (pc := 67) C dX0_whyNotTold_67 (v := 2100) rfl ?_
              refine g_icmp_ge (pc := 70) C dX0_whyNotTold_70 (tgt := 85) rfl (fun z7 => ?_) (fun z7 => ?_)
              · replace h := h.1 z7
                refine g_aload_n (pc := 85) C dX0_whyNotTold_85 (q := 1) rfl ?_
                refine g_iload_n (pc := 86) C dX0_whyNotTold_86 (q := 0) rfl ?_
                refine g_sipush (pc := 87) C dX0_whyNotTold_87 (v := 2100) rfl ?_
                refine g_isub (pc := 90) C dX0_whyNotTold_90 ?_
                refine miX0_54 (pc := 91) C h (Nat.le_of_ble_eq_true rfl) (Nat.le_of_ble_eq_true rfl) ⟨Nat.le_refl _, Nat.le_refl _⟩ dX0_whyNotTold_91 (fun r8 w9 h => ?_)
                exact g_iret (pc := 94) C hlk hr (Nat.le_refl _) (Nat.le_refl _) dX0_whyNotTold_94 h
              · replace h := h.2 z7
                refine g_aload_n (pc := 73) C dX0_whyNotTold_73 (q := 1) rfl ?_
                refine g_iload_n (pc := 74) C dX0_whyNotTold_74 (q := 0) rfl ?_
                refine g_sipush (pc := 75) C dX0_whyNotTold_75 (v := 2000) rfl ?_
                refine g_isub (pc := 78) C dX0_whyNotTold_78 ?_
                refine miX0_50 (pc := 79) C h (Nat.le_of_ble_eq_true rfl) (Nat.le_of_ble_eq_true rfl) ⟨Nat.le_refl _, Nat.le_refl _⟩ dX0_whyNotTold_79 (fun r10 w11 h => ?_)
                refine g_goto (pc := 82) C dX0_whyNotTold_82 (tgt := 94) rfl ?_
                exact g_iret (pc := 94) C hlk hr (Nat.le_refl _) (Nat.le_refl _) dX0_whyNotTold_94 h
            · replace h := h.2 z6
              refine g_iconst (pc := 64) C dX0_whyNotTold_64 (v := 1) rfl ?_
              exact g_iret (pc := 65) C hlk hr (Nat.le_refl _) (Nat.le_refl _) dX0_whyNotTold_65 h
          · replace h := h.2 z5
            refine g_aload_n (pc := 44) C dX0_whyNotTold_44 (q := 1) rfl ?_
            refine g_iload_n (pc := 45) C dX0_whyNotTold_45 (q := 0) rfl ?_
            refine g_bipush (pc := 46) C dX0_whyNotTold_46 (v := 100) rfl ?_
            refine g_idiv (pc := 48) C dX0_whyNotTold_48 (by decide) ?_
            refine g_iload_n (pc := 49) C dX0_whyNotTold_49 (q := 0) rfl ?_
            refine g_bipush (pc := 50) C dX0_whyNotTold_50 (v := 100) rfl ?_
            refine h_irem (pc := 52) C dX0_whyNotTold_52 (by decide) ?_
            refine miX0_46 (pc := 53) C h (Nat.le_of_ble_eq_true rfl) (Nat.le_of_ble_eq_true rfl) ⟨Nat.le_refl _, Nat.le_refl _⟩ dX0_whyNotTold_53 (fun r12 w13 h => ?_)
            exact g_iret (pc := 56) C hlk hr (Nat.le_refl _) (Nat.le_refl _) dX0_whyNotTold_56 h
        · replace h := h.2 z4
          refine g_iconst (pc := 32) C dX0_whyNotTold_32 (v := 1) rfl ?_
          exact g_iret (pc := 33) C hlk hr (Nat.le_refl _) (Nat.le_refl _) dX0_whyNotTold_33 h
    · replace h := h.1 z2
      refine g_iconst (pc := 16) C dX0_whyNotTold_16 (v := 0) rfl ?_
      exact g_iret (pc := 17) C hlk hr (Nat.le_refl _) (Nat.le_refl _) dX0_whyNotTold_17 h
def w_X3_next (a0 : Nat) (K : Int32 → Wd → Prop) (w : Wd) : Prop :=
  isK w a0 3 ∧ K (x_iushr (wI (uI w a0 0 ((1103515245 * (wI w a0 0)) + 12345)) a0 0) 16) (uI w a0 0 ((1103515245 * (wI w a0 0)) + 12345))
theorem c_X3_next {x : xG} {l : Launch} {a0 : Nat} {K : Int32 → Wd → Prop} {w : Wd} (h : w_X3_next a0 K w) : Met l yX3_next (xws yX3_next cX3_next 1 (some .int)) (rmd 0 0 0) (xPc x [.ref (adr x a0)] w) (QcI x K) 0 0 (xA x) := by
  refine xMet (by decide) (Nat.le_of_ble_eq_true rfl) (fun p e s m below meth c C hlk hr _ => ?_)
  show GW x p l e (rmd 0 0 0) s m [.ref (adr x a0)].toArray below meth c 1 (QI x K below [.ref (adr x a0)].toArray s 0 0) 0 [(0, .ref (adr x a0))] [] w 0 0
  refine g_aload_n (pc := 0) C dX3_next_0 (q := 0) rfl ?_
  refine g_ldc (pc := 1) C LCX3_15 dX3_next_1 ?_
  refine g_aload_n (pc := 3) C dX3_next_3 (q := 0) rfl ?_
  obtain ⟨k1, h⟩ := h
  refine gfX3_9 (pc := 4) C k1 dX3_next_4 ?_
  refine g_imul (pc := 7) C dX3_next_7 ?_
  refine g_sipush (pc := 8) C dX3_next_8 (v := 12345) rfl ?_
  refine g_iadd (pc := 11) C dX3_next_11 ?_
  refine pfX3_9 (pc := 12) C k1 dX3_next_12 ?_
  refine g_aload_n (pc := 15) C dX3_next_15 (q := 0) rfl ?_
  refine gfX3_9 (pc := 16) (w := uI w a0 0 ((1103515245 * (wI w a0 0)) + 12345)) C k1 dX3_next_16 ?_
  refine g_bipush (pc := 19) C dX3_next_19 (v := 16) rfl ?_
  refine h_iushr (pc := 21) C dX3_next_21 ?_
  exact g_iret (pc := 22) C hlk hr (Nat.le_refl _) (Nat.le_refl _) dX3_next_22 h
theorem miX3_16 (C : xC x p s m c cc nL args RX3) {a0 : Nat} {K : Int32 → Wd → Prop} {D MC MS : Nat} (hq : isK w a0 3) (h : w_X3_next a0 K w) (hD : 0 + 1 ≤ D) (hW : (st.map fun v => v.category).sum ≤ 8) (hij : i ≤ MC ∧ j ≤ MS) (hd : decode cc pc = .ok (.invokevirtual 16, 3)) (k : ∀ (r : Int32) (u : Wd), K r u → GW x p l e (rmd D MC MS) s m args below meth c nL Q (pc + 3) lo (.int r :: st) u i j) : GW x p l e (rmd D MC MS) s m args below meth c nL Q pc lo (.ref (adr x a0) :: st) w i j := g_callVi0 C (As := []) (ci := 3) (c_X3_next h) (x_cwV C 0 LMX3_16 ⟨rfl, by decide, by decide, rfl⟩ hD (by decide)) rfl hq (by decide) rfl rfl hW hd hij k
def w_X3_nextDeed (a0 : Nat) (a1 : Int32) (K : Int32 → Wd → Prop) (w : Wd) : Prop :=
  isK w a0 3 ∧ w_X3_next a0 (fun r2 w3 => ((2 ≤ (x_irem r2 6) → ((1 ≤ a1 → isK w3 a0 3 ∧ w_X3_next a0 (fun r7 w8 => ¬ a1 = 0 ∧ ((4 ≤ (x_irem r2 6) → (((x_irem r2 6) = 4 → K (2000 + (x_irem r7 a1)) w8) ∧ (¬ (x_irem r2 6) = 4 → K (2100 + (x_irem r7 a1)) w8))) ∧ (¬ 4 ≤ (x_irem r2 6) → isK w8 a0 3 ∧ w_X3_next a0 (fun r13 w14 => K ((((x_irem r7 a1) * 100) + 1) + (x_irem r13 5)) w14) w8))) w3) ∧ (¬ 1 ≤ a1 → K (-2) w3))) ∧ (¬ 2 ≤ (x_irem r2 6) → K (-1) w3))) w
theorem c_X3_nextDeed {x : xG} {l : Launch} {a0 : Nat} {a1 : Int32} {K : Int32 → Wd → Prop} {w : Wd} (h : w_X3_nextDeed a0 a1 K w) : Met l yX3_nextDeed (xws yX3_nextDeed cX3_nextDeed 4 (some .int)) (rmd 1 0 0) (xPc x [.ref (adr x a0), .int a1] w) (QcI x K) 0 0 (xA x) := by
  refine xMet (by decide) (Nat.le_of_ble_eq_true rfl) (fun p e s m below meth c C hlk hr _ => ?_)
  show GW x p l e (rmd 1 0 0) s m [.ref (adr x a0), .int a1].toArray below meth c 4 (QI x K below [.ref (adr x a0), .int a1].toArray s 0 0) 0 [(0, .ref (adr x a0)), (1, .int a1)] [] w 0 0
  refine g_aload_n (pc := 0) C dX3_nextDeed_0 (q := 0) rfl ?_
  obtain ⟨k1, h⟩ := h
  refine miX3_16 (pc := 1) C k1 h (Nat.le_of_ble_eq_true rfl) (Nat.le_of_ble_eq_true rfl) ⟨Nat.le_refl _, Nat.le_refl _⟩ dX3_nextDeed_1 (fun r2 w3 h => ?_)
  refine g_bipush (pc := 4) C dX3_nextDeed_4 (v := 6) rfl ?_
  refine h_irem (pc := 6) C dX3_nextDeed_6 (by decide) ?_
  refine g_istore_n (pc := 7) C dX3_nextDeed_7 (Nat.le_of_ble_eq_true rfl) (lo' := [(2, .int (x_irem r2 6)), (0, .ref (adr x a0)), (1, .int a1)]) rfl ?_
  refine g_iload_n (pc := 8) C dX3_nextDeed_8 (q := 0) rfl ?_
  refine g_iconst (pc := 9) C dX3_nextDeed_9 (v := 2) rfl ?_
  refine g_icmp_ge (pc := 10) C dX3_nextDeed_10 (tgt := 15) rfl (fun z4 => ?_) (fun z4 => ?_)
  · replace h := h.1 z4
    refine g_iload_n (pc := 15) C dX3_nextDeed_15 (q := 2) rfl ?_
    refine g_iconst (pc := 16) C dX3_nextDeed_16 (v := 1) rfl ?_
    refine g_icmp_ge (pc := 17) C dX3_nextDeed_17 (tgt := 23) rfl (fun z5 => ?_) (fun z5 => ?_)
    · replace h := h.1 z5
      refine g_aload_n (pc := 23) C dX3_nextDeed_23 (q := 1) rfl ?_
      obtain ⟨k6, h⟩ := h
      refine miX3_16 (pc := 24) C k6 h (Nat.le_of_ble_eq_true rfl) (Nat.le_of_ble_eq_true rfl) ⟨Nat.le_refl _, Nat.le_refl _⟩ dX3_nextDeed_24 (fun r7 w8 h => ?_)
      refine g_iload_n (pc := 27) C dX3_nextDeed_27 (q := 2) rfl ?_
      obtain ⟨k9, h⟩ := h
      refine h_irem (pc := 28) C dX3_nextDeed_28 k9 ?_
      refine g_istore_n (pc := 29) C dX3_nextDeed_29 (Nat.le_of_ble_eq_true rfl) (lo' := [(3, .int (x_irem r7 a1)), (2, .int (x_irem r2 6)), (0, .ref (adr x a0)), (1, .int a1)]) rfl ?_
      refine g_iload_n (pc := 30) C dX3_nextDeed_30 (q := 1) rfl ?_
      refine g_iconst (pc := 31) C dX3_nextDeed_31 (v := 4) rfl ?_
      refine g_icmp_ge (pc := 32) C dX3_nextDeed_32 (tgt := 49) rfl (fun z10 => ?_) (fun z10 => ?_)
      · replace h := h.1 z10
        refine g_iload_n (pc := 49) C dX3_nextDeed_49 (q := 1) rfl ?_
        refine g_iconst (pc := 50) C dX3_nextDeed_50 (v := 4) rfl ?_
        refine g_icmp_ne (pc := 51) C dX3_nextDeed_51 (tgt := 60) rfl (fun z11 => ?_) (fun z11 => ?_)
        · replace h := h.2 z11
          refine g_sipush (pc := 60) C dX3_nextDeed_60 (v := 2100) rfl ?_
          refine g_iload_n (pc := 63) C dX3_nextDeed_63 (q := 0) rfl ?_
          refine g_iadd (pc := 64) C dX3_nextDeed_64 ?_
          exact g_iret (pc := 65) C hlk hr (Nat.le_refl _) (Nat.le_refl _) dX3_nextDeed_65 h
        · replace h := h.1 z11
          refine g_sipush (pc := 54) C dX3_nextDeed_54 (v := 2000) rfl ?_
          refine g_goto (pc := 57) C dX3_nextDeed_57 (tgt := 63) rfl ?_
          refine g_iload_n (pc := 63) C dX3_nextDeed_63 (q := 0) rfl ?_
          refine g_iadd (pc := 64) C dX3_nextDeed_64 ?_
          exact g_iret (pc := 65) C hlk hr (Nat.le_refl _) (Nat.le_refl _) dX3_nextDeed_65 h
      · replace h := h.2 z10
        refine g_iload_n (pc := 35) C dX3_nextDeed_35 (q := 0) rfl ?_
        refine g_bipush (pc := 36) C dX3_nextDeed_36 (v := 100) rfl ?_
        refine g_imul (pc := 38) C dX3_nextDeed_38 ?_
        refine g_iconst (pc := 39) C dX3_nextDeed_39 (v := 1) rfl ?_
        refine g_iadd (pc := 40) C dX3_nextDeed_40 ?_
        refine g_aload_n (pc := 41) C dX3_nextDeed_41 (q := 2) rfl ?_
        obtain ⟨k12, h⟩ := h
        refine miX3_16 (pc := 42) C k12 h (Nat.le_of_ble_eq_true rfl) (Nat.le_of_ble_eq_true rfl) ⟨Nat.le_refl _, Nat.le_refl _⟩ dX3_nextDeed_42 (fun r13 w14 h => ?_)
        refine g_iconst (pc := 45) C dX3_nextDeed_45 (v := 5) rfl ?_
        refine h_irem (pc := 46) C dX3_nextDeed_46 (by decide) ?_
        refine g_iadd (pc := 47) C dX3_nextDeed_47 ?_
        exact g_iret (pc := 48) C hlk hr (Nat.le_refl _) (Nat.le_refl _) dX3_nextDeed_48 h
    · replace h := h.2 z5
      refine g_bipush (pc := 20) C dX3_nextDeed_20 (v := (-2)) rfl ?_
      exact g_iret (pc := 22) C hlk hr (Nat.le_refl _) (Nat.le_refl _) dX3_nextDeed_22 h
  · replace h := h.2 z4
    refine g_iconst (pc := 13) C dX3_nextDeed_13 (v := (-1)) rfl ?_
    exact g_iret (pc := 14) C hlk hr (Nat.le_refl _) (Nat.le_refl _) dX3_nextDeed_14 h
theorem miX8_82 (C : xC x p s m c cc nL args RX8) {a0 : Nat} {a1 : Int32} {a2 : Int32} {K : Int32 → Wd → Prop} {D MC MS : Nat} (hq : isK w a0 2) (h : w_X2_isAwakeIn a0 a1 a2 K w) (hD : 1 + 1 ≤ D) (hW : (st.map fun v => v.category).sum ≤ 8) (hij : i ≤ MC ∧ j ≤ MS) (hd : decode cc pc = .ok (.invokevirtual 82, 3)) (k : ∀ (r : Int32) (u : Wd), K r u → GW x p l e (rmd D MC MS) s m args below meth c nL Q (pc + 3) lo (.int r :: st) u i j) : GW x p l e (rmd D MC MS) s m args below meth c nL Q pc lo (.int a2 :: .int a1 :: .ref (adr x a0) :: st) w i j := g_callVi0 C (As := [.int a1, .int a2]) (ci := 2) (c_X2_isAwakeIn h) (x_cwV C 2 LMX8_82 ⟨rfl, by decide, by decide, rfl⟩ hD (by decide)) rfl hq (by decide) rfl rfl hW hd hij k
def l_X8_addTo_3  (K : Wd → Prop) : Nat → Nat → Int32 → Nat → Int32 → Int32 → Wd → Prop
  | 0, _, _, _, _, _, _ => False
  | n + 1, a0, a1, a2, a3, a4, w => ((a1 ≤ a4 → K w) ∧ (¬ a1 ≤ a4 → (a0 = 1 ∨ isK w a0 20) ∧ (((Int32.ofNat (wn w a0)) ≤ a4 → K w) ∧ (¬ (Int32.ofNat (wn w a0)) ≤ a4 → isK w a2 2 ∧ w_X2_isAwakeIn a2 a3 a4 (fun r5 w6 => ((r5 = 0 → l_X8_addTo_3 K n a0 a1 a2 a3 (a4 + 1) w6) ∧ (¬ r5 = 0 → isK w6 a0 20 ∧ vp_in a4 (wn w6 a0) ∧ vp_in a4 (wn w6 a0) ∧ l_X8_addTo_3 K n a0 a1 a2 a3 (a4 + 1) (uI w6 a0 a4.toNatClampNeg ((wI w6 a0 a4.toNatClampNeg) + 1))))) w))))
def w_X8_addTo (a0 : Nat) (a1 : Int32) (a2 : Nat) (a3 : Int32) (K : Wd → Prop) (w : Wd) : Prop :=
  ∃ n11, l_X8_addTo_3  K n11 a0 a1 a2 a3 0 w
theorem t_X8_addTo_3 (C : xC x p s m c cX8_addTo 5 args RX8) (hlk : meth.locks = false) (hr : meth.sig.returnType = none) {K : Wd → Prop}   : ∀ (n : Nat) (a0 : Nat) (a1 : Int32) (a2 : Nat) (a3 : Int32) (a4 : Int32) (w : Wd), l_X8_addTo_3 K n a0 a1 a2 a3 a4 w → GW x p l e (rmd 2 0 0) s m args below meth c 5 (QV x K below args s 0 0) 3 [(0, .ref (adr x a0)), (1, .int a1), (2, .ref (adr x a2)), (3, .int a3), (4, .int a4)] [] w 0 0 := by
  intro n
  induction n with
  | zero => intro _ _ _ _ _ _ h; exact False.elim h
  | succ n ih =>
    intro a0 a1 a2 a3 a4 w h
    refine g_iload (pc := 3) C dX8_addTo_3 (q := 4) rfl ?_
    refine g_iload_n (pc := 5) C dX8_addTo_5 (q := 1) rfl ?_
    refine g_icmp_ge (pc := 6) C dX8_addTo_6 (tgt := 40) rfl (fun z1 => ?_) (fun z1 => ?_)
    · replace h := h.1 z1
      exact g_vret (pc := 40) C hlk hr (Nat.le_refl _) (Nat.le_refl _) dX8_addTo_40 h
    · replace h := h.2 z1
      refine g_iload (pc := 9) C dX8_addTo_9 (q := 4) rfl ?_
      refine g_aload_n (pc := 11) C dX8_addTo_11 (q := 0) rfl ?_
      obtain ⟨k2, h⟩ := h
      refine g_alenI (pc := 12) C k2 dX8_addTo_12 ?_
      refine g_icmp_ge (pc := 13) C dX8_addTo_13 (tgt := 40) rfl (fun z3 => ?_) (fun z3 => ?_)
      · replace h := h.1 z3
        exact g_vret (pc := 40) C hlk hr (Nat.le_refl _) (Nat.le_refl _) dX8_addTo_40 h
      · replace h := h.2 z3
        refine g_aload_n (pc := 16) C dX8_addTo_16 (q := 2) rfl ?_
        refine g_iload_n (pc := 17) C dX8_addTo_17 (q := 3) rfl ?_
        refine g_iload (pc := 18) C dX8_addTo_18 (q := 4) rfl ?_
        obtain ⟨k4, h⟩ := h
        refine miX8_82 (pc := 20) C k4 h (Nat.le_of_ble_eq_true rfl) (Nat.le_of_ble_eq_true rfl) ⟨Nat.le_refl _, Nat.le_refl _⟩ dX8_addTo_20 (fun r5 w6 h => ?_)
        refine g_if_eq (pc := 23) C dX8_addTo_23 (tgt := 34) rfl (fun z7 => ?_) (fun z7 => ?_)
        · replace h := h.1 z7
          refine g_iinc (pc := 34) C dX8_addTo_34 (q := 4) rfl (v2 := a4 + 1) rfl (Nat.le_of_ble_eq_true rfl) (lo' := [(4, .int (a4 + 1)), (0, .ref (adr x a0)), (1, .int a1), (2, .ref (adr x a2)), (3, .int a3)]) rfl ?_
          refine g_goto (pc := 37) C dX8_addTo_37 (tgt := 3) rfl ?_
          refine g_sub [1, 2, 3, 4, 0] rfl ?_
          exact ih _ _ _ _ _ _ h
        · replace h := h.2 z7
          refine g_aload_n (pc := 26) C dX8_addTo_26 (q := 0) rfl ?_
          refine g_iload (pc := 27) C dX8_addTo_27 (q := 4) rfl ?_
          refine g_dup2 (pc := 29) C dX8_addTo_29 rfl rfl ?_
          obtain ⟨k8, h⟩ := h
          obtain ⟨k9, h⟩ := h
          refine g_iald (pc := 30) C k8 k9 dX8_addTo_30 ?_
          refine g_iconst (pc := 31) C dX8_addTo_31 (v := 1) rfl ?_
          refine g_iadd (pc := 32) C dX8_addTo_32 ?_
          obtain ⟨k10, h⟩ := h
          refine g_iast (pc := 33) C k8 k10 dX8_addTo_33 ?_
          refine g_iinc (pc := 34) C dX8_addTo_34 (q := 4) rfl (v2 := a4 + 1) rfl (Nat.le_of_ble_eq_true rfl) (lo' := [(4, .int (a4 + 1)), (0, .ref (adr x a0)), (1, .int a1), (2, .ref (adr x a2)), (3, .int a3)]) rfl ?_
          refine g_goto (pc := 37) C dX8_addTo_37 (tgt := 3) rfl ?_
          refine g_sub [1, 2, 3, 4, 0] rfl ?_
          exact ih _ _ _ _ _ _ h
theorem c_X8_addTo {x : xG} {l : Launch} {a0 : Nat} {a1 : Int32} {a2 : Nat} {a3 : Int32} {K : Wd → Prop} {w : Wd} (h : w_X8_addTo a0 a1 a2 a3 K w) : Met l yX8_addTo (xws yX8_addTo cX8_addTo 5 none) (rmd 2 0 0) (xPc x [.ref (adr x a0), .int a1, .ref (adr x a2), .int a3] w) (QcV x K) 0 0 (xA x) := by
  refine xMet (by decide) (Nat.le_of_ble_eq_true rfl) (fun p e s m below meth c C hlk hr _ => ?_)
  show GW x p l e (rmd 2 0 0) s m [.ref (adr x a0), .int a1, .ref (adr x a2), .int a3].toArray below meth c 5 (QV x K below [.ref (adr x a0), .int a1, .ref (adr x a2), .int a3].toArray s 0 0) 0 [(0, .ref (adr x a0)), (1, .int a1), (2, .ref (adr x a2)), (3, .int a3)] [] w 0 0
  refine g_iconst (pc := 0) C dX8_addTo_0 (v := 0) rfl ?_
  refine g_istore (pc := 1) C dX8_addTo_1 (Nat.le_of_ble_eq_true rfl) (lo' := [(4, .int 0), (0, .ref (adr x a0)), (1, .int a1), (2, .ref (adr x a2)), (3, .int a3)]) rfl ?_
  obtain ⟨n11, h⟩ := h
  refine g_sub [1, 2, 3, 4, 0] rfl ?_
  refine t_X8_addTo_3 C hlk hr n11 _ _ _ _ _ _ h
theorem miX8_46 (C : xC x p s m c cc nL args RX8) {a0 : Nat} {a1 : Int32} {K : Int32 → Wd → Prop} {D MC MS : Nat} (hq : isK w a0 1) (h : w_X1_roundOf a0 a1 K w) (hD : 0 + 1 ≤ D) (hW : (st.map fun v => v.category).sum ≤ 8) (hij : i ≤ MC ∧ j ≤ MS) (hd : decode cc pc = .ok (.invokevirtual 46, 3)) (k : ∀ (r : Int32) (u : Wd), K r u → GW x p l e (rmd D MC MS) s m args below meth c nL Q (pc + 3) lo (.int r :: st) u i j) : GW x p l e (rmd D MC MS) s m args below meth c nL Q pc lo (.int a1 :: .ref (adr x a0) :: st) w i j := g_callVi0 C (As := [.int a1]) (ci := 1) (c_X1_roundOf h) (x_cwV C 1 LMX8_46 ⟨rfl, by decide, by decide, rfl⟩ hD (by decide)) rfl hq (by decide) rfl rfl hW hd hij k
theorem miX8_78 (C : xC x p s m c cc nL args RX8) {a0 : Nat} {a1 : Int32} {a2 : Nat} {a3 : Int32} {K : Wd → Prop} {D MC MS : Nat} (h : w_X8_addTo a0 a1 a2 a3 K w) (hD : 2 + 1 ≤ D) (hW : (st.map fun v => v.category).sum ≤ 8) (hij : i ≤ MC ∧ j ≤ MS) (hd : decode cc pc = .ok (.invokestatic 78, 3)) (k : ∀ (u : Wd), K u → GW x p l e (rmd D MC MS) s m args below meth c nL Q (pc + 3) lo st u i j) : GW x p l e (rmd D MC MS) s m args below meth c nL Q pc lo (.int a3 :: .ref (adr x a2) :: .int a1 :: .ref (adr x a0) :: st) w i j := g_callSv0 C (As := [.ref (adr x a0), .int a1, .ref (adr x a2), .int a3]) (c_X8_addTo h) (x_cwS C 4 LMX8_78 ⟨by decide, by decide, rfl⟩ hD (by decide)) rfl rfl hW hd hij k
def w_X8_addWell (a0 : Nat) (a1 : Nat) (a2 : Int32) (K : Wd → Prop) (w : Wd) : Prop :=
  isK w a1 2 ∧ isK w (wR w a1 0) 1 ∧ w_X1_roundOf (wR w a1 0) a2 (fun r3 w4 => isK w4 a0 8 ∧ isK w4 (wR w4 a0 1) 20 ∧ ((r3 = (Int32.ofNat (wn w4 (wR w4 a0 1))) → w_X8_addTo (wR w4 a0 1) (wI w4 a0 4) a1 a2 (fun w13 => K w13) w4) ∧ (¬ r3 = (Int32.ofNat (wn w4 (wR w4 a0 1))) → isK w4 (wR w4 a0 2) 20 ∧ ((r3 = (Int32.ofNat (wn w4 (wR w4 a0 2))) → w_X8_addTo (wR w4 a0 2) (wI w4 a0 5) a1 a2 (fun w12 => K w12) w4) ∧ (¬ r3 = (Int32.ofNat (wn w4 (wR w4 a0 2))) → isK w4 (wR w4 a0 0) 20 ∧ w_X8_addTo (wR w4 a0 0) (wI w4 a0 3) a1 a2 (fun w11 => K w11) w4))))) w
theorem c_X8_addWell {x : xG} {l : Launch} {a0 : Nat} {a1 : Nat} {a2 : Int32} {K : Wd → Prop} {w : Wd} (h : w_X8_addWell a0 a1 a2 K w) : Met l yX8_addWell (xws yX8_addWell cX8_addWell 4 none) (rmd 3 0 0) (xPc x [.ref (adr x a0), .ref (adr x a1), .int a2] w) (QcV x K) 0 0 (xA x) := by
  refine xMet (by decide) (Nat.le_of_ble_eq_true rfl) (fun p e s m below meth c C hlk hr _ => ?_)
  show GW x p l e (rmd 3 0 0) s m [.ref (adr x a0), .ref (adr x a1), .int a2].toArray below meth c 4 (QV x K below [.ref (adr x a0), .ref (adr x a1), .int a2].toArray s 0 0) 0 [(0, .ref (adr x a0)), (1, .ref (adr x a1)), (2, .int a2)] [] w 0 0
  refine g_aload_n (pc := 0) C dX8_addWell_0 (q := 1) rfl ?_
  obtain ⟨k1, h⟩ := h
  obtain ⟨k2, h⟩ := h
  refine gfX8_31 (pc := 1) C k1 (isK_ne k2) dX8_addWell_1 ?_
  refine g_iload_n (pc := 4) C dX8_addWell_4 (q := 2) rfl ?_
  refine miX8_46 (pc := 5) C k2 h (Nat.le_of_ble_eq_true rfl) (Nat.le_of_ble_eq_true rfl) ⟨Nat.le_refl _, Nat.le_refl _⟩ dX8_addWell_5 (fun r3 w4 h => ?_)
  refine g_istore_n (pc := 8) C dX8_addWell_8 (Nat.le_of_ble_eq_true rfl) (lo' := [(3, .int r3), (0, .ref (adr x a0)), (1, .ref (adr x a1)), (2, .int a2)]) rfl ?_
  refine g_iload_n (pc := 9) C dX8_addWell_9 (q := 0) rfl ?_
  refine g_aload_n (pc := 10) C dX8_addWell_10 (q := 1) rfl ?_
  obtain ⟨k5, h⟩ := h
  obtain ⟨k6, h⟩ := h
  refine gfX8_15 (pc := 11) C k5 (isK_ne k6) dX8_addWell_11 ?_
  refine g_alen (pc := 14) C k6 (by decide) dX8_addWell_14 ?_
  refine g_icmp_ne (pc := 15) C dX8_addWell_15 (tgt := 34) rfl (fun z7 => ?_) (fun z7 => ?_)
  · replace h := h.2 z7
    refine g_iload_n (pc := 34) C dX8_addWell_34 (q := 0) rfl ?_
    refine g_aload_n (pc := 35) C dX8_addWell_35 (q := 1) rfl ?_
    obtain ⟨k8, h⟩ := h
    refine gfX8_18 (pc := 36) C k5 (isK_ne k8) dX8_addWell_36 ?_
    refine g_alen (pc := 39) C k8 (by decide) dX8_addWell_39 ?_
    refine g_icmp_ne (pc := 40) C dX8_addWell_40 (tgt := 59) rfl (fun z9 => ?_) (fun z9 => ?_)
    · replace h := h.2 z9
      refine g_aload_n (pc := 59) C dX8_addWell_59 (q := 1) rfl ?_
      obtain ⟨k10, h⟩ := h
      refine gfX8_9 (pc := 60) C k5 (isK_ne k10) dX8_addWell_60 ?_
      refine g_aload_n (pc := 63) C dX8_addWell_63 (q := 1) rfl ?_
      refine gfX8_21 (pc := 64) C k5 dX8_addWell_64 ?_
      refine g_aload_n (pc := 67) C dX8_addWell_67 (q := 2) rfl ?_
      refine g_iload_n (pc := 68) C dX8_addWell_68 (q := 3) rfl ?_
      refine miX8_78 (pc := 69) C h (Nat.le_of_ble_eq_true rfl) (Nat.le_of_ble_eq_true rfl) ⟨Nat.le_refl _, Nat.le_refl _⟩ dX8_addWell_69 (fun w11 h => ?_)
      exact g_vret (pc := 72) C hlk hr (Nat.le_refl _) (Nat.le_refl _) dX8_addWell_72 h
    · replace h := h.1 z9
      refine g_aload_n (pc := 43) C dX8_addWell_43 (q := 1) rfl ?_
      refine gfX8_18 (pc := 44) C k5 (isK_ne k8) dX8_addWell_44 ?_
      refine g_aload_n (pc := 47) C dX8_addWell_47 (q := 1) rfl ?_
      refine gfX8_28 (pc := 48) C k5 dX8_addWell_48 ?_
      refine g_aload_n (pc := 51) C dX8_addWell_51 (q := 2) rfl ?_
      refine g_iload_n (pc := 52) C dX8_addWell_52 (q := 3) rfl ?_
      refine miX8_78 (pc := 53) C h (Nat.le_of_ble_eq_true rfl) (Nat.le_of_ble_eq_true rfl) ⟨Nat.le_refl _, Nat.le_refl _⟩ dX8_addWell_53 (fun w12 h => ?_)
      refine g_goto (pc := 56) C dX8_addWell_56 (tgt := 72) rfl ?_
      exact g_vret (pc := 72) C hlk hr (Nat.le_refl _) (Nat.le_refl _) dX8_addWell_72 h
  · replace h := h.1 z7
    refine g_aload_n (pc := 18) C dX8_addWell_18 (q := 1) rfl ?_
    refine gfX8_15 (pc := 19) C k5 (isK_ne k6) dX8_addWell_19 ?_
    refine g_aload_n (pc := 22) C dX8_addWell_22 (q := 1) rfl ?_
    refine gfX8_25 (pc := 23) C k5 dX8_addWell_23 ?_
    refine g_aload_n (pc := 26) C dX8_addWell_26 (q := 2) rfl ?_
    refine g_iload_n (pc := 27) C dX8_addWell_27 (q := 3) rfl ?_
    refine miX8_78 (pc := 28) C h (Nat.le_of_ble_eq_true rfl) (Nat.le_of_ble_eq_true rfl) ⟨Nat.le_refl _, Nat.le_refl _⟩ dX8_addWell_28 (fun w13 h => ?_)
    refine g_goto (pc := 31) C dX8_addWell_31 (tgt := 72) rfl ?_
    exact g_vret (pc := 72) C hlk hr (Nat.le_refl _) (Nat.le_refl _) dX8_addWell_72 h
def w_X8_turn (a0 : Nat) (a1 : Int32) (a2 : Int32) (K : Int32 → Wd → Prop) (w : Wd) : Prop :=
  ((a2 < 0 → K 0 w) ∧ (¬ a2 < 0 → ((a1 < 1 → K 0 w) ∧ (¬ a1 < 1 → (a0 = 1 ∨ isK w a0 20) ∧ ((a1 ≤ (Int32.ofNat (wn w a0)) → ¬ a1 = 0 ∧ isK w a0 20 ∧ vp_in (x_irem a2 a1) (wn w a0) ∧ K (wI w a0 (x_irem a2 a1).toNatClampNeg) w) ∧ (¬ a1 ≤ (Int32.ofNat (wn w a0)) → K 0 w))))))
theorem c_X8_turn {x : xG} {l : Launch} {a0 : Nat} {a1 : Int32} {a2 : Int32} {K : Int32 → Wd → Prop} {w : Wd} (h : w_X8_turn a0 a1 a2 K w) : Met l yX8_turn (xws yX8_turn cX8_turn 3 (some .int)) (rmd 0 0 0) (xPc x [.ref (adr x a0), .int a1, .int a2] w) (QcI x K) 0 0 (xA x) := by
  refine xMet (by decide) (Nat.le_of_ble_eq_true rfl) (fun p e s m below meth c C hlk hr _ => ?_)
  show GW x p l e (rmd 0 0 0) s m [.ref (adr x a0), .int a1, .int a2].toArray below meth c 3 (QI x K below [.ref (adr x a0), .int a1, .int a2].toArray s 0 0) 0 [(0, .ref (adr x a0)), (1, .int a1), (2, .int a2)] [] w 0 0
  refine g_iload_n (pc := 0) C dX8_turn_0 (q := 2) rfl ?_
  refine g_if_lt (pc := 1) C dX8_turn_1 (tgt := 15) rfl (fun z1 => ?_) (fun z1 => ?_)
  · replace h := h.1 z1
    refine g_iconst (pc := 15) C dX8_turn_15 (v := 0) rfl ?_
    refine g_goto (pc := 16) C dX8_turn_16 (tgt := 24) rfl ?_
    exact g_iret (pc := 24) C hlk hr (Nat.le_refl _) (Nat.le_refl _) dX8_turn_24 h
  · replace h := h.2 z1
    refine g_iload_n (pc := 4) C dX8_turn_4 (q := 1) rfl ?_
    refine g_iconst (pc := 5) C dX8_turn_5 (v := 1) rfl ?_
    refine g_icmp_lt (pc := 6) C dX8_turn_6 (tgt := 15) rfl (fun z2 => ?_) (fun z2 => ?_)
    · replace h := h.1 z2
      refine g_iconst (pc := 15) C dX8_turn_15 (v := 0) rfl ?_
      refine g_goto (pc := 16) C dX8_turn_16 (tgt := 24) rfl ?_
      exact g_iret (pc := 24) C hlk hr (Nat.le_refl _) (Nat.le_refl _) dX8_turn_24 h
    · replace h := h.2 z2
      refine g_iload_n (pc := 9) C dX8_turn_9 (q := 1) rfl ?_
      refine g_aload_n (pc := 10) C dX8_turn_10 (q := 0) rfl ?_
      obtain ⟨k3, h⟩ := h
      refine g_alenI (pc := 11) C k3 dX8_turn_11 ?_
      refine g_icmp_le (pc := 12) C dX8_turn_12 (tgt := 19) rfl (fun z4 => ?_) (fun z4 => ?_)
      · replace h := h.1 z4
        refine g_aload_n (pc := 19) C dX8_turn_19 (q := 0) rfl ?_
        refine g_iload_n (pc := 20) C dX8_turn_20 (q := 2) rfl ?_
        refine g_iload_n (pc := 21) C dX8_turn_21 (q := 1) rfl ?_
        obtain ⟨k5, h⟩ := h
        refine h_irem (pc := 22) C dX8_turn_22 k5 ?_
        obtain ⟨k6, h⟩ := h
        obtain ⟨k7, h⟩ := h
        refine g_iald (pc := 23) C k6 k7 dX8_turn_23 ?_
        exact g_iret (pc := 24) C hlk hr (Nat.le_refl _) (Nat.le_refl _) dX8_turn_24 h
      · replace h := h.2 z4
        refine g_iconst (pc := 15) C dX8_turn_15 (v := 0) rfl ?_
        refine g_goto (pc := 16) C dX8_turn_16 (tgt := 24) rfl ?_
        exact g_iret (pc := 24) C hlk hr (Nat.le_refl _) (Nat.le_refl _) dX8_turn_24 h
end ME
