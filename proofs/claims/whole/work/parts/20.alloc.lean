theorem LAint : Cond.arrayClass .int ∈ gT := gT_at 191 (by decide +kernel) rfl
theorem LAlong : Cond.arrayClass .long ∈ gT := gT_at 381 (by decide +kernel) rfl
theorem LAbyte : Cond.arrayClass .byte ∈ gT := gT_at 432 (by decide +kernel) rfl
theorem LAboolean : Cond.arrayClass .boolean ∈ gT := gT_at 1772 (by decide +kernel) rfl
theorem LOi : Cond.instanceMethod Lib.objectInit ∈ gT := gT_at 160 (by decide +kernel) rfl
theorem LOc : Cond.code Lib.objectInit ⟨#[0xb1]⟩ 1 none ∈ gT := gT_at 161 (by decide +kernel) rfl
theorem LOX0 : Cond.methodLink RX0 3 Lib.objectInit ∈ gT := gT_at 438 (by decide +kernel) rfl
theorem LOX1 : Cond.methodLink RX1 3 Lib.objectInit ∈ gT := gT_at 219 (by decide +kernel) rfl
theorem LOX2 : Cond.methodLink RX2 3 Lib.objectInit ∈ gT := gT_at 282 (by decide +kernel) rfl
theorem LOX3 : Cond.methodLink RX3 3 Lib.objectInit ∈ gT := gT_at 1245 (by decide +kernel) rfl
theorem LOX4 : Cond.methodLink RX4 3 Lib.objectInit ∈ gT := gT_at 313 (by decide +kernel) rfl
theorem LOX5 : Cond.methodLink RX5 3 Lib.objectInit ∈ gT := gT_at 337 (by decide +kernel) rfl
theorem LCLX5_22 : Cond.classLink RX5 22 "SnoringWells$Land" ∈ gT := gT_at 338 (by decide +kernel) rfl
theorem LINX2 : Cond.instantiable RX2 5 ∈ gT := gT_at 278 (by decide +kernel) rfl
theorem LIX2 : Cond.initialized RX2 ∈ gT := gT_at 131 (by decide +kernel) rfl
theorem LKX2_init : Cond.code yX2_init cX2_init 2 none ∈ gT := gT_at 281 (by decide +kernel) rfl
theorem LTX2_init : Cond.instanceMethod yX2_init ∈ gT := gT_at 280 (by decide +kernel) rfl
theorem LLX5_28 : Cond.methodLink RX5 28 yX2_init ∈ gT := gT_at 340 (by decide +kernel) rfl
theorem LOX6 : Cond.methodLink RX6 3 Lib.objectInit ∈ gT := gT_at 448 (by decide +kernel) rfl
theorem LOX7 : Cond.methodLink RX7 3 Lib.objectInit ∈ gT := gT_at 387 (by decide +kernel) rfl
theorem LCLX7_54 : Cond.classLink RX7 54 "SnoringWells$Hills" ∈ gT := gT_at 880 (by decide +kernel) rfl
theorem LINX1 : Cond.instantiable RX1 13 ∈ gT := gT_at 215 (by decide +kernel) rfl
theorem LTX1_init : Cond.instanceMethod yX1_init ∈ gT := gT_at 217 (by decide +kernel) rfl
theorem LOX8 : Cond.methodLink RX8 3 Lib.objectInit ∈ gT := gT_at 171 (by decide +kernel) rfl
theorem LOX9 : Cond.methodLink RX9 3 Lib.objectInit ∈ gT := gT_at 197 (by decide +kernel) rfl
theorem LOX10 : Cond.methodLink RX10 3 Lib.objectInit ∈ gT := gT_at 364 (by decide +kernel) rfl
theorem LOX11 : Cond.methodLink RX11 3 Lib.objectInit ∈ gT := gT_at 159 (by decide +kernel) rfl
theorem LCLX11_9 : Cond.classLink RX11 9 "SnoringWells$Page" ∈ gT := gT_at 162 (by decide +kernel) rfl
theorem LCLX11_15 : Cond.classLink RX11 15 "SnoringWells$Tray" ∈ gT := gT_at 164 (by decide +kernel) rfl
theorem LCLX11_21 : Cond.classLink RX11 21 "SnoringWells$Rounds" ∈ gT := gT_at 166 (by decide +kernel) rfl
theorem LINX8 : Cond.instantiable RX8 6 ∈ gT := gT_at 167 (by decide +kernel) rfl
theorem LTX8_init : Cond.instanceMethod yX8_init ∈ gT := gT_at 169 (by decide +kernel) rfl
theorem LCLX11_28 : Cond.classLink RX11 28 "SnoringWells$Snores" ∈ gT := gT_at 192 (by decide +kernel) rfl
theorem LINX9 : Cond.instantiable RX9 5 ∈ gT := gT_at 193 (by decide +kernel) rfl
theorem LTX9_init : Cond.instanceMethod yX9_init ∈ gT := gT_at 195 (by decide +kernel) rfl
theorem LCLX11_35 : Cond.classLink RX11 35 "SnoringWells$Hills" ∈ gT := gT_at 214 (by decide +kernel) rfl
theorem LCLX11_38 : Cond.classLink RX11 38 "SnoringWells$Land" ∈ gT := gT_at 277 (by decide +kernel) rfl
theorem LLX11_40 : Cond.methodLink RX11 40 yX2_init ∈ gT := gT_at 279 (by decide +kernel) rfl
theorem LCLX11_43 : Cond.classLink RX11 43 "SnoringWells$Noise" ∈ gT := gT_at 308 (by decide +kernel) rfl
theorem LINX4 : Cond.instantiable RX4 6 ∈ gT := gT_at 309 (by decide +kernel) rfl
theorem LIX4 : Cond.initialized RX4 ∈ gT := gT_at 132 (by decide +kernel) rfl
theorem LKX4_init : Cond.code yX4_init cX4_init 2 none ∈ gT := gT_at 312 (by decide +kernel) rfl
theorem LTX4_init : Cond.instanceMethod yX4_init ∈ gT := gT_at 311 (by decide +kernel) rfl
theorem LLX11_45 : Cond.methodLink RX11 45 yX4_init ∈ gT := gT_at 310 (by decide +kernel) rfl
theorem LINX5 : Cond.instantiable RX5 5 ∈ gT := gT_at 333 (by decide +kernel) rfl
theorem LIX5 : Cond.initialized RX5 ∈ gT := gT_at 133 (by decide +kernel) rfl
theorem LKX5_init : Cond.code yX5_init cX5_init 3 none ∈ gT := gT_at 336 (by decide +kernel) rfl
theorem LTX5_init : Cond.instanceMethod yX5_init ∈ gT := gT_at 335 (by decide +kernel) rfl
theorem LLX11_48 : Cond.methodLink RX11 48 yX5_init ∈ gT := gT_at 334 (by decide +kernel) rfl
theorem LINX10 : Cond.instantiable RX10 4 ∈ gT := gT_at 360 (by decide +kernel) rfl
theorem LTX10_init : Cond.instanceMethod yX10_init ∈ gT := gT_at 362 (by decide +kernel) rfl
theorem LCLX11_58 : Cond.classLink RX11 58 "SnoringWells$Reader" ∈ gT := gT_at 382 (by decide +kernel) rfl
theorem LINX7 : Cond.instantiable RX7 13 ∈ gT := gT_at 383 (by decide +kernel) rfl
theorem LIX7 : Cond.initialized RX7 ∈ gT := gT_at 135 (by decide +kernel) rfl
theorem LKX7_init : Cond.code yX7_init cX7_init 2 none ∈ gT := gT_at 386 (by decide +kernel) rfl
theorem LTX7_init : Cond.instanceMethod yX7_init ∈ gT := gT_at 385 (by decide +kernel) rfl
theorem LLX11_60 : Cond.methodLink RX11 60 yX7_init ∈ gT := gT_at 384 (by decide +kernel) rfl
theorem LCLX11_69 : Cond.classLink RX11 69 "SnoringWells$Deeds" ∈ gT := gT_at 433 (by decide +kernel) rfl
theorem LINX0 : Cond.instantiable RX0 1 ∈ gT := gT_at 434 (by decide +kernel) rfl
theorem LIX0 : Cond.initialized RX0 ∈ gT := gT_at 136 (by decide +kernel) rfl
theorem LKX0_init : Cond.code yX0_init cX0_init 2 none ∈ gT := gT_at 437 (by decide +kernel) rfl
theorem LTX0_init : Cond.instanceMethod yX0_init ∈ gT := gT_at 436 (by decide +kernel) rfl
theorem LLX11_71 : Cond.methodLink RX11 71 yX0_init ∈ gT := gT_at 435 (by decide +kernel) rfl
theorem LCLX11_78 : Cond.classLink RX11 78 "SnoringWells$Plans" ∈ gT := gT_at 443 (by decide +kernel) rfl
theorem LINX6 : Cond.instantiable RX6 4 ∈ gT := gT_at 444 (by decide +kernel) rfl
theorem LIX6 : Cond.initialized RX6 ∈ gT := gT_at 137 (by decide +kernel) rfl
theorem LKX6_init : Cond.code yX6_init cX6_init 3 none ∈ gT := gT_at 447 (by decide +kernel) rfl
theorem LTX6_init : Cond.instanceMethod yX6_init ∈ gT := gT_at 446 (by decide +kernel) rfl
theorem LLX11_80 : Cond.methodLink RX11 80 yX6_init ∈ gT := gT_at 445 (by decide +kernel) rfl
theorem LCLX11_234 : Cond.classLink RX11 234 "SnoringWells$Lots" ∈ gT := gT_at 1240 (by decide +kernel) rfl
theorem LINX3 : Cond.instantiable RX3 1 ∈ gT := gT_at 1241 (by decide +kernel) rfl
theorem LIX3 : Cond.initialized RX3 ∈ gT := gT_at 151 (by decide +kernel) rfl
theorem LKX3_init : Cond.code yX3_init cX3_init 2 none ∈ gT := gT_at 1244 (by decide +kernel) rfl
theorem LTX3_init : Cond.instanceMethod yX3_init ∈ gT := gT_at 1243 (by decide +kernel) rfl
theorem LLX11_236 : Cond.methodLink RX11 236 yX3_init ∈ gT := gT_at 1242 (by decide +kernel) rfl
theorem LCLX11_372 : Cond.classLink RX11 372 "java/lang/IndexOutOfBoundsException" ∈ gT := gT_at 1622 (by decide +kernel) rfl
theorem LCLX11_397 : Cond.classLink RX11 397 "java/lang/IllegalStateException" ∈ gT := gT_at 1184 (by decide +kernel) rfl
theorem LCLX11_418 : Cond.classLink RX11 418 "java/util/NoSuchElementException" ∈ gT := gT_at 1107 (by decide +kernel) rfl
theorem LCLX11_425 : Cond.classLink RX11 425 "java/lang/IllegalArgumentException" ∈ gT := gT_at 808 (by decide +kernel) rfl
theorem LOX12 : Cond.methodLink RX12 1 Lib.objectInit ∈ gT := gT_at 1683 (by decide +kernel) rfl
theorem LCLL_8 : Cond.classLink RL 8 "SnoringWells" ∈ gT := gT_at 154 (by decide +kernel) rfl
theorem LINX11 : Cond.instantiable RX11 10 ∈ gT := gT_at 155 (by decide +kernel) rfl
theorem LKX11_init : Cond.code yX11_init cX11_init 5 none ∈ gT := gT_at 158 (by decide +kernel) rfl
theorem LTX11_init : Cond.instanceMethod yX11_init ∈ gT := gT_at 157 (by decide +kernel) rfl
theorem LLL_144 : Cond.methodLink RL 144 yX11_init ∈ gT := gT_at 156 (by decide +kernel) rfl
theorem LCLL_145 : Cond.classLink RL 145 "SnoringWellsModel" ∈ gT := gT_at 1678 (by decide +kernel) rfl
theorem LINX12 : Cond.instantiable RX12 29 ∈ gT := gT_at 1679 (by decide +kernel) rfl
theorem LIX12 : Cond.initialized RX12 ∈ gT := gT_at 138 (by decide +kernel) rfl
theorem LKX12_init : Cond.code yX12_init cX12_init 1 none ∈ gT := gT_at 1682 (by decide +kernel) rfl
theorem LTX12_init : Cond.instanceMethod yX12_init ∈ gT := gT_at 1681 (by decide +kernel) rfl
theorem LLL_147 : Cond.methodLink RL 147 yX12_init ∈ gT := gT_at 1680 (by decide +kernel) rfl
/-! making cells; throwing -/
theorem xh.top {x : xG} {w : Wd} {H : Heap} (h : xh x w H) : adr x (wN w) = H.size := by
  rw [adr_w h.1]
  have h1 := h.2.1
  have h2 := h.1
  omega
theorem wA_K {w : Wd} {kd ln r : Nat} (h : r ≠ wN w) : wK (wA w kd ln) r = wK w r := va_up_ne _ _ h
theorem wA_n {w : Wd} {kd ln r : Nat} (h : r ≠ wN w) : wn (wA w kd ln) r = wn w r := va_up_ne _ _ h
theorem wA_I {w : Wd} {kd ln r : Nat} (h : r ≠ wN w) : wI (wA w kd ln) r = wI w r := va_up_ne _ _ h
theorem wA_L {w : Wd} {kd ln r : Nat} (h : r ≠ wN w) : wL (wA w kd ln) r = wL w r := va_up_ne _ _ h
theorem wA_R {w : Wd} {kd ln r : Nat} (h : r ≠ wN w) : wR (wA w kd ln) r = wR w r := va_up_ne _ _ h
theorem wA_K0 {w : Wd} {kd ln : Nat} : wK (wA w kd ln) (wN w) = kd := va_up_self _ _ _
theorem wA_n0 {w : Wd} {kd ln : Nat} : wn (wA w kd ln) (wN w) = ln := va_up_self _ _ _
theorem wA_I0 {w : Wd} {kd ln : Nat} : wI (wA w kd ln) (wN w) = fun _ => 0 := va_up_self _ _ _
theorem wA_L0 {w : Wd} {kd ln : Nat} : wL (wA w kd ln) (wN w) = fun _ => 0 := va_up_self _ _ _
theorem wA_R0 {w : Wd} {kd ln : Nat} : wR (wA w kd ln) (wN w) = fun _ => 0 := va_up_self _ _ _
theorem wA_is0 {w : Wd} {kd ln : Nat} (h : 64 ≤ wN w) : isK (wA w kd ln) (wN w) kd := ⟨h, Nat.lt_succ_self _, wA_K0⟩
theorem wA_is {w : Wd} {kd ln r k : Nat} (h : isK w r k) : isK (wA w kd ln) r k := ⟨h.1, Nat.lt_succ_of_lt h.2.1, by rw [wA_K (Nat.ne_of_lt h.2.1)]; exact h.2.2⟩
theorem xh.push {x : xG} {w : Wd} {H H1 : Heap} {kd ln : Nat} (h : xh x w H) (z : H1.size = H.size + 1) (o : ∀ q : Nat, q < H.size → H1[q]? = H[q]?) (e : va_at x.1 classes (adr x (wN w), enc x (wA w kd ln) (wN w)) H1) : xh x (wA w kd ln) H1 := by
  have h1 := h.1
  have h2 := h.2.1
  refine ⟨Nat.le_succ_of_le h1, by show H1.size + 64 = x.2.2.1 + (wN w + 1); omega, by rw [wA_n (by omega)]; exact h.2.2.1, fun r a1 a2 a3 => ?_⟩
  by_cases hr : r = wN w
  · subst hr; exact e
  · have hlt : r < wN w := by have h3 : r < wN w + 1 := a2; omega
    have e5 : enc x (wA w kd ln) r = enc x w r := by unfold enc; rw [wA_K hr, wA_n hr, wA_I hr, wA_L hr, wA_R hr]
    rw [wA_K hr] at a3
    have h4 := h.2.2.2 r a1 hlt a3
    rw [e5]
    exact h4.kept (o _ h4.lt)
def dv (c : Nat) : Value := if c = 0 then .int 0 else if c = 1 then .long 0 else .null
theorem fl0 {x : xG} {cs : List Nat} {n : Nat} {ty0 : Nat → FieldType} (hlen : cs.length = n) (h : ∀ k, k < n → defaultValue (ty0 k) = dv (cs.getD k 0)) : ∀ k, k < n → defaultValue (ty0 k) = vp_V (fl x (fun _ => 0) (fun _ => 0) (fun _ => 0) cs) k := by
  intro k hk
  rw [h k hk]
  have hc : cs[k]? = some (cs.getD k 0) := by rw [List.getD_eq_getElem?_getD, List.getElem?_eq_getElem (by omega)]; rfl
  have e : (fl x (fun _ => 0) (fun _ => 0) (fun _ => 0) cs).getD k Value.null = fv x (fun _ => 0) (fun _ => 0) (fun _ => 0) (cs.getD k 0) k := by
    rw [List.getD_eq_getElem?_getD, fl_get hc]
    rfl
  unfold vp_V
  rw [e]
  unfold dv fv
  split
  · rfl
  · split <;> rfl
section AL
variable {x : xG} {p : Program} {l : Launch} {e : Env} {R : Room} {s : State} {m : MethodId} {args : Array Value} {below : List Frame} {meth : Method} {c : Code} {Q : State → Prop} {cc : ByteArray} {nL : Nat} {own : String} {pc : Nat} {lo lo' : List (Nat × Value)} {st : List Value} {w : Wd} {i j : Nat}
theorem g_new (C : xC x p s m c cc nL args own) {C2 : String} {T : u_T} {n ci index : Nat} (ty0 : Nat → FieldType) (hc : classes[ci]? = some (C2, T, n)) (hci : ci < 13) (hin : ∀ w ∈ u_ws C2 T n, w ∈ gT) (hty : ∀ k, k < n → parseFieldDescriptor (T k).2.2.1 = some (ty0 k)) (hl : Cond.classLink own index C2 ∈ gT) (hinst : Cond.instantiable C2 n ∈ gT) (hini : Cond.initialized C2 ∈ gT) (hlen : (kc.getD ci []).length = n) (hdv : ∀ k, k < n → defaultValue (ty0 k) = dv ((kc.getD ci []).getD k 0)) (hb : i + 1 ≤ R.cells ∧ j + n ≤ R.slots) (hd : decode cc pc = .ok (.new index, 3)) (k : ∀ (r : Nat) (u : Wd), r = wN w → u = wA w ci 0 → GW x p l e R s m args below meth c nL Q (pc + 3) lo (.ref (adr x r) :: st) u (i + 1) (j + n)) : GW x p l e R s m args below meth c nL Q pc lo st w i j := by
  intro H locs ls h1 h2 h3
  have hKn := C.2.1.1 ci _ hc
  have hts := C.1.2.2.2.2
  refine W.newcK C.1.1 C.1.2.1 C.1.2.2.2.1 (hts _ hl) (hts _ hinst) (hts _ hini) rfl hd hb.1 hb.2 hKn.2.1 rfl fun H1 kC hkC e1 z1 o1 => ?_
  have ha := h1.top
  have h9 := k _ _ rfl rfl H1 locs ls (h1.push z1 o1 (by
    rw [enc_obj (wA_is0 h1.1) hci, wA_I0, wA_L0, wA_R0, ha]
    exact ⟨_, hc, (u_born ty0 hts hin hKn hkC e1 hty).to (fl0 hlen hdv)⟩)) ⟨Nat.le_trans h2.1 (by omega), fun q a1 a2 => (o1 q (Nat.lt_of_lt_of_le a1 h2.1)).trans (h2.2.1 q a1 a2), h2.2.2⟩ h3
  rw [ha] at h9
  exact h9
theorem g_newI (C : xC x p s m c cc nL args own) {a : Int32} {n : Nat} (hN : a.toNatClampNeg = n) (hw : Cond.arrayClass .int ∈ gT) (hn : ¬ a < 0) (hs : n ≤ 100000) (hb : i + 1 ≤ R.cells ∧ j + n ≤ R.slots) (hd : decode cc pc = .ok (.newarray .int, 2)) (k : ∀ (r : Nat) (u : Wd), r = wN w → u = wA w 20 n → GW x p l e R s m args below meth c nL Q (pc + 2) lo (.ref (adr x r) :: st) u (i + 1) (j + n)) : GW x p l e R s m args below meth c nL Q pc lo (.int a :: st) w i j := by
  subst hN
  intro H locs ls h1 h2 h3
  refine va_newaK C.1.1 C.1.2.1 (atype := .int) (C.1.2.2.2.2 _ hw) rfl hd rfl hn rfl (by show _ * 4 ≤ _; omega) hb.1 hb.2 rfl fun H1 cA e1 z1 o1 hAr hNm => ?_
  have hcA : cA = x.2.1 0 := Option.some.inj (hNm.symm.trans (C.2.1.2 0 _ rfl).2)
  subst hcA
  have ha := h1.top
  have h9 := k _ _ rfl rfl H1 locs ls (h1.push z1 o1 (by
    rw [enc0 (wA_is0 h1.1), wA_I0, wA_n0, ha]
    show H1[H.size]? = some (vp_cell _ _)
    rw [vp_cell_i]
    exact e1)) ⟨Nat.le_trans h2.1 (by omega), fun q a1 a2 => (o1 q (Nat.lt_of_lt_of_le a1 h2.1)).trans (h2.2.1 q a1 a2), h2.2.2⟩ h3
  rw [ha] at h9
  exact h9
theorem g_newL (C : xC x p s m c cc nL args own) {a : Int32} {n : Nat} (hN : a.toNatClampNeg = n) (hw : Cond.arrayClass .long ∈ gT) (hn : ¬ a < 0) (hs : n ≤ 100000) (hb : i + 1 ≤ R.cells ∧ j + n ≤ R.slots) (hd : decode cc pc = .ok (.newarray .long, 2)) (k : ∀ (r : Nat) (u : Wd), r = wN w → u = wA w 21 n → GW x p l e R s m args below meth c nL Q (pc + 2) lo (.ref (adr x r) :: st) u (i + 1) (j + n)) : GW x p l e R s m args below meth c nL Q pc lo (.int a :: st) w i j := by
  subst hN
  intro H locs ls h1 h2 h3
  refine va_newaK C.1.1 C.1.2.1 (atype := .long) (C.1.2.2.2.2 _ hw) rfl hd rfl hn rfl (by show _ * 8 ≤ _; omega) hb.1 hb.2 rfl fun H1 cA e1 z1 o1 hAr hNm => ?_
  have hcA : cA = x.2.1 1 := Option.some.inj (hNm.symm.trans (C.2.1.2 1 _ rfl).2)
  subst hcA
  have ha := h1.top
  have h9 := k _ _ rfl rfl H1 locs ls (h1.push z1 o1 (by
    rw [enc1 (wA_is0 h1.1), wA_L0, wA_n0, ha]
    show H1[H.size]? = some (vp_cell _ _)
    rw [vp_cell_l]
    exact e1)) ⟨Nat.le_trans h2.1 (by omega), fun q a1 a2 => (o1 q (Nat.lt_of_lt_of_le a1 h2.1)).trans (h2.2.1 q a1 a2), h2.2.2⟩ h3
  rw [ha] at h9
  exact h9
theorem g_newB (C : xC x p s m c cc nL args own) {a : Int32} {n : Nat} (hN : a.toNatClampNeg = n) (hw : Cond.arrayClass .byte ∈ gT) (hn : ¬ a < 0) (hs : n ≤ 100000) (hb : i + 1 ≤ R.cells ∧ j + n ≤ R.slots) (hd : decode cc pc = .ok (.newarray .byte, 2)) (k : ∀ (r : Nat) (u : Wd), r = wN w → u = wA w 22 n → GW x p l e R s m args below meth c nL Q (pc + 2) lo (.ref (adr x r) :: st) u (i + 1) (j + n)) : GW x p l e R s m args below meth c nL Q pc lo (.int a :: st) w i j := by
  subst hN
  intro H locs ls h1 h2 h3
  refine va_newaK C.1.1 C.1.2.1 (atype := .byte) (C.1.2.2.2.2 _ hw) rfl hd rfl hn rfl (by show _ * 1 ≤ _; omega) hb.1 hb.2 rfl fun H1 cA e1 z1 o1 hAr hNm => ?_
  have hcA : cA = x.2.1 2 := Option.some.inj (hNm.symm.trans (C.2.1.2 2 _ rfl).2)
  subst hcA
  have ha := h1.top
  have h9 := k _ _ rfl rfl H1 locs ls (h1.push z1 o1 (by
    rw [enc2 (wA_is0 h1.1), wA_I0, wA_n0, ha]
    show H1[H.size]? = some (vp_cell _ _)
    rw [vp_cell_i]
    exact e1)) ⟨Nat.le_trans h2.1 (by omega), fun q a1 a2 => (o1 q (Nat.lt_of_lt_of_le a1 h2.1)).trans (h2.2.1 q a1 a2), h2.2.2⟩ h3
  rw [ha] at h9
  exact h9
theorem g_newZ (C : xC x p s m c cc nL args own) {a : Int32} {n : Nat} (hN : a.toNatClampNeg = n) (hw : Cond.arrayClass .boolean ∈ gT) (hn : ¬ a < 0) (hs : n ≤ 100000) (hb : i + 1 ≤ R.cells ∧ j + n ≤ R.slots) (hd : decode cc pc = .ok (.newarray .boolean, 2)) (k : ∀ (r : Nat) (u : Wd), r = wN w → u = wA w 23 n → GW x p l e R s m args below meth c nL Q (pc + 2) lo (.ref (adr x r) :: st) u (i + 1) (j + n)) : GW x p l e R s m args below meth c nL Q pc lo (.int a :: st) w i j := by
  subst hN
  intro H locs ls h1 h2 h3
  refine va_newaK C.1.1 C.1.2.1 (atype := .boolean) (C.1.2.2.2.2 _ hw) rfl hd rfl hn rfl (by show _ * 1 ≤ _; omega) hb.1 hb.2 rfl fun H1 cA e1 z1 o1 hAr hNm => ?_
  have hcA : cA = x.2.1 3 := Option.some.inj (hNm.symm.trans (C.2.1.2 3 _ rfl).2)
  subst hcA
  have ha := h1.top
  have h9 := k _ _ rfl rfl H1 locs ls (h1.push z1 o1 (by
    rw [enc3 (wA_is0 h1.1), wA_I0, wA_n0, ha]
    show H1[H.size]? = some (vp_cell _ _)
    rw [vp_cell_i]
    exact e1)) ⟨Nat.le_trans h2.1 (by omega), fun q a1 a2 => (o1 q (Nat.lt_of_lt_of_le a1 h2.1)).trans (h2.2.1 q a1 a2), h2.2.2⟩ h3
  rw [ha] at h9
  exact h9
theorem g_newq (C : xC x p s m c cc nL args own) {a : Int32} {n : Nat} (hN : a.toNatClampNeg = n) {t index : Nat} {Cn : String} (ht : 4 ≤ t) (hty : (xtys x.2.1)[t]? = some (x.2.1 t, .object Cn)) (hao : Cn ∈ aoW) (hw : Cond.classLink own index Cn ∈ gT) (hn : ¬ a < 0) (hs : n ≤ 100000) (hb : i + 1 ≤ R.cells ∧ j + n ≤ R.slots) (hd : decode cc pc = .ok (.anewarray index, 3)) (k : ∀ (r : Nat) (u : Wd), r = wN w → u = wA w (20 + t) n → GW x p l e R s m args below meth c nL Q (pc + 3) lo (.ref (adr x r) :: st) u (i + 1) (j + n)) : GW x p l e R s m args below meth c nL Q pc lo (.int a :: st) w i j := by
  subst hN
  intro H locs ls h1 h2 h3
  refine W.anew C.1.1 C.1.2.1 C.1.2.2.2.1 (C.1.2.2.2.2 _ hw) (va_AO.use (C.2.2.1.2.2.2.2.2.2.2.2.2.1 _ hao)) rfl hd rfl hn (by omega) hb.1 hb.2 fun cA kA comp f1 f2 f3 f4 => ?_
  generalize hH1 : H.push ({ cls := cA, slots := Array.replicate a.toNatClampNeg .null, vm := .none } : Cell) = H1
  have z1 : H1.size = H.size + 1 := by rw [← hH1, Array.size_push]
  have e1 : H1[H.size]? = some (arrV cA a.toNatClampNeg (fun _ => .null)) := by rw [← hH1, Array.getElem?_push_size, ← arrV_new]
  have o1 : ∀ q : Nat, q < H.size → H1[q]? = H[q]? := fun q hq => by rw [← hH1, Array.getElem?_push, if_neg (Nat.ne_of_lt hq)]
  obtain ⟨kA2, comp2, g1, g2, g3, g4⟩ := (C.2.1.2 t _ hty).2
  have hcA : cA = x.2.1 t := Option.some.inj (f1.symm.trans g4)
  subst hcA
  have ha := h1.top
  have h9 := k _ _ rfl rfl H1 locs ls (h1.push z1 o1 (by
    rw [encq (wA_is0 h1.1) ht, wA_R0, wA_n0, ha]
    show H1[H.size]? = some (vp_cell _ _)
    rw [vp_cell_q]
    exact e1)) ⟨Nat.le_trans h2.1 (by omega), fun q a1 a2 => (o1 q (Nat.lt_of_lt_of_le a1 h2.1)).trans (h2.2.1 q a1 a2), h2.2.2⟩ h3
  rw [ha] at h9
  exact h9
theorem g_aast (C : xC x p s m c cc nL args own) {r v t ci : Nat} {a : Int32} {q9 : vw_C} (hq : isK w r (20 + t)) (ht : 4 ≤ t) (ht2 : t < 7) (hty : (xtys x.2.1)[t]? = some (x.2.1 t, .object q9.1)) (hv : isK w v ci) (hci : ci < 13) (hc : classes[ci]? = some q9) (ha : vp_in a (wn w r)) (hd : decode cc pc = .ok (.aastore, 1)) (k : GW x p l e R s m args below meth c nL Q (pc + 1) lo st (uR w r a.toNatClampNeg v) i j) : GW x p l e R s m args below meth c nL Q pc lo (.ref (adr x v) :: .int a :: .ref (adr x r) :: st) w i j := by
  intro H locs ls h1 h2 h3
  have hP := h1.arrq hq ht ht2
  have hPv := h1.obj hv hci
  have hlt : a.toNatClampNeg < wn w r := Nat.not_le.mp fun q => ha (Or.inr q)
  have h0 : ¬ a < 0 := fun q => ha (Or.inl q)
  obtain ⟨r', hr', cellV, g1, g2, g3, -⟩ := hPv 0 _ rfl
  have hcls := (C.2.1.1 ci q9 hc).2
  obtain ⟨kA, comp, k1, k2, k3, -⟩ := (C.2.1.2 t _ hty).2
  have hcomp : comp = x.1.1 ci := Option.some.inj (k3.symm.trans hcls.1)
  subst hcomp
  obtain ⟨kC, hkC, -⟩ := hcls.2
  refine W.aast C.1.1 C.1.2.1 (hP 0 _ rfl) (fun q h => by cases h) (fun h => by cases h) k1 k2 rfl hkC ⟨h0, by show _ < (arrV _ _ _).slots.size; rw [arrV_size]; exact hlt⟩ g1 (fun q h => by rw [g3] at h; cases h) (by rw [g2]; exact hkC) (by rw [g2]; exact va_assign hcls) rfl rfl hd fun H1 e z oq => ?_
  refine k H1 _ ls (h1.putR hq (by omega) z ?_ oq) (h2.put z oq (adr_in hq)) h3
  rw [encq_uR hq ht]
  show H1[adr x r]? = some (vp_cell _ _)
  rw [e]
  rw [vp_cell_q, vp_cell_q, arrV_store]
  congr 2
  funext q
  by_cases hq2 : q = a.toNatClampNeg
  · subst hq2
    simp [updV, va_up, va_rf, eO, isK_ne hv]
  · simp [updV, va_up, hq2]
theorem g_objI (C : xC x p s m c cc nL args own) {a : Nat} {idx : Nat} (hl : Cond.methodLink own idx Lib.objectInit ∈ gT) (hin : Cond.instanceMethod Lib.objectInit ∈ gT) (hcode : Cond.code Lib.objectInit ⟨#[0xb1]⟩ 1 none ∈ gT) (hd : decode cc pc = .ok (.invokespecial idx, 3)) (hf : 1 ≤ R.frames) (hloc : (st.map fun v => v.category).sum + 12 ≤ R.locals) (k : GW x p l e R s m args below meth c nL Q (pc + 3) lo st w i j) : GW x p l e R s m args below meth c nL Q pc lo (.ref a :: st) w i j := fun H locs ls h1 h2 h3 => W.objInit C.1.1 C.1.2.1 C.1.2.2.2.1 (C.1.2.2.2.2 _ hl) (C.1.2.2.2.2 _ hin) (C.1.2.2.2.2 _ hcode) rfl (h3.1.trans C.1.2.2.1.symm) rfl hd hf (by show 2 * 0 + _ + 12 ≤ _; omega) (k H locs ls h1 h2 h3)
theorem x_cwI {y : MethodName} {bytes : ByteArray} {maxL mc ms d D index : Nat} {MC MS : Nat} (C : xC x p s m c cc nL args own) (n : Nat) (hT : Cond.code y bytes maxL none ∈ gT) (hl : Cond.methodLink own index y ∈ gT) (hin : Cond.instanceMethod y ∈ gT) (hini : Cond.initialized y.cls ∈ gT) (hy1 : y.name = "<init>") (hd : y.cls ≠ "java/lang/invoke/MethodHandle" ∧ y.cls ≠ "java/lang/invoke/VarHandle" ∧ (parseMethodDescriptor y.desc).map (fun d => d.parameters.length) = some n) (h1 : d + 1 ≤ D) (h2 : maxL ≤ 45) : CallB (rmd D MC MS) s args own index y bytes maxL none (xws y bytes maxL none) (rmd d mc ms) mc ms n ∧ y.name = "<init>" ∧ (Cond.instanceMethod y).before args s = true :=
  cwI n C.1.2.2.2.2 (xws_in hT) rfl rfl rfl (C.1.2.2.2.2 _ hini) (C.1.2.2.2.2 _ hl) (C.1.2.2.2.2 _ hin) hy1 hd ⟨h1, by show 8 + (maxL + 11) + 64 * d ≤ 64 * D; omega⟩
theorem x_cwIN {y : MethodName} {bytes : ByteArray} {maxL mc ms d D index : Nat} {MC MS : Nat} {host : String} (C : xC x p s m c cc nL args own) (n : Nat) (hT : Cond.code y bytes maxL none ∈ gT) (hl : Cond.methodLinkNest own index y host ∈ nestW) (hin : Cond.instanceMethod y ∈ gT) (hini : Cond.initialized y.cls ∈ gT) (hy1 : y.name = "<init>") (hd : y.cls ≠ "java/lang/invoke/MethodHandle" ∧ y.cls ≠ "java/lang/invoke/VarHandle" ∧ (parseMethodDescriptor y.desc).map (fun d => d.parameters.length) = some n) (h1 : d + 1 ≤ D) (h2 : maxL ≤ 45) : va_CN (rmd D MC MS) s args own index y host bytes maxL none (xws y bytes maxL none) (rmd d mc ms) mc ms n ∧ y.name = "<init>" ∧ (Cond.instanceMethod y).before args s = true :=
  ⟨va_cnB n C.1.2.2.2.2 (xws_in hT) rfl rfl rfl (C.2.2.1.2.2.2.2.2.1 _ hl) (C.1.2.2.2.2 _ hini) hd ⟨h1, by show 8 + (maxL + 11) + 64 * d ≤ 64 * D; omega⟩, hy1, C.1.2.2.2.2 _ hin⟩
theorem g_getsR (C : xC x p s m c cc nL args own) {index : Nat} {host : String} (hl : Cond.fieldLinkNest own index "SnoringWells" "NO_LAW" "[I" host ∈ nestW) (hd : decode cc pc = .ok (.getstatic index, 3)) (k : GW x p l e R s m args below meth c nL Q (pc + 3) lo (.ref (adr x 1) :: st) w i j) : GW x p l e R s m args below meth c nL Q pc lo st w i j := fun H locs ls h1 h2 h3 => va_getsN C.1.1 C.1.2.1 C.2.2.1.2.2.1 h2 C.1.2.2.2.1 (va_Nw.use rfl (C.2.2.1.2.2.2.2.2.1 _ hl)) (fun _ hz => hz) hd (k H locs ls h1 h2 h3)
/-- the world behind a throw: cells of which nothing is known -/
def wJ (w : Wd) (N : Nat) : Wd := (N, fun r => if wN w ≤ r then 99 else wK w r, w.2.2)
theorem xh.junk {x : xG} {w : Wd} {H H1 : Heap} (h : xh x w H) (z : H.size ≤ H1.size) (o : ∀ q : Nat, q < H.size → H1[q]? = H[q]?) : wN w ≤ wN w + (H1.size - H.size) ∧ xh x (wJ w (wN w + (H1.size - H.size))) H1 := by
  have h1 := h.1
  have h2 := h.2.1
  refine ⟨Nat.le_add_right _ _, ⟨by show 64 ≤ wN w + _; omega, by show H1.size + 64 = x.2.2.1 + (wN w + (H1.size - H.size)); omega, h.2.2.1, fun r a1 a2 a3 => ?_⟩⟩
  have hlt : r < wN w := by
    by_cases hr : wN w ≤ r
    · exact absurd (show wK (wJ w _) r = 99 from if_pos hr) a3
    · omega
  have hk : wK (wJ w (wN w + (H1.size - H.size))) r = wK w r := if_neg (by omega)
  rw [hk] at a3
  have h4 := h.2.2.2 r a1 hlt a3
  have e5 : enc x (wJ w (wN w + (H1.size - H.size))) r = enc x w r := by unfold enc; rw [hk]; rfl
  rw [e5]
  exact h4.kept (o _ h4.lt)
/-- what a method that may throw says of its throw -/
abbrev XCx (x : xG) (X : String → Wd → Prop) : String → State → State → Prop := vx_X (S := String × Wd) (fun u => X u.1 u.2) (fun E u t => E = u.1 ∧ xh x u.2 t.heap) (xA x)
theorem gx_ret {Qc : Array Value → State → Outcome → State → Prop} {X : String → Wd → Prop} {mc ms : Nat} (k : GW x p l e R s m args below meth c nL (MQ below Qc args s mc ms (xA x)) pc lo st w i j) : GW x p l e R s m args below meth c nL (vx_MQ below Qc (XCx x X) args s mc ms (xA x)) pc lo st w i j := fun H locs ls h1 h2 h3 => vx_ret (k H locs ls h1 h2 h3)
theorem xMetX {y : MethodName} {n d mc ms : Nat} {ret : Option FieldType} {As : List Value} {Qc : Array Value → State → Outcome → State → Prop} {X : String → Wd → Prop} (hy : plainName y.cls = true) (hn : (lg_sl As).length ≤ n)
    (body : ∀ (p : Program) (e : Env) (s : State) (m : MethodId) (below : List Frame) (meth : Method) (c : Code), xC x p s m c cc n As.toArray y.cls → meth.locks = false → meth.sig.returnType = ret → (∀ z ∈ c.exceptionTable.toList, False) → GW x p l e (rmd d mc ms) s m As.toArray below meth c n (vx_MQ below Qc (XCx x X) As.toArray s mc ms (xA x)) 0 (lv_args 0 As) [] w 0 0) :
    vx_Met l y (xws y cc n ret) (rmd d mc ms) (xPc x As w) Qc (XCx x X) mc ms (xA x) := by
  refine vx_ofW (cc := cc) (maxL := n) (ret := ret) hy rfl ?_
  intro p e s m args below meth c s₁ B hml ht hv
  obtain ⟨rfl, h1, h2, h3⟩ := hv
  have hts := atoms_spec (ws := xws y cc n ret) B.pre
  have hown : s.vm.findClass y.cls = some m.cls := findClass_of_methodNamed B.named
  have hl := lv_entry As (n := n) hn
  rw [lg_entry_eq]
  exact body p e s m below meth c ⟨⟨B.exec, B.bytes, hml, hown, fun w hw => hts w (List.mem_cons_of_mem _ hw)⟩, h2, h3, by have := h1.1; have := h1.2.1; omega⟩ B.notSynchronized B.returns ht s.heap [] _ h1 va_S.rf hl
/-- a throw of a new exception with a text (wide or narrow index) -/
theorem gx_thr (C : xC x p s m c cc nL args own) {Qc : Array Value → State → Outcome → State → Prop} {X : String → Wd → Prop} {cls text : String} {ik is ic q k0 D mc ms MC MS : Nat} (hl : l.stackTraces = false) (htab : ∀ z ∈ c.exceptionTable.toList, False) (hlk : meth.locks = false) (hcls : Bundle.fit cls = true) (hk : Cond.classLink own ik cls ∈ gT) (hini : Cond.initialized cls ∈ gT) (hq : strT[q]? = some (own, is, text, k0)) (hat : ∀ w ∈ vx_atS own ic cls ["java/lang/RuntimeException", "java/lang/Exception"], w ∈ gT ∨ w ∈ offW)
    (hgood : ∀ w ∈ Cond.classLink own ik cls :: Cond.initialized cls :: vx_atS own ic cls ["java/lang/RuntimeException", "java/lang/Exception"], vx_ot w = true)
    (d0 : decode cc pc = .ok (.new ik, 3)) (d3 : decode cc (pc + 3) = .ok (.dup, 1)) (d4 : (decode cc (pc + 4) = .ok (.ldc is, 2) ∧ decode cc (pc + 6) = .ok (.invokespecial ic, 3) ∧ decode cc (pc + 9) = .ok (.athrow, 1)) ∨ (decode cc (pc + 4) = .ok (.ldc_w is, 3) ∧ decode cc (pc + 7) = .ok (.invokespecial ic, 3) ∧ decode cc (pc + 10) = .ok (.athrow, 1)))
    (hD : 6 ≤ D) (hst : (st.map fun v => v.category).sum ≤ 8) (hb : i + 1 ≤ MC ∧ j + 6 ≤ MS) (hb2 : MC ≤ mc ∧ MS ≤ ms) (hX : ∀ N, wN w ≤ N → X cls (wJ w N)) : GW x p l e (rmd D MC MS) s m args below meth c nL (vx_MQ below Qc (XCx x X) args s mc ms (xA x)) pc lo st w i j := by
  intro H locs ls h1 h2 h3
  have hat2 : ∀ w ∈ vx_atS own ic cls ["java/lang/RuntimeException", "java/lang/Exception"], w.before args s = true := fun w hw => by
    rcases hat w hw with h | h
    · exact C.1.2.2.2.2 _ h
    · have h5 := C.2.2.1.2.2.2.2.2.2.2.2.2.2.1 _ h
      rcases offW_kind w h with ⟨a1, a2, rfl⟩ | ⟨a1, rfl⟩
      · exact va_Nw.use rfl h5
      · exact va_Nw.use rfl h5
  have hx : ∀ t : State, s.vm.Alike t.vm → H.size ≤ t.heap.size → (∀ q : Nat, q < H.size → t.heap[q]? = H[q]?) → XCx x X cls s t := fun t _ z o => by
    obtain ⟨z1, z2⟩ := h1.junk z o
    exact ⟨(cls, _), hX _ z1, ⟨rfl, z2⟩, Nat.le_trans h2.1 z, fun q a1 a2 => (o q (Nat.lt_of_lt_of_le a1 h2.1)).trans (h2.2.1 q a1 a2)⟩
  rcases d4 with ⟨d4, d6, d9⟩ | ⟨d4, d7, d10⟩
  · exact vx_throwS C.1.1 C.1.2.1 hl C.1.2.2.2.1 hcls (by decide) (C.1.2.2.2.2 _ hk) (C.1.2.2.2.2 _ hini) (C.2.2.1.2.1 q _ hq) hat2 hgood C.2.2.1.2.2.2.2.2.2.2.1 C.2.2.1.2.2.2.2.2.2.2.2.1 h2 (h3.1.trans C.1.2.2.1.symm) d0 d3 d4 d6 d9 (fun z hz => (htab z hz).elim) (by show 2 + 3 < D; omega) (by show _ + (13 * (2 + 1) + 43) ≤ 64 * D; omega) hb.1 hb.2 hlk hx h2.2.2 (Nat.le_trans hb.1 hb2.1) (Nat.le_trans hb.2 hb2.2)
  · exact vx_throwSW C.1.1 C.1.2.1 hl C.1.2.2.2.1 hcls (by decide) (C.1.2.2.2.2 _ hk) (C.1.2.2.2.2 _ hini) (C.2.2.1.2.1 q _ hq) hat2 hgood C.2.2.1.2.2.2.2.2.2.2.1 C.2.2.1.2.2.2.2.2.2.2.2.1 h2 (h3.1.trans C.1.2.2.1.symm) d0 d3 d4 d7 d10 (fun z hz => (htab z hz).elim) (by show 2 + 3 < D; omega) (by show _ + (13 * (2 + 1) + 43) ≤ 64 * D; omega) hb.1 hb.2 hlk hx h2.2.2 (Nat.le_trans hb.1 hb2.1) (Nat.le_trans hb.2 hb2.2)

theorem vx_callr {mc ms : Nat} {free : Addr → Prop} {A0 A1 : Nat → Prop} {H0 H : Heap} {a : Array Value} {ls : Array Slot} {st0 rest : List Value} {locs : List Loc} {cells slots : Nat} {S SX : Type} {post : S → Prop} {px : SX → Prop} {B : S → Nat → State → Prop} {BX : String → SX → State → Prop} {AX : Nat → Prop} (hr : vx_Run p l e R s m args below meth c H locs cells slots mc ms (F0 m pc ls st0) rest (va_Qr post B A1 a) (vx_X px BX AX) free) (hS : va_S A0 H0 H locs) (hA : ∀ q, q < H.size → A1 q → A0 q) (hf : ∀ q, free q → A0 q) (hAX : ∀ q, q < H.size → AX q → A0 q)
    (kx : ∀ (E : String) (ce : Cell) (q9 : Addr) (u : SX) (t : State) (H1 : Heap) (locs1 : List Loc), t.heap = H1 → s.vm.Alike t.vm → px u → BX E u t → H.size ≤ H1.size → (∀ q : Nat, q < H.size → ¬ AX q → H1[q]? = H[q]?) → va_S A0 H0 H1 locs1 → H1[q9]? = some ce → ce.vm = .none → s.vm.findClass E = some ce.cls → vx_W p l e R s m args below meth c H1 locs1 (cells + mc) (slots + ms) Q (F0 m pc ls rest) q9)
    (kk : ∀ (u : S) (ra : Nat) (t : State) (H1 : Heap) (locs1 : List Loc), t.heap = H1 → s.vm.Alike t.vm → post u → B u ra t → H.size ≤ H1.size → (∀ q : Nat, q < H.size → ¬ A1 q → H1[q]? = H[q]?) → va_S A0 H0 H1 locs1 → W p l e R s m args below meth c H1 locs1 (cells + mc) (slots + ms) Q (F0 m (pc + 3) ls (.ref ra :: rest))) : W p l e R s m args below meth c H locs cells slots Q (F0 m pc ls st0) := by
  intro T hT X
  rcases hr T hT X with ⟨v, st₀, t, T', L, h0, X', hL, e1, e2, ⟨⟨u, ra, hv, hp, hb⟩, hF⟩, st⟩ | ⟨q, st₀, t, T', L, E, ce, h0, X', hL, e1, e2, ⟨u, hp, hb, hF⟩, hce, hcv, hcl, st⟩
  · cases hv
    obtain ⟨k1, k2, k3⟩ := vx_keep h0 e1 hS hA hf hL hF
    obtain ⟨t2, a1, b1⟩ := kk u ra t T'.heap (locs ++ L) e1.symm (by rw [← e2]; exact X'.warmed.alike) hp hb k1 k2 k3 T' rfl X'
    exact ⟨t2, st t2 a1, b1⟩
  · obtain ⟨k1, k2, k3⟩ := vx_keep h0 e1 hS hAX hf hL hF
    obtain ⟨t2, a1, b1⟩ := kx E ce q u t T'.heap (locs ++ L) e1.symm (by rw [← e2]; exact X'.warmed.alike) hp hb k1 k2 k3 (by rw [e1]; exact hce) hcv hcl T' rfl X'
    exact ⟨t2, st.trans a1, b1⟩
theorem gx_callVi0 (C : xC x p s m c cc nL args own) {C2 : String} {q0 ci : Nat} {T : u_T} {nf : Nat} {y : MethodName} {bytes : ByteArray} {maxL n d index mc ms mc0 ms0 : Nat} {ret : Option FieldType} {As rest : List Value} {X : String → Wd → Prop} {Qc : Array Value → State → Outcome → State → Prop} {K : Int32 → Wd → Prop} (htab : ∀ z ∈ c.exceptionTable.toList, False) (hlk : meth.locks = false) (hM : vx_Met l y (xws y bytes maxL ret) (rmd d mc ms) (xPc x (.ref (adr x q0) :: As) w) (QcI x K) (XCx x X) mc ms (xA x)) (cw : CallW R s args own C2 index y bytes maxL ret (xws y bytes maxL ret) (rmd d mc ms) mc ms n) (hc : classes[ci]? = some (C2, T, nf)) (hq : isK w q0 ci) (hci : ci < 13) (hst : st = As.reverse ++ .ref (adr x q0) :: rest) (hn : As.length = n) (hW : (rest.map fun v => v.category).sum ≤ 8) (hd : decode cc pc = .ok (.invokevirtual index, 3)) (hr : i + mc ≤ R.cells ∧ j + ms ≤ R.slots) (hr2 : i + mc ≤ mc0 ∧ j + ms ≤ ms0)
    (k : ∀ (r : Int32) (u : Wd), K r u → GW x p l e R s m args below meth c nL (vx_MQ below Qc (XCx x X) args s mc0 ms0 (xA x)) (pc + 3) lo (.int r :: rest) u (i + mc) (j + ms)) : GW x p l e R s m args below meth c nL (vx_MQ below Qc (XCx x X) args s mc0 ms0 (xA x)) pc lo st w i j := by
  intro H locs ls h1 h2 h3
  subst hst
  exact vx_calli (vx_runV (As := As) (rest := rest) C.1 hM cw ⟨xPc.blind, va_recv C.2.1 (h1.obj hq hci) hc (q0 := 0) rfl, fun U hU hW => xPc.go C h1 h2 U hU hW⟩ rfl hn h3.1 rfl (lv_room hW) hd hr) h2 (fun _ _ h => h) (fun _ h => h) (fun _ _ h => h) (fun E ce q9 u t H1 locs1 ht hvm hpx hBX hz hk hS hce hcv hcl => vx_out (fun z hz => (htab z hz).elim) hlk hce hcv hcl (fun t2 ht2 hal => ⟨u, hpx, ⟨hBX.1, by rw [ht2, ← ht]; exact hBX.2⟩, hS.F ht2⟩) hS.2.2 hr2.1 hr2.2) (fun r u t H1 locs1 ht hvm hw hB hz1 hk1 hS1 => k r u hw H1 locs1 ls (by rw [← ht]; exact hB) hS1 h3)
theorem gx_callSi0 (C : xC x p s m c cc nL args own) {y : MethodName} {bytes : ByteArray} {maxL n d index mc ms mc0 ms0 : Nat} {ret : Option FieldType} {As rest : List Value} {X : String → Wd → Prop} {Qc : Array Value → State → Outcome → State → Prop} {K : Int32 → Wd → Prop} (htab : ∀ z ∈ c.exceptionTable.toList, False) (hlk : meth.locks = false) (hM : vx_Met l y (xws y bytes maxL ret) (rmd d mc ms) (xPc x As w) (QcI x K) (XCx x X) mc ms (xA x)) (cw : (CallB R s args own index y bytes maxL ret (xws y bytes maxL ret) (rmd d mc ms) mc ms n ∧ (Cond.static y).before args s = true)) (hst : st = As.reverse ++ rest) (hn : As.length = n) (hW : (rest.map fun v => v.category).sum ≤ 8) (hd : decode cc pc = .ok (.invokestatic index, 3)) (hr : i + mc ≤ R.cells ∧ j + ms ≤ R.slots) (hr2 : i + mc ≤ mc0 ∧ j + ms ≤ ms0)
    (k : ∀ (r : Int32) (u : Wd), K r u → GW x p l e R s m args below meth c nL (vx_MQ below Qc (XCx x X) args s mc0 ms0 (xA x)) (pc + 3) lo (.int r :: rest) u (i + mc) (j + ms)) : GW x p l e R s m args below meth c nL (vx_MQ below Qc (XCx x X) args s mc0 ms0 (xA x)) pc lo st w i j := by
  intro H locs ls h1 h2 h3
  subst hst
  exact vx_calli (vx_runS (As := As) (rest := rest) C.1 hM cw ⟨xPc.blind, fun U hU hW => xPc.go C h1 h2 U hU hW⟩ rfl hn h3.1 rfl (lv_room hW) hd hr) h2 (fun _ _ h => h) (fun _ h => h) (fun _ _ h => h) (fun E ce q9 u t H1 locs1 ht hvm hpx hBX hz hk hS hce hcv hcl => vx_out (fun z hz => (htab z hz).elim) hlk hce hcv hcl (fun t2 ht2 hal => ⟨u, hpx, ⟨hBX.1, by rw [ht2, ← ht]; exact hBX.2⟩, hS.F ht2⟩) hS.2.2 hr2.1 hr2.2) (fun r u t H1 locs1 ht hvm hw hB hz1 hk1 hS1 => k r u hw H1 locs1 ls (by rw [← ht]; exact hB) hS1 h3)
theorem gx_callVi (C : xC x p s m c cc nL args own) {C2 : String} {q0 ci : Nat} {T : u_T} {nf : Nat} {y : MethodName} {bytes : ByteArray} {maxL n d index mc ms D MC MS : Nat} {ret : Option FieldType} {As rest : List Value} {X : String → Wd → Prop} {Qc : Array Value → State → Outcome → State → Prop} {K : Int32 → Wd → Prop} (htab : ∀ z ∈ c.exceptionTable.toList, False) (hlk : meth.locks = false) (hM : vx_Met l y (xws y bytes maxL ret) (rmd d mc ms) (xPc x (.ref (adr x q0) :: As) w) (QcI x K) (XCx x X) mc ms (xA x)) (cw : CallW (rmd D MC MS) s args own C2 index y bytes maxL ret (xws y bytes maxL ret) (rmd d mc ms) mc ms n) (hc : classes[ci]? = some (C2, T, nf)) (hq : isK w q0 ci) (hci : ci < 13) (hst : st = As.reverse ++ .ref (adr x q0) :: rest) (hn : As.length = n) (hW : (rest.map fun v => v.category).sum ≤ 8) (hd : decode cc pc = .ok (.invokevirtual index, 3)) (hr : i + mc ≤ MC ∧ j + ms ≤ MS) (k : ∀ (r : Int32) (u : Wd), K r u → GW x p l e (rmd D MC MS) s m args below meth c nL (vx_MQ below Qc (XCx x X) args s MC MS (xA x)) (pc + 3) lo (.int r :: rest) u (i + mc) (j + ms)) : GW x p l e (rmd D MC MS) s m args below meth c nL (vx_MQ below Qc (XCx x X) args s MC MS (xA x)) pc lo st w i j := gx_callVi0 C htab hlk hM cw hc hq hci hst hn hW hd hr hr k
theorem gx_callSi (C : xC x p s m c cc nL args own) {y : MethodName} {bytes : ByteArray} {maxL n d index mc ms D MC MS : Nat} {ret : Option FieldType} {As rest : List Value} {X : String → Wd → Prop} {Qc : Array Value → State → Outcome → State → Prop} {K : Int32 → Wd → Prop} (htab : ∀ z ∈ c.exceptionTable.toList, False) (hlk : meth.locks = false) (hM : vx_Met l y (xws y bytes maxL ret) (rmd d mc ms) (xPc x As w) (QcI x K) (XCx x X) mc ms (xA x)) (cw : (CallB (rmd D MC MS) s args own index y bytes maxL ret (xws y bytes maxL ret) (rmd d mc ms) mc ms n ∧ (Cond.static y).before args s = true)) (hst : st = As.reverse ++ rest) (hn : As.length = n) (hW : (rest.map fun v => v.category).sum ≤ 8) (hd : decode cc pc = .ok (.invokestatic index, 3)) (hr : i + mc ≤ MC ∧ j + ms ≤ MS) (k : ∀ (r : Int32) (u : Wd), K r u → GW x p l e (rmd D MC MS) s m args below meth c nL (vx_MQ below Qc (XCx x X) args s MC MS (xA x)) (pc + 3) lo (.int r :: rest) u (i + mc) (j + ms)) : GW x p l e (rmd D MC MS) s m args below meth c nL (vx_MQ below Qc (XCx x X) args s MC MS (xA x)) pc lo st w i j := gx_callSi0 C htab hlk hM cw hst hn hW hd hr hr k
theorem gx_callVl0 (C : xC x p s m c cc nL args own) {C2 : String} {q0 ci : Nat} {T : u_T} {nf : Nat} {y : MethodName} {bytes : ByteArray} {maxL n d index mc ms mc0 ms0 : Nat} {ret : Option FieldType} {As rest : List Value} {X : String → Wd → Prop} {Qc : Array Value → State → Outcome → State → Prop} {K : Int64 → Wd → Prop} (htab : ∀ z ∈ c.exceptionTable.toList, False) (hlk : meth.locks = false) (hM : vx_Met l y (xws y bytes maxL ret) (rmd d mc ms) (xPc x (.ref (adr x q0) :: As) w) (QcL x K) (XCx x X) mc ms (xA x)) (cw : CallW R s args own C2 index y bytes maxL ret (xws y bytes maxL ret) (rmd d mc ms) mc ms n) (hc : classes[ci]? = some (C2, T, nf)) (hq : isK w q0 ci) (hci : ci < 13) (hst : st = As.reverse ++ .ref (adr x q0) :: rest) (hn : As.length = n) (hW : (rest.map fun v => v.category).sum ≤ 8) (hd : decode cc pc = .ok (.invokevirtual index, 3)) (hr : i + mc ≤ R.cells ∧ j + ms ≤ R.slots) (hr2 : i + mc ≤ mc0 ∧ j + ms ≤ ms0)
    (k : ∀ (r : Int64) (u : Wd), K r u → GW x p l e R s m args below meth c nL (vx_MQ below Qc (XCx x X) args s mc0 ms0 (xA x)) (pc + 3) lo (.long r :: rest) u (i + mc) (j + ms)) : GW x p l e R s m args below meth c nL (vx_MQ below Qc (XCx x X) args s mc0 ms0 (xA x)) pc lo st w i j := by
  intro H locs ls h1 h2 h3
  subst hst
  exact vx_calll (vx_runV (As := As) (rest := rest) C.1 hM cw ⟨xPc.blind, va_recv C.2.1 (h1.obj hq hci) hc (q0 := 0) rfl, fun U hU hW => xPc.go C h1 h2 U hU hW⟩ rfl hn h3.1 rfl (lv_room hW) hd hr) h2 (fun _ _ h => h) (fun _ h => h) (fun _ _ h => h) (fun E ce q9 u t H1 locs1 ht hvm hpx hBX hz hk hS hce hcv hcl => vx_out (fun z hz => (htab z hz).elim) hlk hce hcv hcl (fun t2 ht2 hal => ⟨u, hpx, ⟨hBX.1, by rw [ht2, ← ht]; exact hBX.2⟩, hS.F ht2⟩) hS.2.2 hr2.1 hr2.2) (fun r u t H1 locs1 ht hvm hw hB hz1 hk1 hS1 => k r u hw H1 locs1 ls (by rw [← ht]; exact hB) hS1 h3)
theorem gx_callSl0 (C : xC x p s m c cc nL args own) {y : MethodName} {bytes : ByteArray} {maxL n d index mc ms mc0 ms0 : Nat} {ret : Option FieldType} {As rest : List Value} {X : String → Wd → Prop} {Qc : Array Value → State → Outcome → State → Prop} {K : Int64 → Wd → Prop} (htab : ∀ z ∈ c.exceptionTable.toList, False) (hlk : meth.locks = false) (hM : vx_Met l y (xws y bytes maxL ret) (rmd d mc ms) (xPc x As w) (QcL x K) (XCx x X) mc ms (xA x)) (cw : (CallB R s args own index y bytes maxL ret (xws y bytes maxL ret) (rmd d mc ms) mc ms n ∧ (Cond.static y).before args s = true)) (hst : st = As.reverse ++ rest) (hn : As.length = n) (hW : (rest.map fun v => v.category).sum ≤ 8) (hd : decode cc pc = .ok (.invokestatic index, 3)) (hr : i + mc ≤ R.cells ∧ j + ms ≤ R.slots) (hr2 : i + mc ≤ mc0 ∧ j + ms ≤ ms0)
    (k : ∀ (r : Int64) (u : Wd), K r u → GW x p l e R s m args below meth c nL (vx_MQ below Qc (XCx x X) args s mc0 ms0 (xA x)) (pc + 3) lo (.long r :: rest) u (i + mc) (j + ms)) : GW x p l e R s m args below meth c nL (vx_MQ below Qc (XCx x X) args s mc0 ms0 (xA x)) pc lo st w i j := by
  intro H locs ls h1 h2 h3
  subst hst
  exact vx_calll (vx_runS (As := As) (rest := rest) C.1 hM cw ⟨xPc.blind, fun U hU hW => xPc.go C h1 h2 U hU hW⟩ rfl hn h3.1 rfl (lv_room hW) hd hr) h2 (fun _ _ h => h) (fun _ h => h) (fun _ _ h => h) (fun E ce q9 u t H1 locs1 ht hvm hpx hBX hz hk hS hce hcv hcl => vx_out (fun z hz => (htab z hz).elim) hlk hce hcv hcl (fun t2 ht2 hal => ⟨u, hpx, ⟨hBX.1, by rw [ht2, ← ht]; exact hBX.2⟩, hS.F ht2⟩) hS.2.2 hr2.1 hr2.2) (fun r u t H1 locs1 ht hvm hw hB hz1 hk1 hS1 => k r u hw H1 locs1 ls (by rw [← ht]; exact hB) hS1 h3)
theorem gx_callVl (C : xC x p s m c cc nL args own) {C2 : String} {q0 ci : Nat} {T : u_T} {nf : Nat} {y : MethodName} {bytes : ByteArray} {maxL n d index mc ms D MC MS : Nat} {ret : Option FieldType} {As rest : List Value} {X : String → Wd → Prop} {Qc : Array Value → State → Outcome → State → Prop} {K : Int64 → Wd → Prop} (htab : ∀ z ∈ c.exceptionTable.toList, False) (hlk : meth.locks = false) (hM : vx_Met l y (xws y bytes maxL ret) (rmd d mc ms) (xPc x (.ref (adr x q0) :: As) w) (QcL x K) (XCx x X) mc ms (xA x)) (cw : CallW (rmd D MC MS) s args own C2 index y bytes maxL ret (xws y bytes maxL ret) (rmd d mc ms) mc ms n) (hc : classes[ci]? = some (C2, T, nf)) (hq : isK w q0 ci) (hci : ci < 13) (hst : st = As.reverse ++ .ref (adr x q0) :: rest) (hn : As.length = n) (hW : (rest.map fun v => v.category).sum ≤ 8) (hd : decode cc pc = .ok (.invokevirtual index, 3)) (hr : i + mc ≤ MC ∧ j + ms ≤ MS) (k : ∀ (r : Int64) (u : Wd), K r u → GW x p l e (rmd D MC MS) s m args below meth c nL (vx_MQ below Qc (XCx x X) args s MC MS (xA x)) (pc + 3) lo (.long r :: rest) u (i + mc) (j + ms)) : GW x p l e (rmd D MC MS) s m args below meth c nL (vx_MQ below Qc (XCx x X) args s MC MS (xA x)) pc lo st w i j := gx_callVl0 C htab hlk hM cw hc hq hci hst hn hW hd hr hr k
theorem gx_callSl (C : xC x p s m c cc nL args own) {y : MethodName} {bytes : ByteArray} {maxL n d index mc ms D MC MS : Nat} {ret : Option FieldType} {As rest : List Value} {X : String → Wd → Prop} {Qc : Array Value → State → Outcome → State → Prop} {K : Int64 → Wd → Prop} (htab : ∀ z ∈ c.exceptionTable.toList, False) (hlk : meth.locks = false) (hM : vx_Met l y (xws y bytes maxL ret) (rmd d mc ms) (xPc x As w) (QcL x K) (XCx x X) mc ms (xA x)) (cw : (CallB (rmd D MC MS) s args own index y bytes maxL ret (xws y bytes maxL ret) (rmd d mc ms) mc ms n ∧ (Cond.static y).before args s = true)) (hst : st = As.reverse ++ rest) (hn : As.length = n) (hW : (rest.map fun v => v.category).sum ≤ 8) (hd : decode cc pc = .ok (.invokestatic index, 3)) (hr : i + mc ≤ MC ∧ j + ms ≤ MS) (k : ∀ (r : Int64) (u : Wd), K r u → GW x p l e (rmd D MC MS) s m args below meth c nL (vx_MQ below Qc (XCx x X) args s MC MS (xA x)) (pc + 3) lo (.long r :: rest) u (i + mc) (j + ms)) : GW x p l e (rmd D MC MS) s m args below meth c nL (vx_MQ below Qc (XCx x X) args s MC MS (xA x)) pc lo st w i j := gx_callSl0 C htab hlk hM cw hst hn hW hd hr hr k
theorem gx_callVv0 (C : xC x p s m c cc nL args own) {C2 : String} {q0 ci : Nat} {T : u_T} {nf : Nat} {y : MethodName} {bytes : ByteArray} {maxL n d index mc ms mc0 ms0 : Nat} {ret : Option FieldType} {As rest : List Value} {X : String → Wd → Prop} {Qc : Array Value → State → Outcome → State → Prop} {K : Wd → Prop} (htab : ∀ z ∈ c.exceptionTable.toList, False) (hlk : meth.locks = false) (hM : vx_Met l y (xws y bytes maxL ret) (rmd d mc ms) (xPc x (.ref (adr x q0) :: As) w) (QcV x K) (XCx x X) mc ms (xA x)) (cw : CallW R s args own C2 index y bytes maxL ret (xws y bytes maxL ret) (rmd d mc ms) mc ms n) (hc : classes[ci]? = some (C2, T, nf)) (hq : isK w q0 ci) (hci : ci < 13) (hst : st = As.reverse ++ .ref (adr x q0) :: rest) (hn : As.length = n) (hW : (rest.map fun v => v.category).sum ≤ 8) (hd : decode cc pc = .ok (.invokevirtual index, 3)) (hr : i + mc ≤ R.cells ∧ j + ms ≤ R.slots) (hr2 : i + mc ≤ mc0 ∧ j + ms ≤ ms0)
    (k : ∀ (u : Wd), K u → GW x p l e R s m args below meth c nL (vx_MQ below Qc (XCx x X) args s mc0 ms0 (xA x)) (pc + 3) lo rest u (i + mc) (j + ms)) : GW x p l e R s m args below meth c nL (vx_MQ below Qc (XCx x X) args s mc0 ms0 (xA x)) pc lo st w i j := by
  intro H locs ls h1 h2 h3
  subst hst
  exact vx_callv (vx_runV (As := As) (rest := rest) C.1 hM cw ⟨xPc.blind, va_recv C.2.1 (h1.obj hq hci) hc (q0 := 0) rfl, fun U hU hW => xPc.go C h1 h2 U hU hW⟩ rfl hn h3.1 rfl (lv_room hW) hd hr) h2 (fun _ _ h => h) (fun _ h => h) (fun _ _ h => h) (fun E ce q9 u t H1 locs1 ht hvm hpx hBX hz hk hS hce hcv hcl => vx_out (fun z hz => (htab z hz).elim) hlk hce hcv hcl (fun t2 ht2 hal => ⟨u, hpx, ⟨hBX.1, by rw [ht2, ← ht]; exact hBX.2⟩, hS.F ht2⟩) hS.2.2 hr2.1 hr2.2) (fun u t H1 locs1 ht hvm hw hB hz1 hk1 hS1 => k u hw H1 locs1 ls (by rw [← ht]; exact hB) hS1 h3)
theorem gx_callSv0 (C : xC x p s m c cc nL args own) {y : MethodName} {bytes : ByteArray} {maxL n d index mc ms mc0 ms0 : Nat} {ret : Option FieldType} {As rest : List Value} {X : String → Wd → Prop} {Qc : Array Value → State → Outcome → State → Prop} {K : Wd → Prop} (htab : ∀ z ∈ c.exceptionTable.toList, False) (hlk : meth.locks = false) (hM : vx_Met l y (xws y bytes maxL ret) (rmd d mc ms) (xPc x As w) (QcV x K) (XCx x X) mc ms (xA x)) (cw : (CallB R s args own index y bytes maxL ret (xws y bytes maxL ret) (rmd d mc ms) mc ms n ∧ (Cond.static y).before args s = true)) (hst : st = As.reverse ++ rest) (hn : As.length = n) (hW : (rest.map fun v => v.category).sum ≤ 8) (hd : decode cc pc = .ok (.invokestatic index, 3)) (hr : i + mc ≤ R.cells ∧ j + ms ≤ R.slots) (hr2 : i + mc ≤ mc0 ∧ j + ms ≤ ms0)
    (k : ∀ (u : Wd), K u → GW x p l e R s m args below meth c nL (vx_MQ below Qc (XCx x X) args s mc0 ms0 (xA x)) (pc + 3) lo rest u (i + mc) (j + ms)) : GW x p l e R s m args below meth c nL (vx_MQ below Qc (XCx x X) args s mc0 ms0 (xA x)) pc lo st w i j := by
  intro H locs ls h1 h2 h3
  subst hst
  exact vx_callv (vx_runS (As := As) (rest := rest) C.1 hM cw ⟨xPc.blind, fun U hU hW => xPc.go C h1 h2 U hU hW⟩ rfl hn h3.1 rfl (lv_room hW) hd hr) h2 (fun _ _ h => h) (fun _ h => h) (fun _ _ h => h) (fun E ce q9 u t H1 locs1 ht hvm hpx hBX hz hk hS hce hcv hcl => vx_out (fun z hz => (htab z hz).elim) hlk hce hcv hcl (fun t2 ht2 hal => ⟨u, hpx, ⟨hBX.1, by rw [ht2, ← ht]; exact hBX.2⟩, hS.F ht2⟩) hS.2.2 hr2.1 hr2.2) (fun u t H1 locs1 ht hvm hw hB hz1 hk1 hS1 => k u hw H1 locs1 ls (by rw [← ht]; exact hB) hS1 h3)
theorem gx_callVv (C : xC x p s m c cc nL args own) {C2 : String} {q0 ci : Nat} {T : u_T} {nf : Nat} {y : MethodName} {bytes : ByteArray} {maxL n d index mc ms D MC MS : Nat} {ret : Option FieldType} {As rest : List Value} {X : String → Wd → Prop} {Qc : Array Value → State → Outcome → State → Prop} {K : Wd → Prop} (htab : ∀ z ∈ c.exceptionTable.toList, False) (hlk : meth.locks = false) (hM : vx_Met l y (xws y bytes maxL ret) (rmd d mc ms) (xPc x (.ref (adr x q0) :: As) w) (QcV x K) (XCx x X) mc ms (xA x)) (cw : CallW (rmd D MC MS) s args own C2 index y bytes maxL ret (xws y bytes maxL ret) (rmd d mc ms) mc ms n) (hc : classes[ci]? = some (C2, T, nf)) (hq : isK w q0 ci) (hci : ci < 13) (hst : st = As.reverse ++ .ref (adr x q0) :: rest) (hn : As.length = n) (hW : (rest.map fun v => v.category).sum ≤ 8) (hd : decode cc pc = .ok (.invokevirtual index, 3)) (hr : i + mc ≤ MC ∧ j + ms ≤ MS) (k : ∀ (u : Wd), K u → GW x p l e (rmd D MC MS) s m args below meth c nL (vx_MQ below Qc (XCx x X) args s MC MS (xA x)) (pc + 3) lo rest u (i + mc) (j + ms)) : GW x p l e (rmd D MC MS) s m args below meth c nL (vx_MQ below Qc (XCx x X) args s MC MS (xA x)) pc lo st w i j := gx_callVv0 C htab hlk hM cw hc hq hci hst hn hW hd hr hr k
theorem gx_callSv (C : xC x p s m c cc nL args own) {y : MethodName} {bytes : ByteArray} {maxL n d index mc ms D MC MS : Nat} {ret : Option FieldType} {As rest : List Value} {X : String → Wd → Prop} {Qc : Array Value → State → Outcome → State → Prop} {K : Wd → Prop} (htab : ∀ z ∈ c.exceptionTable.toList, False) (hlk : meth.locks = false) (hM : vx_Met l y (xws y bytes maxL ret) (rmd d mc ms) (xPc x As w) (QcV x K) (XCx x X) mc ms (xA x)) (cw : (CallB (rmd D MC MS) s args own index y bytes maxL ret (xws y bytes maxL ret) (rmd d mc ms) mc ms n ∧ (Cond.static y).before args s = true)) (hst : st = As.reverse ++ rest) (hn : As.length = n) (hW : (rest.map fun v => v.category).sum ≤ 8) (hd : decode cc pc = .ok (.invokestatic index, 3)) (hr : i + mc ≤ MC ∧ j + ms ≤ MS) (k : ∀ (u : Wd), K u → GW x p l e (rmd D MC MS) s m args below meth c nL (vx_MQ below Qc (XCx x X) args s MC MS (xA x)) (pc + 3) lo rest u (i + mc) (j + ms)) : GW x p l e (rmd D MC MS) s m args below meth c nL (vx_MQ below Qc (XCx x X) args s MC MS (xA x)) pc lo st w i j := gx_callSv0 C htab hlk hM cw hst hn hW hd hr hr k
theorem gx_callVr0 (C : xC x p s m c cc nL args own) {C2 : String} {q0 ci : Nat} {T : u_T} {nf : Nat} {y : MethodName} {bytes : ByteArray} {maxL n d index mc ms mc0 ms0 : Nat} {ret : Option FieldType} {As rest : List Value} {X : String → Wd → Prop} {Qc : Array Value → State → Outcome → State → Prop} {K : Nat → Wd → Prop} (htab : ∀ z ∈ c.exceptionTable.toList, False) (hlk : meth.locks = false) (hM : vx_Met l y (xws y bytes maxL ret) (rmd d mc ms) (xPc x (.ref (adr x q0) :: As) w) (QcR x K) (XCx x X) mc ms (xA x)) (cw : CallW R s args own C2 index y bytes maxL ret (xws y bytes maxL ret) (rmd d mc ms) mc ms n) (hc : classes[ci]? = some (C2, T, nf)) (hq : isK w q0 ci) (hci : ci < 13) (hst : st = As.reverse ++ .ref (adr x q0) :: rest) (hn : As.length = n) (hW : (rest.map fun v => v.category).sum ≤ 8) (hd : decode cc pc = .ok (.invokevirtual index, 3)) (hr : i + mc ≤ R.cells ∧ j + ms ≤ R.slots) (hr2 : i + mc ≤ mc0 ∧ j + ms ≤ ms0)
    (k : ∀ (r : Nat) (u : Wd), K r u → GW x p l e R s m args below meth c nL (vx_MQ below Qc (XCx x X) args s mc0 ms0 (xA x)) (pc + 3) lo (.ref (adr x r) :: rest) u (i + mc) (j + ms)) : GW x p l e R s m args below meth c nL (vx_MQ below Qc (XCx x X) args s mc0 ms0 (xA x)) pc lo st w i j := by
  intro H locs ls h1 h2 h3
  subst hst
  exact vx_callr (vx_runV (As := As) (rest := rest) C.1 hM cw ⟨xPc.blind, va_recv C.2.1 (h1.obj hq hci) hc (q0 := 0) rfl, fun U hU hW => xPc.go C h1 h2 U hU hW⟩ rfl hn h3.1 rfl (lv_room hW) hd hr) h2 (fun _ _ h => h) (fun _ h => h) (fun _ _ h => h) (fun E ce q9 u t H1 locs1 ht hvm hpx hBX hz hk hS hce hcv hcl => vx_out (fun z hz => (htab z hz).elim) hlk hce hcv hcl (fun t2 ht2 hal => ⟨u, hpx, ⟨hBX.1, by rw [ht2, ← ht]; exact hBX.2⟩, hS.F ht2⟩) hS.2.2 hr2.1 hr2.2) (fun u ra t H1 locs1 ht hvm hw hB hz1 hk1 hS1 => by have h9 := k u.1 u.2 hw H1 locs1 ls (by rw [← ht]; exact hB.2) hS1 h3; rw [hB.1]; exact h9)
theorem gx_callSr0 (C : xC x p s m c cc nL args own) {y : MethodName} {bytes : ByteArray} {maxL n d index mc ms mc0 ms0 : Nat} {ret : Option FieldType} {As rest : List Value} {X : String → Wd → Prop} {Qc : Array Value → State → Outcome → State → Prop} {K : Nat → Wd → Prop} (htab : ∀ z ∈ c.exceptionTable.toList, False) (hlk : meth.locks = false) (hM : vx_Met l y (xws y bytes maxL ret) (rmd d mc ms) (xPc x As w) (QcR x K) (XCx x X) mc ms (xA x)) (cw : (CallB R s args own index y bytes maxL ret (xws y bytes maxL ret) (rmd d mc ms) mc ms n ∧ (Cond.static y).before args s = true)) (hst : st = As.reverse ++ rest) (hn : As.length = n) (hW : (rest.map fun v => v.category).sum ≤ 8) (hd : decode cc pc = .ok (.invokestatic index, 3)) (hr : i + mc ≤ R.cells ∧ j + ms ≤ R.slots) (hr2 : i + mc ≤ mc0 ∧ j + ms ≤ ms0)
    (k : ∀ (r : Nat) (u : Wd), K r u → GW x p l e R s m args below meth c nL (vx_MQ below Qc (XCx x X) args s mc0 ms0 (xA x)) (pc + 3) lo (.ref (adr x r) :: rest) u (i + mc) (j + ms)) : GW x p l e R s m args below meth c nL (vx_MQ below Qc (XCx x X) args s mc0 ms0 (xA x)) pc lo st w i j := by
  intro H locs ls h1 h2 h3
  subst hst
  exact vx_callr (vx_runS (As := As) (rest := rest) C.1 hM cw ⟨xPc.blind, fun U hU hW => xPc.go C h1 h2 U hU hW⟩ rfl hn h3.1 rfl (lv_room hW) hd hr) h2 (fun _ _ h => h) (fun _ h => h) (fun _ _ h => h) (fun E ce q9 u t H1 locs1 ht hvm hpx hBX hz hk hS hce hcv hcl => vx_out (fun z hz => (htab z hz).elim) hlk hce hcv hcl (fun t2 ht2 hal => ⟨u, hpx, ⟨hBX.1, by rw [ht2, ← ht]; exact hBX.2⟩, hS.F ht2⟩) hS.2.2 hr2.1 hr2.2) (fun u ra t H1 locs1 ht hvm hw hB hz1 hk1 hS1 => by have h9 := k u.1 u.2 hw H1 locs1 ls (by rw [← ht]; exact hB.2) hS1 h3; rw [hB.1]; exact h9)
theorem gx_callVr (C : xC x p s m c cc nL args own) {C2 : String} {q0 ci : Nat} {T : u_T} {nf : Nat} {y : MethodName} {bytes : ByteArray} {maxL n d index mc ms D MC MS : Nat} {ret : Option FieldType} {As rest : List Value} {X : String → Wd → Prop} {Qc : Array Value → State → Outcome → State → Prop} {K : Nat → Wd → Prop} (htab : ∀ z ∈ c.exceptionTable.toList, False) (hlk : meth.locks = false) (hM : vx_Met l y (xws y bytes maxL ret) (rmd d mc ms) (xPc x (.ref (adr x q0) :: As) w) (QcR x K) (XCx x X) mc ms (xA x)) (cw : CallW (rmd D MC MS) s args own C2 index y bytes maxL ret (xws y bytes maxL ret) (rmd d mc ms) mc ms n) (hc : classes[ci]? = some (C2, T, nf)) (hq : isK w q0 ci) (hci : ci < 13) (hst : st = As.reverse ++ .ref (adr x q0) :: rest) (hn : As.length = n) (hW : (rest.map fun v => v.category).sum ≤ 8) (hd : decode cc pc = .ok (.invokevirtual index, 3)) (hr : i + mc ≤ MC ∧ j + ms ≤ MS) (k : ∀ (r : Nat) (u : Wd), K r u → GW x p l e (rmd D MC MS) s m args below meth c nL (vx_MQ below Qc (XCx x X) args s MC MS (xA x)) (pc + 3) lo (.ref (adr x r) :: rest) u (i + mc) (j + ms)) : GW x p l e (rmd D MC MS) s m args below meth c nL (vx_MQ below Qc (XCx x X) args s MC MS (xA x)) pc lo st w i j := gx_callVr0 C htab hlk hM cw hc hq hci hst hn hW hd hr hr k
theorem gx_callSr (C : xC x p s m c cc nL args own) {y : MethodName} {bytes : ByteArray} {maxL n d index mc ms D MC MS : Nat} {ret : Option FieldType} {As rest : List Value} {X : String → Wd → Prop} {Qc : Array Value → State → Outcome → State → Prop} {K : Nat → Wd → Prop} (htab : ∀ z ∈ c.exceptionTable.toList, False) (hlk : meth.locks = false) (hM : vx_Met l y (xws y bytes maxL ret) (rmd d mc ms) (xPc x As w) (QcR x K) (XCx x X) mc ms (xA x)) (cw : (CallB (rmd D MC MS) s args own index y bytes maxL ret (xws y bytes maxL ret) (rmd d mc ms) mc ms n ∧ (Cond.static y).before args s = true)) (hst : st = As.reverse ++ rest) (hn : As.length = n) (hW : (rest.map fun v => v.category).sum ≤ 8) (hd : decode cc pc = .ok (.invokestatic index, 3)) (hr : i + mc ≤ MC ∧ j + ms ≤ MS) (k : ∀ (r : Nat) (u : Wd), K r u → GW x p l e (rmd D MC MS) s m args below meth c nL (vx_MQ below Qc (XCx x X) args s MC MS (xA x)) (pc + 3) lo (.ref (adr x r) :: rest) u (i + mc) (j + ms)) : GW x p l e (rmd D MC MS) s m args below meth c nL (vx_MQ below Qc (XCx x X) args s MC MS (xA x)) pc lo st w i j := gx_callSr0 C htab hlk hM cw hst hn hW hd hr hr k
end AL
