theorem Met.ofWH {l : Launch} {y : MethodName} {ws ws' : List Cond} {rm : Room} {Pc : Array Value → State → Prop} {Qc : Array Value → State → Outcome → State → Prop} {mc ms : Nat} {free : Addr → Prop} {cc : ByteArray} {maxL : Nat} {ret : Option FieldType} {hh : List (Nat × Nat × Nat × Nat)}
    (hy : plainName y.cls = true) (hw : ws = Cond.codeWith y cc maxL ret hh :: ws')
    (body : ∀ p e s m args below meth c s₁, BodyLoose p l y (headSpec ws rm) cc maxL ret e s m args below meth c s₁ → c.maxLocals = maxL → Pc args s →
      W p l e (headSpec ws rm).room s m args below meth c s.heap [] 0 0 (MQ below Qc args s mc ms free) (entryFrame m args maxL)) : Met l y ws rm Pc Qc mc ms free := by
  refine MetFree.of_bodyS (code := cc) (maxLocals := maxL) (ret := ret) hy ?_ ?_
  · intro args s m h hn
    obtain ⟨m9, meth, c, hn9, h1, h2, h3, h4, -, h5, h6, -⟩ := Cond.codeWith_spec (atoms_spec (ws := ws) h _ (by rw [hw]; exact List.mem_cons_self))
    cases hn.symm.trans hn9
    exact ⟨meth, c, h1, h2, h3, h4, h5, h6⟩
  · intro p e s m args below meth c s₁ B hml hP _
    have hh0 : s₁.heap = s.heap := by rw [B.state]; rfl
    obtain ⟨t, a1, o, b1, b2, b3⟩ := body p e s m args below meth c s₁ B hml hP s₁ hh0 (Stand.of_body B)
    exact ⟨t, o, a1, b1, b2, ⟨b3.1, b3.2⟩⟩
section WR
variable {x : xG} {p : Program} {l : Launch} {e : Env} {R : Room} {s : State} {m : MethodId} {args : Array Value} {below : List Frame} {meth : Method} {c : Code} {Q : State → Prop} {cc : ByteArray} {nL : Nat} {own : String} {pc : Nat} {lo lo' : List (Nat × Value)} {st : List Value} {w : Wd} {i j : Nat}
theorem xMetH {y : MethodName} {n d mc ms : Nat} {ret : Option FieldType} {hh : List (Nat × Nat × Nat × Nat)} {As : List Value} {Qc : Array Value → State → Outcome → State → Prop} (hy : plainName y.cls = true) (hn : (lg_sl As).length ≤ n)
    (body : ∀ (p : Program) (e : Env) (s : State) (m : MethodId) (below : List Frame) (meth : Method) (c : Code), xC x p s m c cc n As.toArray y.cls → meth.locks = false → meth.sig.returnType = ret → c.exceptionTable.toList = tableOf hh → GW x p l e (rmd d mc ms) s m As.toArray below meth c n (MQ below Qc As.toArray s mc ms (xA x)) 0 (lv_args 0 As) [] w 0 0) :
    Met l y (xwsH y cc n ret hh) (rmd d mc ms) (xPc x As w) Qc mc ms (xA x) := by
  refine Met.ofWH (cc := cc) (maxL := n) (ret := ret) (hh := hh) hy rfl ?_
  intro p e s m args below meth c s₁ B hml hv
  obtain ⟨rfl, h1, h2, h3⟩ := hv
  have hts := atoms_spec (ws := xwsH y cc n ret hh) B.pre
  have hown : s.vm.findClass y.cls = some m.cls := findClass_of_methodNamed B.named
  have hl := lv_entry As (n := n) hn
  rw [lg_entry_eq]
  exact body p e s m below meth c ⟨⟨B.exec, B.bytes, hml, hown, fun w hw => hts w (List.mem_cons_of_mem _ hw)⟩, h2, h3, by have := h1.1; have := h1.2.1; omega⟩ B.notSynchronized B.returns (vx_table (x := y) B (hts _ List.mem_cons_self)) s.heap [] _ h1 va_S.rf hl
theorem gh_catch (C : xC x p s m c cc nL args own) {E name : String} {q : Nat} {u : Wd} {H1 : Heap} {locs1 : List Loc} {ls : Array Slot} {ce : Cell} (pre : List ExceptionTableEntry) (z : ExceptionTableEntry) (suf : List ExceptionTableEntry) (hsplit : c.exceptionTable.toList = pre ++ z :: suf)
    (hpass : ∀ y ∈ pre, y.catchType ≠ 0 ∧ ∃ nm : String, Cond.classLink own y.catchType nm ∈ gT ∧ (E, nm) ∈ ncW) (hx : covers z pc = true) (h0 : z.catchType ≠ 0) (hl : Cond.classLink own z.catchType name ∈ gT) (hca : Cond.castable E name ∈ offW)
    (g1 : xh x u H1) (g2 : va_S (xA x) s.heap H1 locs1) (g3 : lv_has ls nL lo) (g4 : H1[q]? = some ce) (g5 : ce.vm = .none) (g6 : s.vm.findClass E = some ce.cls) (k : GW x p l e R s m args below meth c nL Q z.handlerPc lo [.ref q] u i j) : vx_W p l e R s m args below meth c H1 locs1 i j Q (F0 m pc ls st) q :=
  vx_catch C.1.2.2.2.1 pre z suf hsplit (fun y hy => by
    obtain ⟨a1, nm, a2, a3⟩ := hpass y hy
    exact Or.inr ⟨a1, nm, C.1.2.2.2.2 _ a2, C.2.2.1.2.2.2.2.2.2.2.2.2.2.2 _ a3⟩) hx h0 (C.1.2.2.2.2 _ hl) (va_Nw.use rfl (C.2.2.1.2.2.2.2.2.2.2.2.2.2.1 _ hca)) g4 g5 g6 (k H1 locs1 ls g1 g2 g3)

theorem gh_callVi (C : xC x p s m c cc nL args own) {C2 : String} {q0 ci : Nat} {T : u_T} {nf : Nat} {y : MethodName} {bytes : ByteArray} {maxL n d index mc ms : Nat} {ret : Option FieldType} {As rest : List Value} {X : String → Wd → Prop} {K : Int32 → Wd → Prop} (hM : vx_Met l y (xws y bytes maxL ret) (rmd d mc ms) (xPc x (.ref (adr x q0) :: As) w) (QcI x K) (XCx x X) mc ms (xA x)) (cw : CallW R s args own C2 index y bytes maxL ret (xws y bytes maxL ret) (rmd d mc ms) mc ms n) (hc : classes[ci]? = some (C2, T, nf)) (hq : isK w q0 ci) (hci : ci < 13) (hst : st = As.reverse ++ .ref (adr x q0) :: rest) (hn : As.length = n) (hW : (rest.map fun v => v.category).sum ≤ 8) (hd : decode cc pc = .ok (.invokevirtual index, 3)) (hr : i + mc ≤ R.cells ∧ j + ms ≤ R.slots)
    (kx : ∀ (E : String) (q : Nat) (u : Wd) (H1 : Heap) (locs1 : List Loc) (ls : Array Slot) (ce : Cell), X E u → xh x u H1 → va_S (xA x) s.heap H1 locs1 → lv_has ls nL lo → H1[q]? = some ce → ce.vm = .none → s.vm.findClass E = some ce.cls → vx_W p l e R s m args below meth c H1 locs1 (i + mc) (j + ms) Q (F0 m pc ls rest) q)
    (k : ∀ (r : Int32) (u : Wd), K r u → GW x p l e R s m args below meth c nL Q (pc + 3) lo (.int r :: rest) u (i + mc) (j + ms)) : GW x p l e R s m args below meth c nL Q pc lo st w i j := by
  intro H locs ls h1 h2 h3
  subst hst
  exact vx_calli (vx_runV (As := As) (rest := rest) C.1 hM cw ⟨xPc.blind, va_recv C.2.1 (h1.obj hq hci) hc (q0 := 0) rfl, fun U hU hW => xPc.go C h1 h2 U hU hW⟩ rfl hn h3.1 rfl (lv_room hW) hd hr) h2 (fun _ _ h => h) (fun _ h => h) (fun _ _ h => h) (fun E ce q9 u t H1 locs1 ht hvm hpx hBX hz hk hS hce hcv hcl => kx E q9 u.2 H1 locs1 ls ce (by rw [hBX.1]; exact hpx) (by rw [← ht]; exact hBX.2) hS h3 hce hcv hcl) (fun r u t H1 locs1 ht hvm hw hB hz1 hk1 hS1 => k r u hw H1 locs1 ls (by rw [← ht]; exact hB) hS1 h3)
theorem gh_callVl (C : xC x p s m c cc nL args own) {C2 : String} {q0 ci : Nat} {T : u_T} {nf : Nat} {y : MethodName} {bytes : ByteArray} {maxL n d index mc ms : Nat} {ret : Option FieldType} {As rest : List Value} {X : String → Wd → Prop} {K : Int64 → Wd → Prop} (hM : vx_Met l y (xws y bytes maxL ret) (rmd d mc ms) (xPc x (.ref (adr x q0) :: As) w) (QcL x K) (XCx x X) mc ms (xA x)) (cw : CallW R s args own C2 index y bytes maxL ret (xws y bytes maxL ret) (rmd d mc ms) mc ms n) (hc : classes[ci]? = some (C2, T, nf)) (hq : isK w q0 ci) (hci : ci < 13) (hst : st = As.reverse ++ .ref (adr x q0) :: rest) (hn : As.length = n) (hW : (rest.map fun v => v.category).sum ≤ 8) (hd : decode cc pc = .ok (.invokevirtual index, 3)) (hr : i + mc ≤ R.cells ∧ j + ms ≤ R.slots)
    (kx : ∀ (E : String) (q : Nat) (u : Wd) (H1 : Heap) (locs1 : List Loc) (ls : Array Slot) (ce : Cell), X E u → xh x u H1 → va_S (xA x) s.heap H1 locs1 → lv_has ls nL lo → H1[q]? = some ce → ce.vm = .none → s.vm.findClass E = some ce.cls → vx_W p l e R s m args below meth c H1 locs1 (i + mc) (j + ms) Q (F0 m pc ls rest) q)
    (k : ∀ (r : Int64) (u : Wd), K r u → GW x p l e R s m args below meth c nL Q (pc + 3) lo (.long r :: rest) u (i + mc) (j + ms)) : GW x p l e R s m args below meth c nL Q pc lo st w i j := by
  intro H locs ls h1 h2 h3
  subst hst
  exact vx_calll (vx_runV (As := As) (rest := rest) C.1 hM cw ⟨xPc.blind, va_recv C.2.1 (h1.obj hq hci) hc (q0 := 0) rfl, fun U hU hW => xPc.go C h1 h2 U hU hW⟩ rfl hn h3.1 rfl (lv_room hW) hd hr) h2 (fun _ _ h => h) (fun _ h => h) (fun _ _ h => h) (fun E ce q9 u t H1 locs1 ht hvm hpx hBX hz hk hS hce hcv hcl => kx E q9 u.2 H1 locs1 ls ce (by rw [hBX.1]; exact hpx) (by rw [← ht]; exact hBX.2) hS h3 hce hcv hcl) (fun r u t H1 locs1 ht hvm hw hB hz1 hk1 hS1 => k r u hw H1 locs1 ls (by rw [← ht]; exact hB) hS1 h3)
theorem gh_callVv (C : xC x p s m c cc nL args own) {C2 : String} {q0 ci : Nat} {T : u_T} {nf : Nat} {y : MethodName} {bytes : ByteArray} {maxL n d index mc ms : Nat} {ret : Option FieldType} {As rest : List Value} {X : String → Wd → Prop} {K : Wd → Prop} (hM : vx_Met l y (xws y bytes maxL ret) (rmd d mc ms) (xPc x (.ref (adr x q0) :: As) w) (QcV x K) (XCx x X) mc ms (xA x)) (cw : CallW R s args own C2 index y bytes maxL ret (xws y bytes maxL ret) (rmd d mc ms) mc ms n) (hc : classes[ci]? = some (C2, T, nf)) (hq : isK w q0 ci) (hci : ci < 13) (hst : st = As.reverse ++ .ref (adr x q0) :: rest) (hn : As.length = n) (hW : (rest.map fun v => v.category).sum ≤ 8) (hd : decode cc pc = .ok (.invokevirtual index, 3)) (hr : i + mc ≤ R.cells ∧ j + ms ≤ R.slots)
    (kx : ∀ (E : String) (q : Nat) (u : Wd) (H1 : Heap) (locs1 : List Loc) (ls : Array Slot) (ce : Cell), X E u → xh x u H1 → va_S (xA x) s.heap H1 locs1 → lv_has ls nL lo → H1[q]? = some ce → ce.vm = .none → s.vm.findClass E = some ce.cls → vx_W p l e R s m args below meth c H1 locs1 (i + mc) (j + ms) Q (F0 m pc ls rest) q)
    (k : ∀ (u : Wd), K u → GW x p l e R s m args below meth c nL Q (pc + 3) lo rest u (i + mc) (j + ms)) : GW x p l e R s m args below meth c nL Q pc lo st w i j := by
  intro H locs ls h1 h2 h3
  subst hst
  exact vx_callv (vx_runV (As := As) (rest := rest) C.1 hM cw ⟨xPc.blind, va_recv C.2.1 (h1.obj hq hci) hc (q0 := 0) rfl, fun U hU hW => xPc.go C h1 h2 U hU hW⟩ rfl hn h3.1 rfl (lv_room hW) hd hr) h2 (fun _ _ h => h) (fun _ h => h) (fun _ _ h => h) (fun E ce q9 u t H1 locs1 ht hvm hpx hBX hz hk hS hce hcv hcl => kx E q9 u.2 H1 locs1 ls ce (by rw [hBX.1]; exact hpx) (by rw [← ht]; exact hBX.2) hS h3 hce hcv hcl) (fun u t H1 locs1 ht hvm hw hB hz1 hk1 hS1 => k u hw H1 locs1 ls (by rw [← ht]; exact hB) hS1 h3)
theorem g_callSWi (C : xC x p s m c cc nL args own) {y : MethodName} {bytes : ByteArray} {maxL n d index mc ms : Nat} {ret : Option FieldType} {hh : List (Nat × Nat × Nat × Nat)} {As rest : List Value} {K : Int32 → Wd → Prop} (hM : Met l y (xwsH y bytes maxL ret hh) (rmd d mc ms) (xPc x As w) (QcI x K) mc ms (xA x)) (cw : vx_CSW R s args own index y bytes maxL ret hh (xwsH y bytes maxL ret hh) (rmd d mc ms) mc ms n) (hst : st = As.reverse ++ rest) (hn : As.length = n) (hW : (rest.map fun v => v.category).sum ≤ 8) (hd : decode cc pc = .ok (.invokestatic index, 3)) (hr : i + mc ≤ R.cells ∧ j + ms ≤ R.slots)
    (k : ∀ (r : Int32) (u : Wd), K r u → GW x p l e R s m args below meth c nL Q (pc + 3) lo (.int r :: rest) u (i + mc) (j + ms)) : GW x p l e R s m args below meth c nL Q pc lo st w i j := by
  intro H locs ls h1 h2 h3
  subst hst
  exact va_calli (vx_runSW (As := As) (rest := rest) C.1 hM cw ⟨xPc.blind, fun U hU hW => xPc.go C h1 h2 U hU hW⟩ rfl hn h3.1 rfl (lv_room hW) hd hr) h2 (fun _ _ h => h) (fun _ h => h) (fun r u t H1 locs1 ht hvm hw hB hz1 hk1 hS1 => k r u hw H1 locs1 ls (by rw [← ht]; exact hB) hS1 h3)
theorem x_cwSW {y : MethodName} {bytes : ByteArray} {maxL mc ms d D index : Nat} {ret : Option FieldType} {hh : List (Nat × Nat × Nat × Nat)} {MC MS : Nat} (C : xC x p s m c cc nL args own) (n : Nat) (hT : GoodIn gT (va_wsS own index y (xwsH y bytes maxL ret hh))) (hd : y.cls ≠ "java/lang/invoke/MethodHandle" ∧ y.cls ≠ "java/lang/invoke/VarHandle" ∧ (parseMethodDescriptor y.desc).map (fun d => d.parameters.length) = some n) (h1 : d + 1 ≤ D) (h2 : maxL ≤ 45) : vx_CSW (rmd D MC MS) s args own index y bytes maxL ret hh (xwsH y bytes maxL ret hh) (rmd d mc ms) mc ms n :=
  vx_cwSW n C.1.2.2.2.2 hT rfl rfl rfl hd ⟨h1, by show 8 + (maxL + 11) + 64 * d ≤ 64 * D; omega⟩
end WR
