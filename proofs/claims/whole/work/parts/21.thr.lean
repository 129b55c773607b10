/-! 'throw new E(text)' where E's own constructor links its superclass by another index: follows the proofs of Stand.ctorThrowS and vx_throwSW, with one pass by its own words -/
def ex_own (own : String) (ic : Nat) (X : String) (ix : Nat) (rx : ByteArray) (Y : String) (names : List String) : List Cond :=
  Bundle.throwableAtoms ++ Bundle.throwableSAtoms ++ (Bundle.passSAtoms X Y ix rx ++ Bundle.chainSAtoms Y names) ++
  [.methodLink own ic (Bundle.initS X), .instantiable X 6, .castable X X, .selects X Bundle.tFill0 Bundle.tFill0, .selects X Bundle.tFill Bundle.tFill,
   .lays X Bundle.tN "cause" "Ljava/lang/Throwable;", .lays X Bundle.tN "stackTrace" Bundle.steD, .lays X Bundle.tN "suppressedExceptions" Bundle.listD, .lays X Bundle.tN "detailMessage" "Ljava/lang/String;",
   .isRef (.static Bundle.tN "UNASSIGNED_STACK" Bundle.steD), .isRef (.static Bundle.tN "SUPPRESSED_SENTINEL" Bundle.listD),
   .fieldLink Bundle.tN 198 Bundle.tN "backtrace" "Ljava/lang/Object;", .lays Bundle.tN Bundle.tN "backtrace" "Ljava/lang/Object;", .lays X Bundle.tN "backtrace" "Ljava/lang/Object;"]
theorem ex_chain {args : Array Value} {s : State} {pl : Platform} (hpl : pl.magicAccessors = ({} : Platform).magicAccessors) {top : MethodId} (htop : s.methodNamed? (Bundle.initS Bundle.tN) = some top)
    {ix : Nat} {rx : ByteArray} (x0 : decode rx 0 = .ok (.aload_n 0, 1)) (x1 : decode rx 1 = .ok (.aload_n 1, 1)) (x2 : decode rx 2 = .ok (.invokespecial ix, 3)) (x5 : decode rx 5 = .ok (.return_, 1)) (r : List String) (X Y : String) (hX : Bundle.fit X = true) (hY : Bundle.fit Y = true) (hn : ∀ n ∈ r, Bundle.fit n = true) (h : ∀ c ∈ Bundle.passSAtoms X Y ix rx ++ Bundle.chainSAtoms Y r, c.before args s = true) :
    ∃ (P1 : PassC) (Ps : List PassC), Ps.length = r.length + 1 ∧ P1.LinksS pl s ∧ (∀ P, P ∈ Ps → P.LinksS pl s) ∧ s.methodNamed? (Bundle.initS X) = some P1.m ∧
        P1.sup = firstOf top (Ps.map (·.toPassT)) ∧ PassesOn top (Ps.map (·.toPassT)) := by
  obtain ⟨P, L, hm, hs⟩ := PassC.ofS_atoms (args := args) (s := s) hpl (X := X) (Y := Y) (Bundle.fit_spec hX).1 (Bundle.fit_spec hY).2 x0 x1 x2 x5 (fun c hc => h c (List.mem_append_left _ hc))
  obtain ⟨P', Ps, hlen, L', hL, hm', hsup, hpass⟩ := Bundle.chainS (args := args) hpl htop r Y hY hn (fun c hc => h c (List.mem_append_right _ hc))
  refine ⟨P, P' :: Ps, by simp [hlen], L, ?_, hm, Option.some.inj (hs.symm.trans hm'), hsup, hpass⟩
  intro Q hQ
  rcases List.mem_cons.mp hQ with rfl | hQ
  · exact L'
  · exact hL Q hQ
set_option maxHeartbeats 1000000 in
theorem ex_ctor {p : Program} {l : Launch} {e : Env} {R : Room} {s : State} {m₀ : MethodId} {args : Array Value} {below : List Frame} {meth : Method} {c : Code} {W : State} {locs : List Loc} {cells slots : Nat} (X : Stand p l e R s m₀ args below meth c W locs cells slots) (hexec : p.tables.exec = Jvm.exec) (htr : e.platform.stackTraces = false) {own cls Y0 : String} {names : List String} {ic ix : Nat} {rx : ByteArray} (x0 : decode rx 0 = .ok (.aload_n 0, 1)) (x1 : decode rx 1 = .ok (.aload_n 1, 1)) (x2 : decode rx 2 = .ok (.invokespecial ix, 3)) (x5 : decode rx 5 = .ok (.return_, 1))
    (hown : s.vm.findClass own = some m₀.cls) (hcls : Bundle.fit cls = true) (hY : Bundle.fit Y0 = true) (hnames : ∀ n ∈ names, Bundle.fit n = true)
    (h : ∀ a ∈ ex_own own ic cls ix rx Y0 names, a.before args s = true)
    (hlocs : ∀ x ∈ locs, ∀ cell, s.heap[x.base]? = some cell → cell.vm.isStatics = false)
    {a : Addr} {cX : ClassId} {kX : Class} (hfoundX : s.vm.findClass cls = some cX) (hkX : s.vm.classes[cX]? = some kX) (hcell : W.heap[a]? = some (freshCell cX kX)) (hnew : s.heap.size ≤ a)
    {msg : Value} (hmsg : msg.isRef = true)
    {g : JFrame} (hg : g.method = m₀) (hsize : g.locals.size = c.maxLocals) (hlocked : g.locked = none) (hentered : g.entered = []) {rest : List Value} (hstack : g.stack = msg :: .ref a :: .ref a :: rest)
    (hd6 : decode c.code g.pc = .ok (.invokespecial ic, 3)) (hd9 : decode c.code (g.pc + 3) = .ok (.athrow, 1)) (hout : ∀ x ∈ c.exceptionTable.toList, covers x (g.pc + 3) = false)
    (hRframes : names.length + 4 < R.frames) (hRlocals : 2 * g.monitorRoom + ((Value.ref a :: rest).map fun v => v.category).sum + (13 * (names.length + 2) + 42) ≤ R.locals) (hlocks : meth.locks = false) :
    ∃ U : State, Steps p.tables e below (W.setTop g) U ∧ U.status = .running ∧ Ended U below (.threw a) ∧ s.WarmedH U.vm ∧ s.sameButNew ({ U with vm := s.vm } : State) locs cells slots ∧
      ∃ ce : Cell, U.heap[a]? = some ce ∧ s.vm.findClass cls = some ce.cls ∧ ce.vm = .none := by
  have howns : e.platform.frameOwnsMonitors = true := by rw [X.admits.platform]
  have hfin : e.platform.finalization = false := by rw [X.admits.platform]
  have hpl : e.platform.magicAccessors = ({} : Platform).magicAccessors := by rw [X.admits.platform]
  have a' : ∀ x, x ∈ ex_own own ic cls ix rx Y0 names → x.holds args s none s [] = true := fun x hx => h x hx
  obtain ⟨T, Z0, L, -, Y⟩ := ThrowableC.of_atoms (args := args) howns hfin hpl (fun x hx => h x (by simp only [ex_own, List.mem_append]; exact Or.inl (Or.inl (Or.inl hx))))
  obtain ⟨Z, M, LZ, LM, hnZ⟩ := Init0T.ofS_atoms (args := args) hpl L Y (fun x hx => h x (by simp only [ex_own, List.mem_append]; exact Or.inl (Or.inl (Or.inr hx))))
  obtain ⟨P1, Ps, hlen, L1, hL, hP1m, hlink1, hlink⟩ := ex_chain (args := args) hpl hnZ x0 x1 x2 x5 names cls Y0 hcls hY hnames (fun x hx => h x (by simp only [ex_own, List.mem_append] at hx ⊢; exact Or.inl (Or.inr hx)))
  have hfound : s.vm.findClass cls = some P1.m.cls := findClass_of_methodNamed hP1m
  cases Option.some.inj (hfoundX.symm.trans hfound)
  obtain ⟨c1, kX', hc1, hk, hord, -, -, hn6⟩ := Cond.instantiable_spec (a' (.instantiable cls 6) (by simp [ex_own]))
  cases Option.some.inj (hc1.symm.trans hfound)
  cases Option.some.inj (hkX.symm.trans hk)
  have hsel0 : selectMethod e.platform s.vm P1.m.cls T.fill0 = .method T.fill0 := by
    obtain ⟨c2, r2, m2, q1, q2, q3, q4, -⟩ := Cond.selects_spec (a' (.selects cls Bundle.tFill0 Bundle.tFill0) (by simp [ex_own]))
    cases Option.some.inj (q1.symm.trans hfound)
    cases Option.some.inj (q2.symm.trans (State.methodFound?_of_named Y.fill0 (by decide)))
    cases Option.some.inj (q3.symm.trans Y.fill0)
    rw [Launch.admits_selectMethod X.admits]; exact q4
  have hselF : selectMethod e.platform s.vm P1.m.cls T.fill = .method T.fill := by
    obtain ⟨c2, r2, m2, q1, q2, q3, q4, -⟩ := Cond.selects_spec (a' (.selects cls Bundle.tFill Bundle.tFill) (by simp [ex_own]))
    cases Option.some.inj (q1.symm.trans hfound)
    cases Option.some.inj (q2.symm.trans (State.methodFound?_of_named Y.fill (by decide)))
    cases Option.some.inj (q3.symm.trans Y.fill)
    rw [Launch.admits_selectMethod X.admits]; exact q4
  obtain ⟨cellS0, hcS0, hiss⟩ := Y.statics
  obtain ⟨u0, hu0⟩ := Cond.staticRefV Y.unassigned L.unassignedStatic L.statics hcS0 hiss (a' (.isRef (.static Bundle.tN "UNASSIGNED_STACK" Bundle.steD)) (by simp [ex_own]))
  obtain ⟨sen, hsen⟩ := Cond.staticRefV Y.sentinel L.sentinelStatic L.statics hcS0 hiss (a' (.isRef (.static Bundle.tN "SUPPRESSED_SENTINEL" Bundle.listD)) (by simp [ex_own]))
  obtain ⟨ci198, i198, fB, hk198, hg198, ha198, hsB, -, hnB, htB, hffB⟩ := Cond.ownField (t := .object "java/lang/Object") Y.found L.cls (by decide +kernel) (a' (.fieldLink Bundle.tN 198 Bundle.tN "backtrace" "Ljava/lang/Object;") (by simp [ex_own])) (a' (.lays Bundle.tN Bundle.tN "backtrace" "Ljava/lang/Object;") (by simp [ex_own])) e.platform hpl
  obtain ⟨cellS, hcS', heS, -, hkeep⟩ := X.same.2.2.2.2.2 T.aS cellS0 hcS0
  have hcellS : W.heap[T.aS]? = some cellS := hcS'
  have hout' : ∀ i, (⟨T.aS, i⟩ : Loc) ∉ locs := fun i hmem => by
    have := hlocs _ hmem cellS0 hcS0
    rw [hiss] at this; cases this
  have hknownS : cellS.vm ≠ .unknown := by
    rw [heS]; intro hu
    rw [show cellS0.vm = .unknown from hu] at hiss
    cases hiss
  have hneS : T.aS ≠ a := Nat.ne_of_lt (Nat.lt_of_lt_of_le (Array.getElem?_eq_some_iff.mp hcS0).1 hnew)
  obtain ⟨iM, hffM⟩ := Y.msg
  obtain ⟨tyC, dC, hdC, hdnC⟩ := Cond.laysAt hfound hk Y.cause (a' (.lays cls Bundle.tN "cause" "Ljava/lang/Throwable;") (by simp [ex_own]))
  obtain ⟨tyS, dS, hdS, hdnS⟩ := Cond.laysAt hfound hk Y.stack (a' (.lays cls Bundle.tN "stackTrace" Bundle.steD) (by simp [ex_own]))
  obtain ⟨tyP, dP, hdP, hdnP⟩ := Cond.laysAt hfound hk Y.supp (a' (.lays cls Bundle.tN "suppressedExceptions" Bundle.listD) (by simp [ex_own]))
  obtain ⟨tyM, dM, hdM, hdnM⟩ := Cond.laysAt hfound hk hffM (a' (.lays cls Bundle.tN "detailMessage" "Ljava/lang/String;") (by simp [ex_own]))
  obtain ⟨tyB, dB, hdB, hdnB⟩ := Cond.laysAt hfound hk hffB (a' (.lays cls Bundle.tN "backtrace" "Ljava/lang/Object;") (by simp [ex_own]))
  have bC := Cond.laysApart hdB hdC hdnB hdnC (by rw [hnB, Y.causeName]; decide)
  have bS := Cond.laysApart hdB hdS hdnB hdnS (by rw [hnB, Y.stackName]; decide)
  have bP := Cond.laysApart hdB hdP hdnB hdnP (by rw [hnB, Y.suppName]; decide)
  have hskip : SkipFacts T e.platform s (fun u => u) u0 ((preparedCellV T.toThrowableT (freshCell P1.m.cls kX) a u0 sen).withEntry W.cur) :=
    ⟨{ ci198 := ci198, i198 := i198, fBack := fB }, ⟨hk198, hg198, ha198, hsB⟩, by
      have := fresh_default (c := P1.m.cls) tyB
      rw [htB] at this
      simpa [preparedCellV, Cell.setSlot, Cell.withEntry, Array.getElem?_setIfInBounds, bC, bS, bP, bC.symm, bS.symm, bP.symm, defaultValue] using this, fun _ _ => rfl⟩
  obtain ⟨tm, methC, cdC, kC, vm₁, hnC, -, -, -, -, -, -, -, hW₁, st1⟩ := Steps.initColdS (tb := p.tables) (e := e) (below := below) (s := s) (U := W) X.here hexec X.warmed hpl hown (t := Bundle.initS cls) rfl rfl (Bundle.fit_spec hcls).2
    (a' (.methodLink own ic (Bundle.initS cls)) (by simp [ex_own])) (h (.instanceMethod (Bundle.initS cls)) (by simp [ex_own, Bundle.passSAtoms])) (bytes := rx) (maxL := 2) (h (.code (Bundle.initS cls) rx 2 none) (by simp [ex_own, Bundle.passSAtoms]))
    (f := g) hg (a := a) (msg := msg) (rest := .ref a :: rest) hstack hd6
  cases Option.some.inj (hnC.symm.trans hP1m)
  have X₁ := X.noted hW₁
  obtain ⟨vm₂, X₂, st2⟩ := X₁.ctorMessageOffV hexec (g := { g with stack := .ref a :: rest }) hg hsize T L Z LZ M LM (P1 :: Ps)
    (fun P hP => by rcases List.mem_cons.mp hP with rfl | hP; exact L1; exact hL P hP) ⟨hlink1, hlink⟩ (u0 := u0) (sen := sen) (self := a) hmsg (cell := freshCell P1.m.cls kX) (cellS := cellS)
    hcell (fun _ => by simp) (by simp) rfl rfl hsel0 hselF hcellS hneS hknownS (by rw [hkeep _ (hout' _)]; exact hu0) (by rw [hkeep _ (hout' _)]; exact hsen)
    (Takes.of_laid hk hord tyC (by rw [Y.causeType]; rfl)) (Takes.of_laid hk hord tyS (by rw [Y.stackType]; exact fits_refV_array _ u0)) (Takes.of_laid hk hord tyP (by rw [Y.suppType]; exact fits_refV_object _ sen))
    (Takes.of_laid hk hord tyM (by rw [Y.msgType]; exact fits_refV_object _ ⟨msg, hmsg⟩)) Y.objLocals hskip htr [] hd6
    (by simp only [List.length_cons, hlen]; omega) (by simp only [List.length_cons, hlen]; exact hRlocals)
  obtain ⟨hwalk, hrun, hended, hWU, hsame⟩ := X₂.athrowLeaves hexec (g := { g with stack := .ref a :: rest, pc := g.pc + 3 }) hg hlocked hentered hout (a := a) (rest := rest) rfl hd9
  obtain ⟨c3, c4, hc3, hc4, hasg⟩ := Cond.castable_spec (a' (.castable cls cls) (by simp [ex_own]))
  cases Option.some.inj (hc3.symm.trans hfound)
  cases Option.some.inj (hc4.symm.trans hfound)
  have hlt : a < ((W.setVm vm₁).setVm vm₂).heap.size := (Array.getElem?_eq_some_iff.mp hcell).1
  have hU := heapAt_setCell_self (s := (W.setVm vm₁).setVm vm₂) (plainBareV T.toThrowableT (freshCell P1.m.cls kX) a u0 sen msg) hlt
  refine ⟨_, st1 _ (fun acts => ?_), hrun, hended, hWU, hsame.weaken (fun y hy hlt' => ?_) (Nat.le_refl _) (Nat.le_refl _), _, hU, hfound, rfl⟩
  · rw [doInvoke_state]
    exact st2 _ hwalk
  · rcases List.mem_append.mp hy with h1 | h1
    · exact h1
    · exfalso
      have hb : y.base = a := by
        simp only [List.mem_cons, List.not_mem_nil, or_false] at h1
        rcases h1 with rfl | rfl | rfl | rfl | rfl <;> rfl
      rw [hb] at hlt'
      exact Nat.not_lt.mpr hnew hlt'
theorem ex_throwW {p : Program} {l : Launch} {e : Env} {R : Room} {s : State} {m : MethodId} {args : Array Value} {below : List Frame} {meth : Method} {c : Code} {H : Heap} {locs : List Loc} {cells slots : Nat} {free : Addr → Prop} {ls : Array Slot} {rest : List Value} {Qc : Array Value → State → Outcome → State → Prop} {XC : String → State → State → Prop} {Y0 : String} {ix : Nat} {rx : ByteArray} (x0 : decode rx 0 = .ok (.aload_n 0, 1)) (x1 : decode rx 1 = .ok (.aload_n 1, 1)) (x2 : decode rx 2 = .ok (.invokespecial ix, 3)) (x5 : decode rx 5 = .ok (.return_, 1)) (hY : Bundle.fit Y0 = true) {cc : ByteArray} {pc : Nat} (hexec : p.tables.exec = Jvm.exec) (hb : c.code = cc) (hl : l.stackTraces = false) {own cls text : String} {names : List String} {ik is ic mc ms sa : Nat} {A : Nat → Prop}
    (hown : s.vm.findClass own = some m.cls) (hcls : Bundle.fit cls = true) (hnames : ∀ n ∈ names, Bundle.fit n = true)
    (hk : (Cond.classLink own ik cls).before args s = true) (hini : (Cond.initialized cls).before args s = true) (hstr : vk_R own is text sa s) (hat : ∀ w ∈ (ex_own own ic cls ix rx Y0 names).filter vx_no, w.before args s = true)
    (hgood : ∀ w ∈ Cond.classLink own ik cls :: Cond.initialized cls :: (ex_own own ic cls ix rx Y0 names).filter vx_no, vx_ot w = true)
    (hU : vx_Zq Bundle.tN "UNASSIGNED_STACK" Bundle.steD A s s.heap) (hN : vx_Zq Bundle.tN "SUPPRESSED_SENTINEL" Bundle.listD A s s.heap) (hS : va_S A s.heap H locs) (hsize : ls.size = c.maxLocals)
    (d0 : decode cc pc = .ok (.new ik, 3)) (d3 : decode cc (pc + 3) = .ok (.dup, 1)) (d4 : decode cc (pc + 4) = .ok (.ldc_w is, 3)) (d7 : decode cc (pc + 7) = .ok (.invokespecial ic, 3)) (d10 : decode cc (pc + 10) = .ok (.athrow, 1))
    (hout : ∀ x ∈ c.exceptionTable.toList, covers x (pc + 10) = false)
    (hRframes : names.length + 4 < R.frames) (hRlocals : (rest.map fun v => v.category).sum + (13 * (names.length + 2) + 43) ≤ R.locals) (hRcells : cells + 1 ≤ R.cells) (hRslots : slots + 6 ≤ R.slots) (hlocks : meth.locks = false)
    (hx : ∀ t : State, s.vm.Alike t.vm → H.size ≤ t.heap.size → (∀ q : Nat, q < H.size → t.heap[q]? = H[q]?) → XC cls s t)
    (hf : ∀ z ∈ locs, free z.base) (hc : cells + 1 ≤ mc) (hs : slots + 6 ≤ ms) :
    W p l e R s m args below meth c H locs cells slots (vx_MQ below Qc XC args s mc ms free) (F0 m pc ls rest) := by
  intro T hT X
  have htr : e.platform.stackTraces = false := (show e.platform.stackTraces = l.stackTraces by rw [X.admits.platform]).trans hl
  have Y := vx_rebase X (R' := { frames := R.frames, locals := R.locals, cells := 1, slots := 6 }) (Nat.le_refl _) (Nat.le_refl _) hRcells hRslots
  obtain ⟨s', hA⟩ : ∃ z, z = (T.setVm s.vm).setFrames (.invoking m args :: below) := ⟨_, rfl⟩
  rw [← hA] at Y
  have hvm : s'.vm = s.vm := by rw [hA]; rfl
  have hhp : s'.heap = H := by rw [hA]; exact hT
  have hW0 : s.WarmedH s'.vm := by rw [hvm]; exact State.WarmedH.refl s
  have hat' : ∀ w ∈ (ex_own own ic cls ix rx Y0 names).filter vx_no, w.before args s' = true := fun w hw => vx_ot_at hW0 hvm.symm (hgood w (List.mem_cons_of_mem _ (List.mem_cons_of_mem _ hw))) (hat w hw)
  have hk' : (Cond.classLink own ik cls).before args s' = true := vx_ot_at hW0 hvm.symm (hgood _ List.mem_cons_self) hk
  have hini' : (Cond.initialized cls).before args s' = true := vx_ot_at hW0 hvm.symm (hgood _ (List.mem_cons_of_mem _ List.mem_cons_self)) hini
  have hU' : vx_Zq Bundle.tN "UNASSIGNED_STACK" Bundle.steD A s' s'.heap := by rw [hhp]; exact vx_Zq.moved hW0.alike (hU.kept hS.2.1)
  have hN' : vx_Zq Bundle.tN "SUPPRESSED_SENTINEL" Bundle.listD A s' s'.heap := by rw [hhp]; exact vx_Zq.moved hW0.alike (hN.kept hS.2.1)
  have h : ∀ w ∈ ex_own own ic cls ix rx Y0 names, w.before args s' = true := vx_own hat' (vx_isRefq hU'.1) (vx_isRefq hN'.1) hU'.2.word hN'.2.word
  have hown' : s'.vm.findClass own = some m.cls := by rw [hvm]; exact hown
  have hins : (Cond.instantiable cls 6).before args s' = true := h _ (by simp [ex_own])
  obtain ⟨vm₁, cX, kX, hfX, hkX, -, -, X₁, st1⟩ := Y.newCold hexec (own := own) (C := cls) (index := ik) (n := 6) hown' hk' hins hini'
    (g := F0 m pc ls rest) rfl (by rw [hb]; exact d0) (Nat.le_refl _) (Nat.le_refl _)
  generalize hT1 : (T.setVm vm₁).pushCell { cls := cX, slots := kX.instanceTypes.map defaultValue, vm := .none } = T1 at X₁ st1
  have hcat : (Value.ref T.heap.size).category = 1 := rfl
  have hcellA : T1.heap[T.heap.size]? = some (freshCell cX kX) := by rw [← hT1]; exact State.heap_pushCell_size _ _
  have d3' : decode c.code (pc + 3) = .ok (.dup, 1) := by rw [hb]; exact d3
  have d4' : decode c.code (pc + 4) = .ok (.ldc_w is, 3) := by rw [hb]; exact d4
  have hstr' : vk_R own is text sa s' := vk_R.warm hW0 hstr
  obtain ⟨U, hsteps, hrun, hend, hW, hsame, ce, hce, hO⟩ := ex_ctor X₁ hexec htr (own := own) (cls := cls) (names := names) (ic := ic) x0 x1 x2 x5 hown' hcls hY hnames h (fun x hx => nomatch hx) hfX hkX hcellA (by rw [hhp, hT]; exact Nat.le_refl _) (msg := .ref sa) rfl
    (g := { method := m, pc := pc + 7, locals := ls, stack := .ref sa :: .ref T.heap.size :: .ref T.heap.size :: rest, locked := none }) rfl hsize rfl rfl (rest := rest) rfl
    (by rw [hb]; exact d7) (by rw [hb]; exact d10) hout hRframes (by simp only [List.map_cons, List.sum_cons, hcat]; omega) hlocks
  obtain ⟨f1, f2⟩ := vx_frame hsame
  rw [hhp] at f1 f2
  have hWs : s.WarmedH U.vm := State.WarmedH.trans hW0 hW
  have hcl : s.vm.findClass cls = some ce.cls := by
    have h9 := hO.1
    rw [hvm] at h9
    exact h9
  have hall : s.sameButNew ({ U with vm := s.vm } : State) locs mc ms := by
    subst hA
    obtain ⟨e1, e2⟩ := hsame
    rw [State.setFrames_setFrames] at e1
    have h2 : (T.setVm s.vm).sameButNew ({ U with vm := s.vm } : State) [] (0 + 1) (0 + 6) := ⟨e1, e2⟩
    have h3 := X.same.trans h2
    rw [List.append_nil] at h3
    exact h3.mono hc hs
  refine ⟨U, ?_, .threw T.heap.size, hrun, hend, Or.inr ⟨T.heap.size, rfl, cls, ce, locs, hx U hWs.alike f1 (fun q hq => f2 q hq (fun z hz => nomatch hz)), hce, hO.2, hcl, hWs, hall, hf⟩⟩
  refine st1 _ ?_
  show Steps p.tables e below (T1.setTop { method := m, pc := pc + 3, locals := ls, stack := .ref T.heap.size :: rest, locked := none }) _
  jvm_step X₁.here [X₁.here.top, hexec, d3', Value.category]
  exact X₁.ldcStringW hexec (own := own) (text := text) (index := is) (a := sa) hown' hstr'.1 hstr'.2
    (g := { method := m, pc := pc + 4, locals := ls, stack := .ref T.heap.size :: .ref T.heap.size :: rest, locked := none }) rfl d4' _ hsteps
/-! throws -/
section TH
variable {x : xG} {p : Program} {l : Launch} {e : Env} {R : Room} {s : State} {m : MethodId} {args : Array Value} {below : List Frame} {meth : Method} {c : Code} {Q : State → Prop} {cc : ByteArray} {nL : Nat} {pc : Nat} {lo : List (Nat × Value)} {st : List Value} {w : Wd} {i j : Nat}
variable {own : String}
/-- a throw of a new exception with a text (wide or narrow index) -/
theorem gx_thrX (C : xC x p s m c cc nL args own) {Y0 : String} {ix : Nat} {rx : ByteArray} (x0 : decode rx 0 = .ok (.aload_n 0, 1)) (x1 : decode rx 1 = .ok (.aload_n 1, 1)) (x2 : decode rx 2 = .ok (.invokespecial ix, 3)) (x5 : decode rx 5 = .ok (.return_, 1)) (hY : Bundle.fit Y0 = true) {Qc : Array Value → State → Outcome → State → Prop} {X : String → Wd → Prop} {cls text : String} {ik is ic q k0 D mc ms MC MS : Nat} (hl : l.stackTraces = false) (htab : ∀ z ∈ c.exceptionTable.toList, False) (hlk : meth.locks = false) (hcls : Bundle.fit cls = true) (hk : Cond.classLink own ik cls ∈ gT) (hini : Cond.initialized cls ∈ gT) (hq : strT[q]? = some (own, is, text, k0)) (hat : ∀ w ∈ (ex_own own ic cls ix rx Y0 ["java/lang/Exception"]).filter vx_no, w ∈ gT ∨ w ∈ offW)
    (hgood : ∀ w ∈ Cond.classLink own ik cls :: Cond.initialized cls :: (ex_own own ic cls ix rx Y0 ["java/lang/Exception"]).filter vx_no, vx_ot w = true)
    (d0 : decode cc pc = .ok (.new ik, 3)) (d3 : decode cc (pc + 3) = .ok (.dup, 1)) (d4 : decode cc (pc + 4) = .ok (.ldc_w is, 3) ∧ decode cc (pc + 7) = .ok (.invokespecial ic, 3) ∧ decode cc (pc + 10) = .ok (.athrow, 1))
    (hD : 6 ≤ D) (hst : (st.map fun v => v.category).sum ≤ 8) (hb : i + 1 ≤ MC ∧ j + 6 ≤ MS) (hb2 : MC ≤ mc ∧ MS ≤ ms) (hX : ∀ N, wN w ≤ N → X cls (wJ w N)) : GW x p l e (rmd D MC MS) s m args below meth c nL (vx_MQ below Qc (XCx x X) args s mc ms (xA x)) pc lo st w i j := by
  intro H locs ls h1 h2 h3
  have hat2 : ∀ w ∈ (ex_own own ic cls ix rx Y0 ["java/lang/Exception"]).filter vx_no, w.before args s = true := fun w hw => by
    rcases hat w hw with h | h
    · exact C.1.2.2.2.2 _ h
    · have h5 := C.2.2.1.2.2.2.2.2.2.2.2.2.2.1 _ h
      rcases offW_kind w h with ⟨a1, a2, rfl⟩ | ⟨a1, rfl⟩
      · exact va_Nw.use rfl h5
      · exact va_Nw.use rfl h5
  have hx : ∀ t : State, s.vm.Alike t.vm → H.size ≤ t.heap.size → (∀ q : Nat, q < H.size → t.heap[q]? = H[q]?) → XCx x X cls s t := fun t _ z o => by
    obtain ⟨z1, z2⟩ := h1.junk z o
    exact ⟨(cls, _), hX _ z1, ⟨rfl, z2⟩, Nat.le_trans h2.1 z, fun q a1 a2 => (o q (Nat.lt_of_lt_of_le a1 h2.1)).trans (h2.2.1 q a1 a2)⟩
  obtain ⟨d4, d7, d10⟩ := d4
  exact ex_throwW x0 x1 x2 x5 hY C.1.1 C.1.2.1 hl C.1.2.2.2.1 hcls (by decide) (C.1.2.2.2.2 _ hk) (C.1.2.2.2.2 _ hini) (C.2.2.1.2.1 q _ hq) hat2 hgood C.2.2.1.2.2.2.2.2.2.2.1 C.2.2.1.2.2.2.2.2.2.2.2.1 h2 (h3.1.trans C.1.2.2.1.symm) d0 d3 d4 d7 d10 (fun z hz => (htab z hz).elim) (by show 1 + 4 < D; omega) (by show _ + (13 * (1 + 2) + 43) ≤ 64 * D; omega) hb.1 hb.2 hlk hx h2.2.2 (Nat.le_trans hb.1 hb2.1) (Nat.le_trans hb.2 hb2.2)

theorem ta_IllegalArgumentException : ∀ w ∈ vx_atS RX11 429 "java/lang/IllegalArgumentException" ["java/lang/RuntimeException", "java/lang/Exception"], w ∈ gT ∨ w ∈ offW := by
  intro w hw
  by_cases hg : goodWord w = true
  · exact Or.inl (gT_sub ((vx_atS RX11 429 "java/lang/IllegalArgumentException" ["java/lang/RuntimeException", "java/lang/Exception"]).filter goodWord) [139, 830, 839, 844, 847, 849, 831, 832, 160, 161, 833, 838, 845, 865, 820, 866, 822, 867, 824, 834, 836, 826, 861, 862, 864, 826, 852, 853, 854, 855, 855, 856, 857, 858, 858, 859, 860, 861, 851, 809, 817, 818, 819, 821, 823, 825, 829, 828, 827] (by decide +kernel) (by decide +kernel) w (List.mem_filter.mpr ⟨hw, hg⟩))
  · have h2 : ∀ w ∈ (vx_atS RX11 429 "java/lang/IllegalArgumentException" ["java/lang/RuntimeException", "java/lang/Exception"]).filter (fun w => !goodWord w), w ∈ offW := by decide +kernel
    exact Or.inr (h2 w (List.mem_filter.mpr ⟨hw, by simpa using hg⟩))
theorem tg_IllegalArgumentException : ∀ w ∈ Cond.classLink RX11 425 "java/lang/IllegalArgumentException" :: Cond.initialized "java/lang/IllegalArgumentException" :: vx_atS RX11 429 "java/lang/IllegalArgumentException" ["java/lang/RuntimeException", "java/lang/Exception"], vx_ot w = true := by decide +kernel
theorem tk_IllegalArgumentException : Cond.classLink RX11 425 "java/lang/IllegalArgumentException" ∈ gT ∧ Cond.initialized "java/lang/IllegalArgumentException" ∈ gT := ⟨gT_at 808 (by decide +kernel) rfl, gT_at 142 (by decide +kernel) rfl⟩
theorem thr_IllegalArgumentException (C : xC x p s m c cc nL args RX11) {Qc : Array Value → State → Outcome → State → Prop} {X : String → Wd → Prop} {text : String} {is q k0 D mc ms : Nat} (hl : l.stackTraces = false) (htab : ∀ z ∈ c.exceptionTable.toList, False) (hlk : meth.locks = false) (hq : strT[q]? = some (RX11, is, text, k0))
    (d0 : decode cc pc = .ok (.new 425, 3)) (d3 : decode cc (pc + 3) = .ok (.dup, 1)) (d4 : (decode cc (pc + 4) = .ok (.ldc is, 2) ∧ decode cc (pc + 6) = .ok (.invokespecial 429, 3) ∧ decode cc (pc + 9) = .ok (.athrow, 1)) ∨ (decode cc (pc + 4) = .ok (.ldc_w is, 3) ∧ decode cc (pc + 7) = .ok (.invokespecial 429, 3) ∧ decode cc (pc + 10) = .ok (.athrow, 1)))
    (hD : 6 ≤ D) (hst : (st.map fun v => v.category).sum ≤ 8) (hb : i + 1 ≤ mc ∧ j + 6 ≤ ms) (hX : ∀ N, wN w ≤ N → X "java/lang/IllegalArgumentException" (wJ w N)) : GW x p l e (rmd D mc ms) s m args below meth c nL (vx_MQ below Qc (XCx x X) args s mc ms (xA x)) pc lo st w i j :=
  gx_thr C hl htab hlk (by decide) tk_IllegalArgumentException.1 tk_IllegalArgumentException.2 hq ta_IllegalArgumentException tg_IllegalArgumentException d0 d3 d4 hD hst hb ⟨Nat.le_refl _, Nat.le_refl _⟩ hX
def nseB : ByteArray := ⟨#[0x2a, 0x2b, 0xb7, 0x00, 0x0d, 0xb1]⟩
theorem ta_NoSuchElementException : ∀ w ∈ (ex_own RX11 422 "java/util/NoSuchElementException" 13 nseB "java/lang/RuntimeException" ["java/lang/Exception"]).filter vx_no, w ∈ gT ∨ w ∈ offW := by
  intro w hw
  by_cases hg : goodWord w = true
  · exact Or.inl (gT_sub (((ex_own RX11 422 "java/util/NoSuchElementException" 13 nseB "java/lang/RuntimeException" ["java/lang/Exception"]).filter vx_no).filter goodWord) [139, 830, 839, 844, 847, 849, 831, 832, 160, 161, 833, 838, 845, 865, 820, 866, 822, 867, 824, 834, 836, 826, 861, 862, 864, 826, 1118, 1119, 1120, 855, 855, 856, 857, 858, 858, 859, 860, 861, 1117, 1108, 1110, 843, 1111, 1112, 1113, 1114, 829, 828, 1115] (by decide +kernel) (by decide +kernel) w (List.mem_filter.mpr ⟨hw, hg⟩))
  · have h2 : ∀ w ∈ ((ex_own RX11 422 "java/util/NoSuchElementException" 13 nseB "java/lang/RuntimeException" ["java/lang/Exception"]).filter vx_no).filter (fun w => !goodWord w), w ∈ offW := by decide +kernel
    exact Or.inr (h2 w (List.mem_filter.mpr ⟨hw, by simpa using hg⟩))
theorem tg_NoSuchElementException : ∀ w ∈ Cond.classLink RX11 418 "java/util/NoSuchElementException" :: Cond.initialized "java/util/NoSuchElementException" :: (ex_own RX11 422 "java/util/NoSuchElementException" 13 nseB "java/lang/RuntimeException" ["java/lang/Exception"]).filter vx_no, vx_ot w = true := by decide +kernel
theorem tk_NoSuchElementException : Cond.classLink RX11 418 "java/util/NoSuchElementException" ∈ gT ∧ Cond.initialized "java/util/NoSuchElementException" ∈ gT := ⟨gT_at 1107 (by decide +kernel) rfl, gT_at 148 (by decide +kernel) rfl⟩
theorem thr_NoSuchElementException (C : xC x p s m c cc nL args RX11) {Qc : Array Value → State → Outcome → State → Prop} {X : String → Wd → Prop} {text : String} {is q k0 D mc ms : Nat} (hl : l.stackTraces = false) (htab : ∀ z ∈ c.exceptionTable.toList, False) (hlk : meth.locks = false) (hq : strT[q]? = some (RX11, is, text, k0))
    (d0 : decode cc pc = .ok (.new 418, 3)) (d3 : decode cc (pc + 3) = .ok (.dup, 1)) (d4 : (decode cc (pc + 4) = .ok (.ldc_w is, 3) ∧ decode cc (pc + 7) = .ok (.invokespecial 422, 3) ∧ decode cc (pc + 10) = .ok (.athrow, 1)))
    (hD : 6 ≤ D) (hst : (st.map fun v => v.category).sum ≤ 8) (hb : i + 1 ≤ mc ∧ j + 6 ≤ ms) (hX : ∀ N, wN w ≤ N → X "java/util/NoSuchElementException" (wJ w N)) : GW x p l e (rmd D mc ms) s m args below meth c nL (vx_MQ below Qc (XCx x X) args s mc ms (xA x)) pc lo st w i j :=
  gx_thrX C (rx := nseB) (by decide +kernel) (by decide +kernel) (by decide +kernel) (by decide +kernel) (by decide) hl htab hlk (by decide) tk_NoSuchElementException.1 tk_NoSuchElementException.2 hq ta_NoSuchElementException tg_NoSuchElementException d0 d3 d4 hD hst hb ⟨Nat.le_refl _, Nat.le_refl _⟩ hX
theorem ta_IllegalStateException : ∀ w ∈ vx_atS RX11 401 "java/lang/IllegalStateException" ["java/lang/RuntimeException", "java/lang/Exception"], w ∈ gT ∨ w ∈ offW := by
  intro w hw
  by_cases hg : goodWord w = true
  · exact Or.inl (gT_sub ((vx_atS RX11 401 "java/lang/IllegalStateException" ["java/lang/RuntimeException", "java/lang/Exception"]).filter goodWord) [139, 830, 839, 844, 847, 849, 831, 832, 160, 161, 833, 838, 845, 865, 820, 866, 822, 867, 824, 834, 836, 826, 861, 862, 864, 826, 1195, 1196, 1197, 855, 855, 856, 857, 858, 858, 859, 860, 861, 1194, 1185, 1187, 841, 1188, 1189, 1190, 1191, 829, 828, 1192] (by decide +kernel) (by decide +kernel) w (List.mem_filter.mpr ⟨hw, hg⟩))
  · have h2 : ∀ w ∈ (vx_atS RX11 401 "java/lang/IllegalStateException" ["java/lang/RuntimeException", "java/lang/Exception"]).filter (fun w => !goodWord w), w ∈ offW := by decide +kernel
    exact Or.inr (h2 w (List.mem_filter.mpr ⟨hw, by simpa using hg⟩))
theorem tg_IllegalStateException : ∀ w ∈ Cond.classLink RX11 397 "java/lang/IllegalStateException" :: Cond.initialized "java/lang/IllegalStateException" :: vx_atS RX11 401 "java/lang/IllegalStateException" ["java/lang/RuntimeException", "java/lang/Exception"], vx_ot w = true := by decide +kernel
theorem tk_IllegalStateException : Cond.classLink RX11 397 "java/lang/IllegalStateException" ∈ gT ∧ Cond.initialized "java/lang/IllegalStateException" ∈ gT := ⟨gT_at 1184 (by decide +kernel) rfl, gT_at 150 (by decide +kernel) rfl⟩
theorem thr_IllegalStateException (C : xC x p s m c cc nL args RX11) {Qc : Array Value → State → Outcome → State → Prop} {X : String → Wd → Prop} {text : String} {is q k0 D mc ms : Nat} (hl : l.stackTraces = false) (htab : ∀ z ∈ c.exceptionTable.toList, False) (hlk : meth.locks = false) (hq : strT[q]? = some (RX11, is, text, k0))
    (d0 : decode cc pc = .ok (.new 397, 3)) (d3 : decode cc (pc + 3) = .ok (.dup, 1)) (d4 : (decode cc (pc + 4) = .ok (.ldc is, 2) ∧ decode cc (pc + 6) = .ok (.invokespecial 401, 3) ∧ decode cc (pc + 9) = .ok (.athrow, 1)) ∨ (decode cc (pc + 4) = .ok (.ldc_w is, 3) ∧ decode cc (pc + 7) = .ok (.invokespecial 401, 3) ∧ decode cc (pc + 10) = .ok (.athrow, 1)))
    (hD : 6 ≤ D) (hst : (st.map fun v => v.category).sum ≤ 8) (hb : i + 1 ≤ mc ∧ j + 6 ≤ ms) (hX : ∀ N, wN w ≤ N → X "java/lang/IllegalStateException" (wJ w N)) : GW x p l e (rmd D mc ms) s m args below meth c nL (vx_MQ below Qc (XCx x X) args s mc ms (xA x)) pc lo st w i j :=
  gx_thr C hl htab hlk (by decide) tk_IllegalStateException.1 tk_IllegalStateException.2 hq ta_IllegalStateException tg_IllegalStateException d0 d3 d4 hD hst hb ⟨Nat.le_refl _, Nat.le_refl _⟩ hX
theorem ta_IndexOutOfBoundsException : ∀ w ∈ vx_atS RX11 376 "java/lang/IndexOutOfBoundsException" ["java/lang/RuntimeException", "java/lang/Exception"], w ∈ gT ∨ w ∈ offW := by
  intro w hw
  by_cases hg : goodWord w = true
  · exact Or.inl (gT_sub ((vx_atS RX11 376 "java/lang/IndexOutOfBoundsException" ["java/lang/RuntimeException", "java/lang/Exception"]).filter goodWord) [139, 830, 839, 844, 847, 849, 831, 832, 160, 161, 833, 838, 845, 865, 820, 866, 822, 867, 824, 834, 836, 826, 861, 862, 864, 826, 1633, 1634, 1635, 855, 855, 856, 857, 858, 858, 859, 860, 861, 1632, 1623, 1625, 842, 1626, 1627, 1628, 1629, 829, 828, 1630] (by decide +kernel) (by decide +kernel) w (List.mem_filter.mpr ⟨hw, hg⟩))
  · have h2 : ∀ w ∈ (vx_atS RX11 376 "java/lang/IndexOutOfBoundsException" ["java/lang/RuntimeException", "java/lang/Exception"]).filter (fun w => !goodWord w), w ∈ offW := by decide +kernel
    exact Or.inr (h2 w (List.mem_filter.mpr ⟨hw, by simpa using hg⟩))
theorem tg_IndexOutOfBoundsException : ∀ w ∈ Cond.classLink RX11 372 "java/lang/IndexOutOfBoundsException" :: Cond.initialized "java/lang/IndexOutOfBoundsException" :: vx_atS RX11 376 "java/lang/IndexOutOfBoundsException" ["java/lang/RuntimeException", "java/lang/Exception"], vx_ot w = true := by decide +kernel
theorem tk_IndexOutOfBoundsException : Cond.classLink RX11 372 "java/lang/IndexOutOfBoundsException" ∈ gT ∧ Cond.initialized "java/lang/IndexOutOfBoundsException" ∈ gT := ⟨gT_at 1622 (by decide +kernel) rfl, gT_at 153 (by decide +kernel) rfl⟩
theorem thr_IndexOutOfBoundsException (C : xC x p s m c cc nL args RX11) {Qc : Array Value → State → Outcome → State → Prop} {X : String → Wd → Prop} {text : String} {is q k0 D mc ms : Nat} (hl : l.stackTraces = false) (htab : ∀ z ∈ c.exceptionTable.toList, False) (hlk : meth.locks = false) (hq : strT[q]? = some (RX11, is, text, k0))
    (d0 : decode cc pc = .ok (.new 372, 3)) (d3 : decode cc (pc + 3) = .ok (.dup, 1)) (d4 : (decode cc (pc + 4) = .ok (.ldc is, 2) ∧ decode cc (pc + 6) = .ok (.invokespecial 376, 3) ∧ decode cc (pc + 9) = .ok (.athrow, 1)) ∨ (decode cc (pc + 4) = .ok (.ldc_w is, 3) ∧ decode cc (pc + 7) = .ok (.invokespecial 376, 3) ∧ decode cc (pc + 10) = .ok (.athrow, 1)))
    (hD : 6 ≤ D) (hst : (st.map fun v => v.category).sum ≤ 8) (hb : i + 1 ≤ mc ∧ j + 6 ≤ ms) (hX : ∀ N, wN w ≤ N → X "java/lang/IndexOutOfBoundsException" (wJ w N)) : GW x p l e (rmd D mc ms) s m args below meth c nL (vx_MQ below Qc (XCx x X) args s mc ms (xA x)) pc lo st w i j :=
  gx_thr C hl htab hlk (by decide) tk_IndexOutOfBoundsException.1 tk_IndexOutOfBoundsException.2 hq ta_IndexOutOfBoundsException tg_IndexOutOfBoundsException d0 d3 d4 hD hst hb ⟨Nat.le_refl _, Nat.le_refl _⟩ hX
end TH
