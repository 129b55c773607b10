/-! methods: X12_init, X1_init, X2_init, X5_init, X10_init, X4_init, X0_init, X3_init, X8_init, X6_init, X9_init, X7_init, X7_readLaw, X7_readLine, X7_readText, X11_anyImage, X11_anyTray, X11_needWithin, X11_needNoise, X11_needWell, X11_chain, X11_chorus, X11_presentTray, X11_copy, X11_hasIn, X11_heardTray, X11_hills -/
section ME
variable {x : xG} {p : Program} {l : Launch} {e : Env} {R : Room} {s : State} {m : MethodId} {args : Array Value} {below : List Frame} {meth : Method} {c : Code} {Q : State → Prop} {cc : ByteArray} {nL : Nat} {pc : Nat} {lo : List (Nat × Value)} {st : List Value} {w : Wd} {i j : Nat}
def w_X12_init (mc ms : Nat) (a0 : Nat) (K : Wd → Prop) (w : Wd) : Prop :=
  (1 ≤ mc ∧ 1215 ≤ ms) ∧ ∀ r2 w3, r2 = wN w → w3 = wA w 20 1215 → isK w3 a0 12 ∧ r2 ≠ 0 ∧ (2 ≤ mc ∧ 2430 ≤ ms) ∧ ∀ r9 w10, r9 = wN (uR w3 a0 0 r2) → w10 = wA (uR w3 a0 0 r2) 20 1215 → isK w10 a0 12 ∧ r9 ≠ 0 ∧ (3 ≤ mc ∧ 6075 ≤ ms) ∧ ∀ r16 w17, r16 = wN (uR w10 a0 1 r9) → w17 = wA (uR w10 a0 1 r9) 20 3645 → isK w17 a0 12 ∧ r16 ≠ 0 ∧ (4 ≤ mc ∧ 6078 ≤ ms) ∧ ∀ r23 w24, r23 = wN (uR w17 a0 2 r16) → w24 = wA (uR w17 a0 2 r16) 23 3 → isK w24 a0 12 ∧ r23 ≠ 0 ∧ (5 ≤ mc ∧ 6978 ≤ ms) ∧ ∀ r30 w31, r30 = wN (uR w24 a0 3 r23) → w31 = wA (uR w24 a0 3 r23) 20 900 → isK w31 a0 12 ∧ r30 ≠ 0 ∧ (6 ≤ mc ∧ 7042 ≤ ms) ∧ ∀ r37 w38, r37 = wN (uI (uR w31 a0 5 r30) a0 15 (-1)) → w38 = wA (uI (uR w31 a0 5 r30) a0 15 (-1)) 20 64 → isK w38 a0 12 ∧ r37 ≠ 0 ∧ (7 ≤ mc ∧ 7064 ≤ ms) ∧ ∀ r44 w45, r44 = wN (uR w38 a0 17 r37) → w45 = wA (uR w38 a0 17 r37) 20 22 → isK w45 a0 12 ∧ r44 ≠ 0 ∧ (8 ≤ mc ∧ 7074 ≤ ms) ∧ ∀ r51 w52, r51 = wN (uR w45 a0 18 r44) → w52 = wA (uR w45 a0 18 r44) 20 10 → isK w52 a0 12 ∧ r51 ≠ 0 ∧ (9 ≤ mc ∧ 7080 ≤ ms) ∧ ∀ r58 w59, r58 = wN (uR w52 a0 20 r51) → w59 = wA (uR w52 a0 20 r51) 21 6 → isK w59 a0 12 ∧ r58 ≠ 0 ∧ (10 ≤ mc ∧ 7121 ≤ ms) ∧ ∀ r65 w66, r65 = wN (uR w59 a0 21 r58) → w66 = wA (uR w59 a0 21 r58) 20 41 → isK w66 a0 12 ∧ r65 ≠ 0 ∧ (11 ≤ mc ∧ 7127 ≤ ms) ∧ ∀ r72 w73, r72 = wN (uR w66 a0 22 r65) → w73 = wA (uR w66 a0 22 r65) 20 6 → isK w73 a0 12 ∧ r72 ≠ 0 ∧ (12 ≤ mc ∧ 7131 ≤ ms) ∧ ∀ r79 w80, r79 = wN (uR w73 a0 23 r72) → w80 = wA (uR w73 a0 23 r72) 20 4 → isK w80 r79 20 ∧ vp_in 0 (wn w80 r79) ∧ vp_in 1 (wn w80 r79) ∧ vp_in 2 (wn w80 r79) ∧ vp_in 3 (wn w80 r79) ∧ isK w80 a0 12 ∧ (13 ≤ mc ∧ 7135 ≤ ms) ∧ ∀ r90 w91, r90 = wN (uR (uI (uI (uI (uI w80 r79 (0 : Int32).toNatClampNeg (-1)) r79 (1 : Int32).toNatClampNeg (-1)) r79 (2 : Int32).toNatClampNeg (-1)) r79 (3 : Int32).toNatClampNeg (-1)) a0 26 r79) → w91 = wA (uR (uI (uI (uI (uI w80 r79 (0 : Int32).toNatClampNeg (-1)) r79 (1 : Int32).toNatClampNeg (-1)) r79 (2 : Int32).toNatClampNeg (-1)) r79 (3 : Int32).toNatClampNeg (-1)) a0 26 r79) 20 4 → isK w91 a0 12 ∧ r90 ≠ 0 ∧ (14 ≤ mc ∧ 7255 ≤ ms) ∧ ∀ r97 w98, r97 = wN (uR w91 a0 27 r90) → w98 = wA (uR w91 a0 27 r90) 21 120 → isK w98 a0 12 ∧ r97 ≠ 0 ∧ K (uR w98 a0 28 r97)
theorem c_X12_init {x : xG} {l : Launch} {a0 : Nat} {mc ms : Nat} {K : Wd → Prop} {w : Wd} (h : w_X12_init mc ms a0 K w) : Met l yX12_init (xws yX12_init cX12_init 1 none) (rmd 1 mc ms) (xPc x [.ref (adr x a0)] w) (QcV x K) mc ms (xA x) := by
  refine xMet (by decide) (Nat.le_of_ble_eq_true rfl) (fun p e s m below meth c C hlk hr hnm => ?_)
  show GW x p l e (rmd 1 mc ms) s m [.ref (adr x a0)].toArray below meth c 1 (QV x K below [.ref (adr x a0)].toArray s mc ms) 0 [(0, .ref (adr x a0))] [] w 0 0
  refine g_aload_n (pc := 0) C dX12_init_0 (q := 0) rfl ?_
  refine g_objI (pc := 1) C LOX12 LOi LOc dX12_init_1 (Nat.le_of_ble_eq_true rfl) (Nat.le_of_ble_eq_true rfl) ?_
  refine g_aload_n (pc := 4) C dX12_init_4 (q := 0) rfl ?_
  refine g_sipush (pc := 5) C dX12_init_5 (v := 1215) rfl ?_
  obtain ⟨hb1, h⟩ := h
  refine g_newI (pc := 8) C (n := 1215) rfl LAint (by decide) (Nat.le_of_ble_eq_true rfl) hb1 dX12_init_8 (fun r2 w3 e4 e5 => ?_)
  replace h := h r2 w3 e4 e5
  obtain ⟨k6, h⟩ := h
  obtain ⟨k7, h⟩ := h
  refine pfX12_9 (pc := 10) C k6 k7 hnm dX12_init_10 ?_
  refine g_aload_n (pc := 13) C dX12_init_13 (q := 0) rfl ?_
  refine g_sipush (pc := 14) C dX12_init_14 (v := 1215) rfl ?_
  obtain ⟨hb8, h⟩ := h
  refine g_newI (pc := 17) (w := uR w3 a0 0 r2) C (n := 1215) rfl LAint (by decide) (Nat.le_of_ble_eq_true rfl) hb8 dX12_init_17 (fun r9 w10 e11 e12 => ?_)
  replace h := h r9 w10 e11 e12
  obtain ⟨k13, h⟩ := h
  obtain ⟨k14, h⟩ := h
  refine pfX12_13 (pc := 19) C k13 k14 hnm dX12_init_19 ?_
  refine g_aload_n (pc := 22) C dX12_init_22 (q := 0) rfl ?_
  refine g_sipush (pc := 23) C dX12_init_23 (v := 3645) rfl ?_
  obtain ⟨hb15, h⟩ := h
  refine g_newI (pc := 26) (w := uR w10 a0 1 r9) C (n := 3645) rfl LAint (by decide) (Nat.le_of_ble_eq_true rfl) hb15 dX12_init_26 (fun r16 w17 e18 e19 => ?_)
  replace h := h r16 w17 e18 e19
  obtain ⟨k20, h⟩ := h
  obtain ⟨k21, h⟩ := h
  refine pfX12_16 (pc := 28) C k20 k21 hnm dX12_init_28 ?_
  refine g_aload_n (pc := 31) C dX12_init_31 (q := 0) rfl ?_
  refine g_iconst (pc := 32) C dX12_init_32 (v := 3) rfl ?_
  obtain ⟨hb22, h⟩ := h
  refine g_newZ (pc := 33) (w := uR w17 a0 2 r16) C (n := 3) rfl LAboolean (by decide) (Nat.le_of_ble_eq_true rfl) hb22 dX12_init_33 (fun r23 w24 e25 e26 => ?_)
  replace h := h r23 w24 e25 e26
  obtain ⟨k27, h⟩ := h
  obtain ⟨k28, h⟩ := h
  refine pfX12_19 (pc := 35) C k27 k28 hnm dX12_init_35 ?_
  refine g_aload_n (pc := 38) C dX12_init_38 (q := 0) rfl ?_
  refine g_sipush (pc := 39) C dX12_init_39 (v := 900) rfl ?_
  obtain ⟨hb29, h⟩ := h
  refine g_newI (pc := 42) (w := uR w24 a0 3 r23) C (n := 900) rfl LAint (by decide) (Nat.le_of_ble_eq_true rfl) hb29 dX12_init_42 (fun r30 w31 e32 e33 => ?_)
  replace h := h r30 w31 e32 e33
  obtain ⟨k34, h⟩ := h
  obtain ⟨k35, h⟩ := h
  refine pfX12_23 (pc := 44) C k34 k35 hnm dX12_init_44 ?_
  refine g_aload_n (pc := 47) C dX12_init_47 (q := 0) rfl ?_
  refine g_iconst (pc := 48) C dX12_init_48 (v := (-1)) rfl ?_
  refine pfX12_26 (pc := 49) (w := uR w31 a0 5 r30) C k34 dX12_init_49 ?_
  refine g_aload_n (pc := 52) C dX12_init_52 (q := 0) rfl ?_
  refine g_bipush (pc := 53) C dX12_init_53 (v := 64) rfl ?_
  obtain ⟨hb36, h⟩ := h
  refine g_newI (pc := 55) (w := uI (uR w31 a0 5 r30) a0 15 (-1)) C (n := 64) rfl LAint (by decide) (Nat.le_of_ble_eq_true rfl) hb36 dX12_init_55 (fun r37 w38 e39 e40 => ?_)
  replace h := h r37 w38 e39 e40
  obtain ⟨k41, h⟩ := h
  obtain ⟨k42, h⟩ := h
  refine pfX12_30 (pc := 57) C k41 k42 hnm dX12_init_57 ?_
  refine g_aload_n (pc := 60) C dX12_init_60 (q := 0) rfl ?_
  refine g_bipush (pc := 61) C dX12_init_61 (v := 22) rfl ?_
  obtain ⟨hb43, h⟩ := h
  refine g_newI (pc := 63) (w := uR w38 a0 17 r37) C (n := 22) rfl LAint (by decide) (Nat.le_of_ble_eq_true rfl) hb43 dX12_init_63 (fun r44 w45 e46 e47 => ?_)
  replace h := h r44 w45 e46 e47
  obtain ⟨k48, h⟩ := h
  obtain ⟨k49, h⟩ := h
  refine pfX12_33 (pc := 65) C k48 k49 hnm dX12_init_65 ?_
  refine g_aload_n (pc := 68) C dX12_init_68 (q := 0) rfl ?_
  refine g_bipush (pc := 69) C dX12_init_69 (v := 10) rfl ?_
  obtain ⟨hb50, h⟩ := h
  refine g_newI (pc := 71) (w := uR w45 a0 18 r44) C (n := 10) rfl LAint (by decide) (Nat.le_of_ble_eq_true rfl) hb50 dX12_init_71 (fun r51 w52 e53 e54 => ?_)
  replace h := h r51 w52 e53 e54
  obtain ⟨k55, h⟩ := h
  obtain ⟨k56, h⟩ := h
  refine pfX12_36 (pc := 73) C k55 k56 hnm dX12_init_73 ?_
  refine g_aload_n (pc := 76) C dX12_init_76 (q := 0) rfl ?_
  refine g_bipush (pc := 77) C dX12_init_77 (v := 6) rfl ?_
  obtain ⟨hb57, h⟩ := h
  refine g_newL (pc := 79) (w := uR w52 a0 20 r51) C (n := 6) rfl LAlong (by decide) (Nat.le_of_ble_eq_true rfl) hb57 dX12_init_79 (fun r58 w59 e60 e61 => ?_)
  replace h := h r58 w59 e60 e61
  obtain ⟨k62, h⟩ := h
  obtain ⟨k63, h⟩ := h
  refine pfX12_39 (pc := 81) C k62 k63 hnm dX12_init_81 ?_
  refine g_aload_n (pc := 84) C dX12_init_84 (q := 0) rfl ?_
  refine g_bipush (pc := 85) C dX12_init_85 (v := 41) rfl ?_
  obtain ⟨hb64, h⟩ := h
  refine g_newI (pc := 87) (w := uR w59 a0 21 r58) C (n := 41) rfl LAint (by decide) (Nat.le_of_ble_eq_true rfl) hb64 dX12_init_87 (fun r65 w66 e67 e68 => ?_)
  replace h := h r65 w66 e67 e68
  obtain ⟨k69, h⟩ := h
  obtain ⟨k70, h⟩ := h
  refine pfX12_43 (pc := 89) C k69 k70 hnm dX12_init_89 ?_
  refine g_aload_n (pc := 92) C dX12_init_92 (q := 0) rfl ?_
  refine g_bipush (pc := 93) C dX12_init_93 (v := 6) rfl ?_
  obtain ⟨hb71, h⟩ := h
  refine g_newI (pc := 95) (w := uR w66 a0 22 r65) C (n := 6) rfl LAint (by decide) (Nat.le_of_ble_eq_true rfl) hb71 dX12_init_95 (fun r72 w73 e74 e75 => ?_)
  replace h := h r72 w73 e74 e75
  obtain ⟨k76, h⟩ := h
  obtain ⟨k77, h⟩ := h
  refine pfX12_46 (pc := 97) C k76 k77 hnm dX12_init_97 ?_
  refine g_aload_n (pc := 100) C dX12_init_100 (q := 0) rfl ?_
  refine g_iconst (pc := 101) C dX12_init_101 (v := 4) rfl ?_
  obtain ⟨hb78, h⟩ := h
  refine g_newI (pc := 102) (w := uR w73 a0 23 r72) C (n := 4) rfl LAint (by decide) (Nat.le_of_ble_eq_true rfl) hb78 dX12_init_102 (fun r79 w80 e81 e82 => ?_)
  replace h := h r79 w80 e81 e82
  refine g_dup (pc := 104) C dX12_init_104 rfl ?_
  refine g_iconst (pc := 105) C dX12_init_105 (v := 0) rfl ?_
  refine g_iconst (pc := 106) C dX12_init_106 (v := (-1)) rfl ?_
  obtain ⟨k83, h⟩ := h
  obtain ⟨k84, h⟩ := h
  refine g_iast (pc := 107) C k83 k84 dX12_init_107 ?_
  refine g_dup (pc := 108) C dX12_init_108 rfl ?_
  refine g_iconst (pc := 109) C dX12_init_109 (v := 1) rfl ?_
  refine g_iconst (pc := 110) C dX12_init_110 (v := (-1)) rfl ?_
  obtain ⟨k85, h⟩ := h
  refine g_iast (pc := 111) (w := uI w80 r79 (0 : Int32).toNatClampNeg (-1)) C k83 k85 dX12_init_111 ?_
  refine g_dup (pc := 112) C dX12_init_112 rfl ?_
  refine g_iconst (pc := 113) C dX12_init_113 (v := 2) rfl ?_
  refine g_iconst (pc := 114) C dX12_init_114 (v := (-1)) rfl ?_
  obtain ⟨k86, h⟩ := h
  refine g_iast (pc := 115) (w := uI (uI w80 r79 (0 : Int32).toNatClampNeg (-1)) r79 (1 : Int32).toNatClampNeg (-1)) C k83 k86 dX12_init_115 ?_
  refine g_dup (pc := 116) C dX12_init_116 rfl ?_
  refine g_iconst (pc := 117) C dX12_init_117 (v := 3) rfl ?_
  refine g_iconst (pc := 118) C dX12_init_118 (v := (-1)) rfl ?_
  obtain ⟨k87, h⟩ := h
  refine g_iast (pc := 119) (w := uI (uI (uI w80 r79 (0 : Int32).toNatClampNeg (-1)) r79 (1 : Int32).toNatClampNeg (-1)) r79 (2 : Int32).toNatClampNeg (-1)) C k83 k87 dX12_init_119 ?_
  obtain ⟨k88, h⟩ := h
  refine pfX12_49 (pc := 120) (w := uI (uI (uI (uI w80 r79 (0 : Int32).toNatClampNeg (-1)) r79 (1 : Int32).toNatClampNeg (-1)) r79 (2 : Int32).toNatClampNeg (-1)) r79 (3 : Int32).toNatClampNeg (-1)) C k88 (isK_ne k83) hnm dX12_init_120 ?_
  refine g_aload_n (pc := 123) C dX12_init_123 (q := 0) rfl ?_
  refine g_iconst (pc := 124) C dX12_init_124 (v := 4) rfl ?_
  obtain ⟨hb89, h⟩ := h
  refine g_newI (pc := 125) (w := uR (uI (uI (uI (uI w80 r79 (0 : Int32).toNatClampNeg (-1)) r79 (1 : Int32).toNatClampNeg (-1)) r79 (2 : Int32).toNatClampNeg (-1)) r79 (3 : Int32).toNatClampNeg (-1)) a0 26 r79) C (n := 4) rfl LAint (by decide) (Nat.le_of_ble_eq_true rfl) hb89 dX12_init_125 (fun r90 w91 e92 e93 => ?_)
  replace h := h r90 w91 e92 e93
  obtain ⟨k94, h⟩ := h
  obtain ⟨k95, h⟩ := h
  refine pfX12_52 (pc := 127) C k94 k95 hnm dX12_init_127 ?_
  refine g_aload_n (pc := 130) C dX12_init_130 (q := 0) rfl ?_
  refine g_bipush (pc := 131) C dX12_init_131 (v := 120) rfl ?_
  obtain ⟨hb96, h⟩ := h
  refine g_newL (pc := 133) (w := uR w91 a0 27 r90) C (n := 120) rfl LAlong (by decide) (Nat.le_of_ble_eq_true rfl) hb96 dX12_init_133 (fun r97 w98 e99 e100 => ?_)
  replace h := h r97 w98 e99 e100
  obtain ⟨k101, h⟩ := h
  obtain ⟨k102, h⟩ := h
  refine pfX12_55 (pc := 135) C k101 k102 hnm dX12_init_135 ?_
  exact g_vret (pc := 138) C hlk hr hb96.1 hb96.2 dX12_init_138 h
def w_X1_init (mc ms : Nat) (a0 : Nat) (K : Wd → Prop) (w : Wd) : Prop :=
  isK w a0 1 ∧ (1 ≤ mc ∧ 10 ≤ ms) ∧ ∀ r3 w4, r3 = wN (uR (uI (uI (uI (uI w a0 0 0) a0 1 0) a0 2 0) a0 3 0) a0 4 1) → w4 = wA (uR (uI (uI (uI (uI w a0 0 0) a0 1 0) a0 2 0) a0 3 0) a0 4 1) 20 10 → isK w4 a0 1 ∧ r3 ≠ 0 ∧ (2 ≤ mc ∧ 20 ≤ ms) ∧ ∀ r10 w11, r10 = wN (uR w4 a0 5 r3) → w11 = wA (uR w4 a0 5 r3) 20 10 → isK w11 a0 1 ∧ r10 ≠ 0 ∧ (3 ≤ mc ∧ 30 ≤ ms) ∧ ∀ r17 w18, r17 = wN (uR w11 a0 6 r10) → w18 = wA (uR w11 a0 6 r10) 20 10 → isK w18 a0 1 ∧ r17 ≠ 0 ∧ (4 ≤ mc ∧ 40 ≤ ms) ∧ ∀ r24 w25, r24 = wN (uR w18 a0 7 r17) → w25 = wA (uR w18 a0 7 r17) 20 10 → isK w25 a0 1 ∧ r24 ≠ 0 ∧ (5 ≤ mc ∧ 50 ≤ ms) ∧ ∀ r31 w32, r31 = wN (uR w25 a0 8 r24) → w32 = wA (uR w25 a0 8 r24) 20 10 → isK w32 a0 1 ∧ r31 ≠ 0 ∧ (6 ≤ mc ∧ 60 ≤ ms) ∧ ∀ r38 w39, r38 = wN (uR w32 a0 9 r31) → w39 = wA (uR w32 a0 9 r31) 20 10 → isK w39 a0 1 ∧ r38 ≠ 0 ∧ (7 ≤ mc ∧ 66 ≤ ms) ∧ ∀ r45 w46, r45 = wN (uR w39 a0 10 r38) → w46 = wA (uR w39 a0 10 r38) 20 6 → isK w46 a0 1 ∧ r45 ≠ 0 ∧ (8 ≤ mc ∧ 72 ≤ ms) ∧ ∀ r52 w53, r52 = wN (uR w46 a0 11 r45) → w53 = wA (uR w46 a0 11 r45) 20 6 → isK w53 a0 1 ∧ r52 ≠ 0 ∧ K (uR w53 a0 12 r52)
theorem c_X1_init {x : xG} {l : Launch} {a0 : Nat} {mc ms : Nat} {K : Wd → Prop} {w : Wd} (h : w_X1_init mc ms a0 K w) : Met l yX1_init (xws yX1_init cX1_init 1 none) (rmd 1 mc ms) (xPc x [.ref (adr x a0)] w) (QcV x K) mc ms (xA x) := by
  refine xMet (by decide) (Nat.le_of_ble_eq_true rfl) (fun p e s m below meth c C hlk hr hnm => ?_)
  show GW x p l e (rmd 1 mc ms) s m [.ref (adr x a0)].toArray below meth c 1 (QV x K below [.ref (adr x a0)].toArray s mc ms) 0 [(0, .ref (adr x a0))] [] w 0 0
  refine g_aload_n (pc := 0) C dX1_init_0 (q := 0) rfl ?_
  refine g_objI (pc := 1) C LOX1 LOi LOc dX1_init_1 (Nat.le_of_ble_eq_true rfl) (Nat.le_of_ble_eq_true rfl) ?_
  refine g_aload_n (pc := 4) C dX1_init_4 (q := 0) rfl ?_
  refine g_iconst (pc := 5) C dX1_init_5 (v := 0) rfl ?_
  obtain ⟨k1, h⟩ := h
  refine pfX1_9 (pc := 6) C k1 dX1_init_6 ?_
  refine g_aload_n (pc := 9) C dX1_init_9 (q := 0) rfl ?_
  refine g_iconst (pc := 10) C dX1_init_10 (v := 0) rfl ?_
  refine pfX1_15 (pc := 11) (w := uI w a0 0 0) C k1 dX1_init_11 ?_
  refine g_aload_n (pc := 14) C dX1_init_14 (q := 0) rfl ?_
  refine g_iconst (pc := 15) C dX1_init_15 (v := 0) rfl ?_
  refine pfX1_18 (pc := 16) (w := uI (uI w a0 0 0) a0 1 0) C k1 dX1_init_16 ?_
  refine g_aload_n (pc := 19) C dX1_init_19 (q := 0) rfl ?_
  refine g_iconst (pc := 20) C dX1_init_20 (v := 0) rfl ?_
  refine pfX1_21 (pc := 21) (w := uI (uI (uI w a0 0 0) a0 1 0) a0 2 0) C k1 dX1_init_21 ?_
  refine g_aload_n (pc := 24) C dX1_init_24 (q := 0) rfl ?_
  refine g_getsR (pc := 25) C LFX1_24 dX1_init_25 ?_
  refine pfX1_28 (pc := 28) (w := uI (uI (uI (uI w a0 0 0) a0 1 0) a0 2 0) a0 3 0) C k1 (by decide) dX1_init_28 ?_
  refine g_aload_n (pc := 31) C dX1_init_31 (q := 0) rfl ?_
  refine g_bipush (pc := 32) C dX1_init_32 (v := 10) rfl ?_
  obtain ⟨hb2, h⟩ := h
  refine g_newI (pc := 34) (w := uR (uI (uI (uI (uI w a0 0 0) a0 1 0) a0 2 0) a0 3 0) a0 4 1) C (n := 10) rfl LAint (by decide) (Nat.le_of_ble_eq_true rfl) hb2 dX1_init_34 (fun r3 w4 e5 e6 => ?_)
  replace h := h r3 w4 e5 e6
  obtain ⟨k7, h⟩ := h
  obtain ⟨k8, h⟩ := h
  refine pfX1_31 (pc := 36) C k7 k8 hnm dX1_init_36 ?_
  refine g_aload_n (pc := 39) C dX1_init_39 (q := 0) rfl ?_
  refine g_bipush (pc := 40) C dX1_init_40 (v := 10) rfl ?_
  obtain ⟨hb9, h⟩ := h
  refine g_newI (pc := 42) (w := uR w4 a0 5 r3) C (n := 10) rfl LAint (by decide) (Nat.le_of_ble_eq_true rfl) hb9 dX1_init_42 (fun r10 w11 e12 e13 => ?_)
  replace h := h r10 w11 e12 e13
  obtain ⟨k14, h⟩ := h
  obtain ⟨k15, h⟩ := h
  refine pfX1_34 (pc := 44) C k14 k15 hnm dX1_init_44 ?_
  refine g_aload_n (pc := 47) C dX1_init_47 (q := 0) rfl ?_
  refine g_bipush (pc := 48) C dX1_init_48 (v := 10) rfl ?_
  obtain ⟨hb16, h⟩ := h
  refine g_newI (pc := 50) (w := uR w11 a0 6 r10) C (n := 10) rfl LAint (by decide) (Nat.le_of_ble_eq_true rfl) hb16 dX1_init_50 (fun r17 w18 e19 e20 => ?_)
  replace h := h r17 w18 e19 e20
  obtain ⟨k21, h⟩ := h
  obtain ⟨k22, h⟩ := h
  refine pfX1_37 (pc := 52) C k21 k22 hnm dX1_init_52 ?_
  refine g_aload_n (pc := 55) C dX1_init_55 (q := 0) rfl ?_
  refine g_bipush (pc := 56) C dX1_init_56 (v := 10) rfl ?_
  obtain ⟨hb23, h⟩ := h
  refine g_newI (pc := 58) (w := uR w18 a0 7 r17) C (n := 10) rfl LAint (by decide) (Nat.le_of_ble_eq_true rfl) hb23 dX1_init_58 (fun r24 w25 e26 e27 => ?_)
  replace h := h r24 w25 e26 e27
  obtain ⟨k28, h⟩ := h
  obtain ⟨k29, h⟩ := h
  refine pfX1_40 (pc := 60) C k28 k29 hnm dX1_init_60 ?_
  refine g_aload_n (pc := 63) C dX1_init_63 (q := 0) rfl ?_
  refine g_bipush (pc := 64) C dX1_init_64 (v := 10) rfl ?_
  obtain ⟨hb30, h⟩ := h
  refine g_newI (pc := 66) (w := uR w25 a0 8 r24) C (n := 10) rfl LAint (by decide) (Nat.le_of_ble_eq_true rfl) hb30 dX1_init_66 (fun r31 w32 e33 e34 => ?_)
  replace h := h r31 w32 e33 e34
  obtain ⟨k35, h⟩ := h
  obtain ⟨k36, h⟩ := h
  refine pfX1_43 (pc := 68) C k35 k36 hnm dX1_init_68 ?_
  refine g_aload_n (pc := 71) C dX1_init_71 (q := 0) rfl ?_
  refine g_bipush (pc := 72) C dX1_init_72 (v := 10) rfl ?_
  obtain ⟨hb37, h⟩ := h
  refine g_newI (pc := 74) (w := uR w32 a0 9 r31) C (n := 10) rfl LAint (by decide) (Nat.le_of_ble_eq_true rfl) hb37 dX1_init_74 (fun r38 w39 e40 e41 => ?_)
  replace h := h r38 w39 e40 e41
  obtain ⟨k42, h⟩ := h
  obtain ⟨k43, h⟩ := h
  refine pfX1_46 (pc := 76) C k42 k43 hnm dX1_init_76 ?_
  refine g_aload_n (pc := 79) C dX1_init_79 (q := 0) rfl ?_
  refine g_bipush (pc := 80) C dX1_init_80 (v := 6) rfl ?_
  obtain ⟨hb44, h⟩ := h
  refine g_newI (pc := 82) (w := uR w39 a0 10 r38) C (n := 6) rfl LAint (by decide) (Nat.le_of_ble_eq_true rfl) hb44 dX1_init_82 (fun r45 w46 e47 e48 => ?_)
  replace h := h r45 w46 e47 e48
  obtain ⟨k49, h⟩ := h
  obtain ⟨k50, h⟩ := h
  refine pfX1_49 (pc := 84) C k49 k50 hnm dX1_init_84 ?_
  refine g_aload_n (pc := 87) C dX1_init_87 (q := 0) rfl ?_
  refine g_bipush (pc := 88) C dX1_init_88 (v := 6) rfl ?_
  obtain ⟨hb51, h⟩ := h
  refine g_newI (pc := 90) (w := uR w46 a0 11 r45) C (n := 6) rfl LAint (by decide) (Nat.le_of_ble_eq_true rfl) hb51 dX1_init_90 (fun r52 w53 e54 e55 => ?_)
  replace h := h r52 w53 e54 e55
  obtain ⟨k56, h⟩ := h
  obtain ⟨k57, h⟩ := h
  refine pfX1_52 (pc := 92) C k56 k57 hnm dX1_init_92 ?_
  exact g_vret (pc := 95) C hlk hr hb51.1 hb51.2 dX1_init_95 h
def w_X2_init (mc ms : Nat) (a0 : Nat) (a1 : Nat) (K : Wd → Prop) (w : Wd) : Prop :=
  isK w a0 2 ∧ (1 ≤ mc ∧ 10 ≤ ms) ∧ ∀ r3 w4, r3 = wN (uI (uI w a0 1 0) a0 2 0) → w4 = wA (uI (uI w a0 1 0) a0 2 0) 20 10 → isK w4 a0 2 ∧ r3 ≠ 0 ∧ (2 ≤ mc ∧ 20 ≤ ms) ∧ ∀ r10 w11, r10 = wN (uR w4 a0 3 r3) → w11 = wA (uR w4 a0 3 r3) 20 10 → isK w11 a0 2 ∧ r10 ≠ 0 ∧ a1 ≠ 0 ∧ K (uR (uR w11 a0 4 r10) a0 0 a1)
theorem c_X2_init {x : xG} {l : Launch} {a0 : Nat} {a1 : Nat} {mc ms : Nat} {K : Wd → Prop} {w : Wd} (h : w_X2_init mc ms a0 a1 K w) : Met l yX2_init (xws yX2_init cX2_init 2 none) (rmd 1 mc ms) (xPc x [.ref (adr x a0), .ref (adr x a1)] w) (QcV x K) mc ms (xA x) := by
  refine xMet (by decide) (Nat.le_of_ble_eq_true rfl) (fun p e s m below meth c C hlk hr hnm => ?_)
  show GW x p l e (rmd 1 mc ms) s m [.ref (adr x a0), .ref (adr x a1)].toArray below meth c 2 (QV x K below [.ref (adr x a0), .ref (adr x a1)].toArray s mc ms) 0 [(0, .ref (adr x a0)), (1, .ref (adr x a1))] [] w 0 0
  refine g_aload_n (pc := 0) C dX2_init_0 (q := 0) rfl ?_
  refine g_objI (pc := 1) C LOX2 LOi LOc dX2_init_1 (Nat.le_of_ble_eq_true rfl) (Nat.le_of_ble_eq_true rfl) ?_
  refine g_aload_n (pc := 4) C dX2_init_4 (q := 0) rfl ?_
  refine g_iconst (pc := 5) C dX2_init_5 (v := 0) rfl ?_
  obtain ⟨k1, h⟩ := h
  refine pfX2_9 (pc := 6) C k1 dX2_init_6 ?_
  refine g_aload_n (pc := 9) C dX2_init_9 (q := 0) rfl ?_
  refine g_iconst (pc := 10) C dX2_init_10 (v := 0) rfl ?_
  refine pfX2_15 (pc := 11) (w := uI w a0 1 0) C k1 dX2_init_11 ?_
  refine g_aload_n (pc := 14) C dX2_init_14 (q := 0) rfl ?_
  refine g_bipush (pc := 15) C dX2_init_15 (v := 10) rfl ?_
  obtain ⟨hb2, h⟩ := h
  refine g_newI (pc := 17) (w := uI (uI w a0 1 0) a0 2 0) C (n := 10) rfl LAint (by decide) (Nat.le_of_ble_eq_true rfl) hb2 dX2_init_17 (fun r3 w4 e5 e6 => ?_)
  replace h := h r3 w4 e5 e6
  obtain ⟨k7, h⟩ := h
  obtain ⟨k8, h⟩ := h
  refine pfX2_18 (pc := 19) C k7 k8 hnm dX2_init_19 ?_
  refine g_aload_n (pc := 22) C dX2_init_22 (q := 0) rfl ?_
  refine g_bipush (pc := 23) C dX2_init_23 (v := 10) rfl ?_
  obtain ⟨hb9, h⟩ := h
  refine g_newI (pc := 25) (w := uR w4 a0 3 r3) C (n := 10) rfl LAint (by decide) (Nat.le_of_ble_eq_true rfl) hb9 dX2_init_25 (fun r10 w11 e12 e13 => ?_)
  replace h := h r10 w11 e12 e13
  obtain ⟨k14, h⟩ := h
  obtain ⟨k15, h⟩ := h
  refine pfX2_22 (pc := 27) C k14 k15 hnm dX2_init_27 ?_
  refine g_aload_n (pc := 30) C dX2_init_30 (q := 0) rfl ?_
  refine g_aload_n (pc := 31) C dX2_init_31 (q := 1) rfl ?_
  obtain ⟨k16, h⟩ := h
  refine pfX2_25 (pc := 32) (w := uR w11 a0 4 r10) C k14 k16 dX2_init_32 ?_
  exact g_vret (pc := 35) C hlk hr hb9.1 hb9.2 dX2_init_35 h
theorem maX5_28 (C : xC x p s m c cc nL args RX5) {a0 : Nat} {a1 : Nat} {K : Wd → Prop} {D MC MS c0 s0 : Nat} (h : w_X2_init c0 s0 a0 a1 K w) (hD : 1 + 1 ≤ D) (hW : (st.map fun v => v.category).sum ≤ 8) (hr : i + c0 ≤ MC ∧ j + s0 ≤ MS) (hd : decode cc pc = .ok (.invokespecial 28, 3)) (k : ∀ (u : Wd), K u → GW x p l e (rmd D MC MS) s m args below meth c nL Q (pc + 3) lo st u (i + c0) (j + s0)) : GW x p l e (rmd D MC MS) s m args below meth c nL Q pc lo (.ref (adr x a1) :: .ref (adr x a0) :: st) w i j := g_callI C (As := [.ref (adr x a1)]) (c_X2_init h) (x_cwI C 1 LKX2_init LLX5_28 LTX2_init LIX2 rfl ⟨by decide, by decide, rfl⟩ hD (by decide)) rfl rfl hW hd hr k
theorem nwX5_22 (C : xC x p s m c cc nL args RX5) (hb : i + 1 ≤ R.cells ∧ j + 5 ≤ R.slots) (hd : decode cc pc = .ok (.new 22, 3)) (k : ∀ (r : Nat) (u : Wd), r = wN w → u = wA w 2 0 → GW x p l e R s m args below meth c nL Q (pc + 3) lo (.ref (adr x r) :: st) u (i + 1) (j + 5)) : GW x p l e R s m args below meth c nL Q pc lo st w i j := g_new C tyX2 (ci := 2) rfl (by decide) inX2 tyX2_ok LCLX5_22 LINX2 LIX2 rfl (by decide) hb hd k
def l_X5_init_42 (mc ms : Nat)  (K : Wd → Prop) : Nat → Nat → Nat → Int32 → Nat → Nat → Wd → Prop
  | 0, _, _, _, _, _, _ => False
  | n + 1, a0, a1, a2, i0, j0, w => isK w a0 5 ∧ isK w (wR w a0 4) 24 ∧ (((Int32.ofNat (wn w (wR w a0 4))) ≤ a2 → K w) ∧ (¬ (Int32.ofNat (wn w (wR w a0 4))) ≤ a2 → (i0 + 1 ≤ mc ∧ j0 + 5 ≤ ms) ∧ ∀ r22 w23, r22 = wN w → w23 = wA w 2 0 → ((i0 + 1) + 2 ≤ mc ∧ (j0 + 5) + 20 ≤ ms) ∧ w_X2_init 2 20 r22 a1 (fun w26 => isK w26 (wR w a0 4) 24 ∧ isK w26 r22 2 ∧ vp_in a2 (wn w26 (wR w a0 4)) ∧ l_X5_init_42 mc ms K n a0 a1 (a2 + 1) ((i0 + 1) + 2) ((j0 + 5) + 20) (uR w26 (wR w a0 4) a2.toNatClampNeg r22)) w23))
def w_X5_init (mc ms : Nat) (a0 : Nat) (a1 : Nat) (K : Wd → Prop) (w : Wd) : Prop :=
  isK w a0 5 ∧ (1 ≤ mc ∧ 10 ≤ ms) ∧ ∀ r3 w4, r3 = wN (uI (uI (uI w a0 1 0) a0 2 0) a0 3 0) → w4 = wA (uI (uI (uI w a0 1 0) a0 2 0) a0 3 0) 24 10 → isK w4 a0 5 ∧ r3 ≠ 0 ∧ (2 ≤ mc ∧ 15 ≤ ms) ∧ ∀ r10 w11, r10 = wN (uR w4 a0 4 r3) → w11 = wA (uR w4 a0 4 r3) 2 0 → (4 ≤ mc ∧ 35 ≤ ms) ∧ w_X2_init 2 20 r10 a1 (fun w14 => isK w14 a0 5 ∧ r10 ≠ 0 ∧ ∃ n31, l_X5_init_42 mc ms  K n31 a0 a1 0 4 35 (uR w14 a0 0 r10)) w11
theorem t_X5_init_42 (C : xC x p s m c cX5_init 3 args RX5) (hlk : meth.locks = false) (hr : meth.sig.returnType = none) (hnm : meth.name = "<init>") {mc ms : Nat} {K : Wd → Prop}   : ∀ (n : Nat) (a0 : Nat) (a1 : Nat) (a2 : Int32) (i0 j0 : Nat) (w : Wd), i0 ≤ mc ∧ j0 ≤ ms → l_X5_init_42 mc ms K n a0 a1 a2 i0 j0 w → GW x p l e (rmd 2 mc ms) s m args below meth c 3 (QV x K below args s mc ms) 42 [(0, .ref (adr x a0)), (1, .ref (adr x a1)), (2, .int a2)] [] w i0 j0 := by
  intro n
  induction n with
  | zero => intro _ _ _ _ _ _ _ h; exact False.elim h
  | succ n ih =>
    intro a0 a1 a2 i0 j0 w hb h
    refine g_iload_n (pc := 42) C dX5_init_42 (q := 2) rfl ?_
    refine g_aload_n (pc := 43) C dX5_init_43 (q := 0) rfl ?_
    obtain ⟨k18, h⟩ := h
    obtain ⟨k19, h⟩ := h
    refine gfX5_24 (pc := 44) C k18 (isK_ne k19) dX5_init_44 ?_
    refine g_alen (pc := 47) C k19 (by decide) dX5_init_47 ?_
    refine g_icmp_ge (pc := 48) C dX5_init_48 (tgt := 71) rfl (fun z20 => ?_) (fun z20 => ?_)
    · replace h := h.1 z20
      exact g_vret (pc := 71) C hlk hr hb.1 hb.2 dX5_init_71 h
    · replace h := h.2 z20
      refine g_aload_n (pc := 51) C dX5_init_51 (q := 0) rfl ?_
      refine gfX5_24 (pc := 52) C k18 (isK_ne k19) dX5_init_52 ?_
      refine g_iload_n (pc := 55) C dX5_init_55 (q := 2) rfl ?_
      obtain ⟨hb21, h⟩ := h
      refine nwX5_22 (pc := 56) C hb21 dX5_init_56 (fun r22 w23 e24 e25 => ?_)
      replace h := h r22 w23 e24 e25
      refine g_dup (pc := 59) C dX5_init_59 rfl ?_
      refine g_aload_n (pc := 60) C dX5_init_60 (q := 1) rfl ?_
      obtain ⟨hb27, h⟩ := h
      refine maX5_28 (pc := 61) C h (Nat.le_of_ble_eq_true rfl) (Nat.le_of_ble_eq_true rfl) hb27 dX5_init_61 (fun w26 h => ?_)
      obtain ⟨k28, h⟩ := h
      obtain ⟨k29, h⟩ := h
      obtain ⟨k30, h⟩ := h
      refine g_aast (pc := 64) C (t := 4) (ci := 2) k28 (Nat.le_of_ble_eq_true rfl) (Nat.le_of_ble_eq_true rfl) rfl k29 (Nat.le_of_ble_eq_true rfl) rfl k30 dX5_init_64 ?_
      refine g_iinc (pc := 65) C dX5_init_65 (q := 2) rfl (v2 := a2 + 1) rfl (Nat.le_of_ble_eq_true rfl) (lo' := [(2, .int (a2 + 1)), (0, .ref (adr x a0)), (1, .ref (adr x a1))]) rfl ?_
      refine g_goto (pc := 68) C dX5_init_68 (tgt := 42) rfl ?_
      refine g_sub [1, 2, 0] rfl ?_
      exact ih _ _ _ _ _ _ hb27 h
theorem c_X5_init {x : xG} {l : Launch} {a0 : Nat} {a1 : Nat} {mc ms : Nat} {K : Wd → Prop} {w : Wd} (h : w_X5_init mc ms a0 a1 K w) : Met l yX5_init (xws yX5_init cX5_init 3 none) (rmd 2 mc ms) (xPc x [.ref (adr x a0), .ref (adr x a1)] w) (QcV x K) mc ms (xA x) := by
  refine xMet (by decide) (Nat.le_of_ble_eq_true rfl) (fun p e s m below meth c C hlk hr hnm => ?_)
  show GW x p l e (rmd 2 mc ms) s m [.ref (adr x a0), .ref (adr x a1)].toArray below meth c 3 (QV x K below [.ref (adr x a0), .ref (adr x a1)].toArray s mc ms) 0 [(0, .ref (adr x a0)), (1, .ref (adr x a1))] [] w 0 0
  refine g_aload_n (pc := 0) C dX5_init_0 (q := 0) rfl ?_
  refine g_objI (pc := 1) C LOX5 LOi LOc dX5_init_1 (Nat.le_of_ble_eq_true rfl) (Nat.le_of_ble_eq_true rfl) ?_
  refine g_aload_n (pc := 4) C dX5_init_4 (q := 0) rfl ?_
  refine g_iconst (pc := 5) C dX5_init_5 (v := 0) rfl ?_
  obtain ⟨k1, h⟩ := h
  refine pfX5_9 (pc := 6) C k1 (Or.inl rfl) dX5_init_6 ?_
  refine g_aload_n (pc := 9) C dX5_init_9 (q := 0) rfl ?_
  refine g_iconst (pc := 10) C dX5_init_10 (v := 0) rfl ?_
  refine pfX5_15 (pc := 11) (w := uI w a0 1 0) C k1 dX5_init_11 ?_
  refine g_aload_n (pc := 14) C dX5_init_14 (q := 0) rfl ?_
  refine g_iconst (pc := 15) C dX5_init_15 (v := 0) rfl ?_
  refine pfX5_19 (pc := 16) (w := uI (uI w a0 1 0) a0 2 0) C k1 dX5_init_16 ?_
  refine g_aload_n (pc := 19) C dX5_init_19 (q := 0) rfl ?_
  refine g_bipush (pc := 20) C dX5_init_20 (v := 10) rfl ?_
  obtain ⟨hb2, h⟩ := h
  refine g_newq (pc := 22) (w := uI (uI (uI w a0 1 0) a0 2 0) a0 3 0) C (n := 10) rfl (t := 4) (Nat.le_of_ble_eq_true rfl) rfl (by decide) LCLX5_22 (by decide) (Nat.le_of_ble_eq_true rfl) hb2 dX5_init_22 (fun r3 w4 e5 e6 => ?_)
  replace h := h r3 w4 e5 e6
  obtain ⟨k7, h⟩ := h
  obtain ⟨k8, h⟩ := h
  refine pfX5_24 (pc := 25) C k7 k8 hnm dX5_init_25 ?_
  refine g_aload_n (pc := 28) C dX5_init_28 (q := 0) rfl ?_
  obtain ⟨hb9, h⟩ := h
  refine nwX5_22 (pc := 29) (w := uR w4 a0 4 r3) C hb9 dX5_init_29 (fun r10 w11 e12 e13 => ?_)
  replace h := h r10 w11 e12 e13
  refine g_dup (pc := 32) C dX5_init_32 rfl ?_
  refine g_aload_n (pc := 33) C dX5_init_33 (q := 1) rfl ?_
  obtain ⟨hb15, h⟩ := h
  refine maX5_28 (pc := 34) C h (Nat.le_of_ble_eq_true rfl) (Nat.le_of_ble_eq_true rfl) hb15 dX5_init_34 (fun w14 h => ?_)
  obtain ⟨k16, h⟩ := h
  obtain ⟨k17, h⟩ := h
  refine pfX5_31 (pc := 37) C k16 k17 hnm dX5_init_37 ?_
  refine g_iconst (pc := 40) C dX5_init_40 (v := 0) rfl ?_
  refine g_istore_n (pc := 41) C dX5_init_41 (Nat.le_of_ble_eq_true rfl) (lo' := [(2, .int 0), (0, .ref (adr x a0)), (1, .ref (adr x a1))]) rfl ?_
  obtain ⟨n31, h⟩ := h
  refine g_sub [1, 2, 0] rfl ?_
  refine t_X5_init_42 C hlk hr hnm n31 _ _ _ _ _ _ hb15 h
def w_X10_init (mc ms : Nat) (a0 : Nat) (K : Wd → Prop) (w : Wd) : Prop :=
  isK w a0 10 ∧ (1 ≤ mc ∧ 30 ≤ ms) ∧ ∀ r3 w4, r3 = wN (uI (uI (uI w a0 0 0) a0 1 0) a0 2 0) → w4 = wA (uI (uI (uI w a0 0 0) a0 1 0) a0 2 0) 21 30 → isK w4 a0 10 ∧ r3 ≠ 0 ∧ K (uR w4 a0 3 r3)
theorem c_X10_init {x : xG} {l : Launch} {a0 : Nat} {mc ms : Nat} {K : Wd → Prop} {w : Wd} (h : w_X10_init mc ms a0 K w) : Met l yX10_init (xws yX10_init cX10_init 1 none) (rmd 1 mc ms) (xPc x [.ref (adr x a0)] w) (QcV x K) mc ms (xA x) := by
  refine xMet (by decide) (Nat.le_of_ble_eq_true rfl) (fun p e s m below meth c C hlk hr hnm => ?_)
  show GW x p l e (rmd 1 mc ms) s m [.ref (adr x a0)].toArray below meth c 1 (QV x K below [.ref (adr x a0)].toArray s mc ms) 0 [(0, .ref (adr x a0))] [] w 0 0
  refine g_aload_n (pc := 0) C dX10_init_0 (q := 0) rfl ?_
  refine g_objI (pc := 1) C LOX10 LOi LOc dX10_init_1 (Nat.le_of_ble_eq_true rfl) (Nat.le_of_ble_eq_true rfl) ?_
  refine g_aload_n (pc := 4) C dX10_init_4 (q := 0) rfl ?_
  refine g_iconst (pc := 5) C dX10_init_5 (v := 0) rfl ?_
  obtain ⟨k1, h⟩ := h
  refine pfX10_9 (pc := 6) C k1 (Or.inl rfl) dX10_init_6 ?_
  refine g_aload_n (pc := 9) C dX10_init_9 (q := 0) rfl ?_
  refine g_iconst (pc := 10) C dX10_init_10 (v := 0) rfl ?_
  refine pfX10_15 (pc := 11) (w := uI w a0 0 0) C k1 dX10_init_11 ?_
  refine g_aload_n (pc := 14) C dX10_init_14 (q := 0) rfl ?_
  refine g_iconst (pc := 15) C dX10_init_15 (v := 0) rfl ?_
  refine pfX10_19 (pc := 16) (w := uI (uI w a0 0 0) a0 1 0) C k1 dX10_init_16 ?_
  refine g_aload_n (pc := 19) C dX10_init_19 (q := 0) rfl ?_
  refine g_bipush (pc := 20) C dX10_init_20 (v := 30) rfl ?_
  obtain ⟨hb2, h⟩ := h
  refine g_newL (pc := 22) (w := uI (uI (uI w a0 0 0) a0 1 0) a0 2 0) C (n := 30) rfl LAlong (by decide) (Nat.le_of_ble_eq_true rfl) hb2 dX10_init_22 (fun r3 w4 e5 e6 => ?_)
  replace h := h r3 w4 e5 e6
  obtain ⟨k7, h⟩ := h
  obtain ⟨k8, h⟩ := h
  refine pfX10_22 (pc := 24) C k7 k8 hnm dX10_init_24 ?_
  exact g_vret (pc := 27) C hlk hr hb2.1 hb2.2 dX10_init_27 h
def w_X4_init (mc ms : Nat) (a0 : Nat) (a1 : Nat) (K : Wd → Prop) (w : Wd) : Prop :=
  isK w a0 4 ∧ (1 ≤ mc ∧ 10 ≤ ms) ∧ ∀ r3 w4, r3 = wN (uI w a0 1 0) → w4 = wA (uI w a0 1 0) 20 10 → isK w4 a0 4 ∧ r3 ≠ 0 ∧ (2 ≤ mc ∧ 20 ≤ ms) ∧ ∀ r10 w11, r10 = wN (uR w4 a0 2 r3) → w11 = wA (uR w4 a0 2 r3) 20 10 → isK w11 a0 4 ∧ r10 ≠ 0 ∧ (3 ≤ mc ∧ 28 ≤ ms) ∧ ∀ r17 w18, r17 = wN (uR w11 a0 3 r10) → w18 = wA (uR w11 a0 3 r10) 20 8 → isK w18 a0 4 ∧ r17 ≠ 0 ∧ (4 ≤ mc ∧ 92 ≤ ms) ∧ ∀ r24 w25, r24 = wN (uR w18 a0 4 r17) → w25 = wA (uR w18 a0 4 r17) 20 64 → isK w25 a0 4 ∧ r24 ≠ 0 ∧ a1 ≠ 0 ∧ K (uR (uR w25 a0 5 r24) a0 0 a1)
theorem c_X4_init {x : xG} {l : Launch} {a0 : Nat} {a1 : Nat} {mc ms : Nat} {K : Wd → Prop} {w : Wd} (h : w_X4_init mc ms a0 a1 K w) : Met l yX4_init (xws yX4_init cX4_init 2 none) (rmd 1 mc ms) (xPc x [.ref (adr x a0), .ref (adr x a1)] w) (QcV x K) mc ms (xA x) := by
  refine xMet (by decide) (Nat.le_of_ble_eq_true rfl) (fun p e s m below meth c C hlk hr hnm => ?_)
  show GW x p l e (rmd 1 mc ms) s m [.ref (adr x a0), .ref (adr x a1)].toArray below meth c 2 (QV x K below [.ref (adr x a0), .ref (adr x a1)].toArray s mc ms) 0 [(0, .ref (adr x a0)), (1, .ref (adr x a1))] [] w 0 0
  refine g_aload_n (pc := 0) C dX4_init_0 (q := 0) rfl ?_
  refine g_objI (pc := 1) C LOX4 LOi LOc dX4_init_1 (Nat.le_of_ble_eq_true rfl) (Nat.le_of_ble_eq_true rfl) ?_
  refine g_aload_n (pc := 4) C dX4_init_4 (q := 0) rfl ?_
  refine g_iconst (pc := 5) C dX4_init_5 (v := 0) rfl ?_
  obtain ⟨k1, h⟩ := h
  refine pfX4_9 (pc := 6) C k1 dX4_init_6 ?_
  refine g_aload_n (pc := 9) C dX4_init_9 (q := 0) rfl ?_
  refine g_bipush (pc := 10) C dX4_init_10 (v := 10) rfl ?_
  obtain ⟨hb2, h⟩ := h
  refine g_newI (pc := 12) (w := uI w a0 1 0) C (n := 10) rfl LAint (by decide) (Nat.le_of_ble_eq_true rfl) hb2 dX4_init_12 (fun r3 w4 e5 e6 => ?_)
  replace h := h r3 w4 e5 e6
  obtain ⟨k7, h⟩ := h
  obtain ⟨k8, h⟩ := h
  refine pfX4_15 (pc := 14) C k7 k8 hnm dX4_init_14 ?_
  refine g_aload_n (pc := 17) C dX4_init_17 (q := 0) rfl ?_
  refine g_bipush (pc := 18) C dX4_init_18 (v := 10) rfl ?_
  obtain ⟨hb9, h⟩ := h
  refine g_newI (pc := 20) (w := uR w4 a0 2 r3) C (n := 10) rfl LAint (by decide) (Nat.le_of_ble_eq_true rfl) hb9 dX4_init_20 (fun r10 w11 e12 e13 => ?_)
  replace h := h r10 w11 e12 e13
  obtain ⟨k14, h⟩ := h
  obtain ⟨k15, h⟩ := h
  refine pfX4_19 (pc := 22) C k14 k15 hnm dX4_init_22 ?_
  refine g_aload_n (pc := 25) C dX4_init_25 (q := 0) rfl ?_
  refine g_bipush (pc := 26) C dX4_init_26 (v := 8) rfl ?_
  obtain ⟨hb16, h⟩ := h
  refine g_newI (pc := 28) (w := uR w11 a0 3 r10) C (n := 8) rfl LAint (by decide) (Nat.le_of_ble_eq_true rfl) hb16 dX4_init_28 (fun r17 w18 e19 e20 => ?_)
  replace h := h r17 w18 e19 e20
  obtain ⟨k21, h⟩ := h
  obtain ⟨k22, h⟩ := h
  refine pfX4_22 (pc := 30) C k21 k22 hnm dX4_init_30 ?_
  refine g_aload_n (pc := 33) C dX4_init_33 (q := 0) rfl ?_
  refine g_bipush (pc := 34) C dX4_init_34 (v := 64) rfl ?_
  obtain ⟨hb23, h⟩ := h
  refine g_newI (pc := 36) (w := uR w18 a0 4 r17) C (n := 64) rfl LAint (by decide) (Nat.le_of_ble_eq_true rfl) hb23 dX4_init_36 (fun r24 w25 e26 e27 => ?_)
  replace h := h r24 w25 e26 e27
  obtain ⟨k28, h⟩ := h
  obtain ⟨k29, h⟩ := h
  refine pfX4_25 (pc := 38) C k28 k29 hnm dX4_init_38 ?_
  refine g_aload_n (pc := 41) C dX4_init_41 (q := 0) rfl ?_
  refine g_aload_n (pc := 42) C dX4_init_42 (q := 1) rfl ?_
  obtain ⟨k30, h⟩ := h
  refine pfX4_28 (pc := 43) (w := uR w25 a0 5 r24) C k28 k30 dX4_init_43 ?_
  exact g_vret (pc := 46) C hlk hr hb23.1 hb23.2 dX4_init_46 h
def w_X0_init (mc ms : Nat) (a0 : Nat) (a1 : Nat) (K : Wd → Prop) (w : Wd) : Prop :=
  isK w a0 0 ∧ a1 ≠ 0 ∧ K (uR w a0 0 a1)
theorem c_X0_init {x : xG} {l : Launch} {a0 : Nat} {a1 : Nat} {mc ms : Nat} {K : Wd → Prop} {w : Wd} (h : w_X0_init mc ms a0 a1 K w) : Met l yX0_init (xws yX0_init cX0_init 2 none) (rmd 1 mc ms) (xPc x [.ref (adr x a0), .ref (adr x a1)] w) (QcV x K) mc ms (xA x) := by
  refine xMet (by decide) (Nat.le_of_ble_eq_true rfl) (fun p e s m below meth c C hlk hr hnm => ?_)
  show GW x p l e (rmd 1 mc ms) s m [.ref (adr x a0), .ref (adr x a1)].toArray below meth c 2 (QV x K below [.ref (adr x a0), .ref (adr x a1)].toArray s mc ms) 0 [(0, .ref (adr x a0)), (1, .ref (adr x a1))] [] w 0 0
  refine g_aload_n (pc := 0) C dX0_init_0 (q := 0) rfl ?_
  refine g_objI (pc := 1) C LOX0 LOi LOc dX0_init_1 (Nat.le_of_ble_eq_true rfl) (Nat.le_of_ble_eq_true rfl) ?_
  refine g_aload_n (pc := 4) C dX0_init_4 (q := 0) rfl ?_
  refine g_aload_n (pc := 5) C dX0_init_5 (q := 1) rfl ?_
  obtain ⟨k1, h⟩ := h
  obtain ⟨k2, h⟩ := h
  refine pfX0_9 (pc := 6) C k1 k2 hnm dX0_init_6 ?_
  exact g_vret (pc := 9) C hlk hr (Nat.zero_le _) (Nat.zero_le _) dX0_init_9 h
def w_X3_init (mc ms : Nat) (a0 : Nat) (a1 : Int32) (K : Wd → Prop) (w : Wd) : Prop :=
  isK w a0 3 ∧ K (uI w a0 0 a1)
theorem c_X3_init {x : xG} {l : Launch} {a0 : Nat} {a1 : Int32} {mc ms : Nat} {K : Wd → Prop} {w : Wd} (h : w_X3_init mc ms a0 a1 K w) : Met l yX3_init (xws yX3_init cX3_init 2 none) (rmd 1 mc ms) (xPc x [.ref (adr x a0), .int a1] w) (QcV x K) mc ms (xA x) := by
  refine xMet (by decide) (Nat.le_of_ble_eq_true rfl) (fun p e s m below meth c C hlk hr hnm => ?_)
  show GW x p l e (rmd 1 mc ms) s m [.ref (adr x a0), .int a1].toArray below meth c 2 (QV x K below [.ref (adr x a0), .int a1].toArray s mc ms) 0 [(0, .ref (adr x a0)), (1, .int a1)] [] w 0 0
  refine g_aload_n (pc := 0) C dX3_init_0 (q := 0) rfl ?_
  refine g_objI (pc := 1) C LOX3 LOi LOc dX3_init_1 (Nat.le_of_ble_eq_true rfl) (Nat.le_of_ble_eq_true rfl) ?_
  refine g_aload_n (pc := 4) C dX3_init_4 (q := 0) rfl ?_
  refine g_iload_n (pc := 5) C dX3_init_5 (q := 1) rfl ?_
  obtain ⟨k1, h⟩ := h
  refine pfX3_9 (pc := 6) C k1 dX3_init_6 ?_
  exact g_vret (pc := 9) C hlk hr (Nat.zero_le _) (Nat.zero_le _) dX3_init_9 h
def w_X8_init (mc ms : Nat) (a0 : Nat) (K : Wd → Prop) (w : Wd) : Prop :=
  (1 ≤ mc ∧ 360 ≤ ms) ∧ ∀ r2 w3, r2 = wN w → w3 = wA w 20 360 → isK w3 a0 8 ∧ r2 ≠ 0 ∧ (2 ≤ mc ∧ 367 ≤ ms) ∧ ∀ r9 w10, r9 = wN (uR w3 a0 0 r2) → w10 = wA (uR w3 a0 0 r2) 20 7 → isK w10 a0 8 ∧ r9 ≠ 0 ∧ (3 ≤ mc ∧ 378 ≤ ms) ∧ ∀ r16 w17, r16 = wN (uR w10 a0 1 r9) → w17 = wA (uR w10 a0 1 r9) 20 11 → isK w17 a0 8 ∧ r16 ≠ 0 ∧ K (uI (uI (uI (uR w17 a0 2 r16) a0 3 1) a0 4 1) a0 5 1)
theorem c_X8_init {x : xG} {l : Launch} {a0 : Nat} {mc ms : Nat} {K : Wd → Prop} {w : Wd} (h : w_X8_init mc ms a0 K w) : Met l yX8_init (xws yX8_init cX8_init 1 none) (rmd 1 mc ms) (xPc x [.ref (adr x a0)] w) (QcV x K) mc ms (xA x) := by
  refine xMet (by decide) (Nat.le_of_ble_eq_true rfl) (fun p e s m below meth c C hlk hr hnm => ?_)
  show GW x p l e (rmd 1 mc ms) s m [.ref (adr x a0)].toArray below meth c 1 (QV x K below [.ref (adr x a0)].toArray s mc ms) 0 [(0, .ref (adr x a0))] [] w 0 0
  refine g_aload_n (pc := 0) C dX8_init_0 (q := 0) rfl ?_
  refine g_objI (pc := 1) C LOX8 LOi LOc dX8_init_1 (Nat.le_of_ble_eq_true rfl) (Nat.le_of_ble_eq_true rfl) ?_
  refine g_aload_n (pc := 4) C dX8_init_4 (q := 0) rfl ?_
  refine g_sipush (pc := 5) C dX8_init_5 (v := 360) rfl ?_
  obtain ⟨hb1, h⟩ := h
  refine g_newI (pc := 8) C (n := 360) rfl LAint (by decide) (Nat.le_of_ble_eq_true rfl) hb1 dX8_init_8 (fun r2 w3 e4 e5 => ?_)
  replace h := h r2 w3 e4 e5
  obtain ⟨k6, h⟩ := h
  obtain ⟨k7, h⟩ := h
  refine pfX8_9 (pc := 10) C k6 k7 hnm dX8_init_10 ?_
  refine g_aload_n (pc := 13) C dX8_init_13 (q := 0) rfl ?_
  refine g_bipush (pc := 14) C dX8_init_14 (v := 7) rfl ?_
  obtain ⟨hb8, h⟩ := h
  refine g_newI (pc := 16) (w := uR w3 a0 0 r2) C (n := 7) rfl LAint (by decide) (Nat.le_of_ble_eq_true rfl) hb8 dX8_init_16 (fun r9 w10 e11 e12 => ?_)
  replace h := h r9 w10 e11 e12
  obtain ⟨k13, h⟩ := h
  obtain ⟨k14, h⟩ := h
  refine pfX8_15 (pc := 18) C k13 k14 hnm dX8_init_18 ?_
  refine g_aload_n (pc := 21) C dX8_init_21 (q := 0) rfl ?_
  refine g_bipush (pc := 22) C dX8_init_22 (v := 11) rfl ?_
  obtain ⟨hb15, h⟩ := h
  refine g_newI (pc := 24) (w := uR w10 a0 1 r9) C (n := 11) rfl LAint (by decide) (Nat.le_of_ble_eq_true rfl) hb15 dX8_init_24 (fun r16 w17 e18 e19 => ?_)
  replace h := h r16 w17 e18 e19
  obtain ⟨k20, h⟩ := h
  obtain ⟨k21, h⟩ := h
  refine pfX8_18 (pc := 26) C k20 k21 hnm dX8_init_26 ?_
  refine g_aload_n (pc := 29) C dX8_init_29 (q := 0) rfl ?_
  refine g_iconst (pc := 30) C dX8_init_30 (v := 1) rfl ?_
  refine pfX8_21 (pc := 31) (w := uR w17 a0 2 r16) C k20 dX8_init_31 ?_
  refine g_aload_n (pc := 34) C dX8_init_34 (q := 0) rfl ?_
  refine g_iconst (pc := 35) C dX8_init_35 (v := 1) rfl ?_
  refine pfX8_25 (pc := 36) (w := uI (uR w17 a0 2 r16) a0 3 1) C k20 dX8_init_36 ?_
  refine g_aload_n (pc := 39) C dX8_init_39 (q := 0) rfl ?_
  refine g_iconst (pc := 40) C dX8_init_40 (v := 1) rfl ?_
  refine pfX8_28 (pc := 41) (w := uI (uI (uR w17 a0 2 r16) a0 3 1) a0 4 1) C k20 dX8_init_41 ?_
  exact g_vret (pc := 44) C hlk hr hb15.1 hb15.2 dX8_init_44 h
def w_X6_init (mc ms : Nat) (a0 : Nat) (a1 : Nat) (a2 : Nat) (K : Wd → Prop) (w : Wd) : Prop :=
  (1 ≤ mc ∧ 6 ≤ ms) ∧ ∀ r2 w3, r2 = wN w → w3 = wA w 21 6 → isK w3 a0 6 ∧ r2 ≠ 0 ∧ (2 ≤ mc ∧ 70 ≤ ms) ∧ ∀ r9 w10, r9 = wN (uR w3 a0 2 r2) → w10 = wA (uR w3 a0 2 r2) 21 64 → isK w10 a0 6 ∧ r9 ≠ 0 ∧ a1 ≠ 0 ∧ a2 ≠ 0 ∧ K (uR (uR (uR w10 a0 3 r9) a0 0 a1) a0 1 a2)
theorem c_X6_init {x : xG} {l : Launch} {a0 : Nat} {a1 : Nat} {a2 : Nat} {mc ms : Nat} {K : Wd → Prop} {w : Wd} (h : w_X6_init mc ms a0 a1 a2 K w) : Met l yX6_init (xws yX6_init cX6_init 3 none) (rmd 1 mc ms) (xPc x [.ref (adr x a0), .ref (adr x a1), .ref (adr x a2)] w) (QcV x K) mc ms (xA x) := by
  refine xMet (by decide) (Nat.le_of_ble_eq_true rfl) (fun p e s m below meth c C hlk hr hnm => ?_)
  show GW x p l e (rmd 1 mc ms) s m [.ref (adr x a0), .ref (adr x a1), .ref (adr x a2)].toArray below meth c 3 (QV x K below [.ref (adr x a0), .ref (adr x a1), .ref (adr x a2)].toArray s mc ms) 0 [(0, .ref (adr x a0)), (1, .ref (adr x a1)), (2, .ref (adr x a2))] [] w 0 0
  refine g_aload_n (pc := 0) C dX6_init_0 (q := 0) rfl ?_
  refine g_objI (pc := 1) C LOX6 LOi LOc dX6_init_1 (Nat.le_of_ble_eq_true rfl) (Nat.le_of_ble_eq_true rfl) ?_
  refine g_aload_n (pc := 4) C dX6_init_4 (q := 0) rfl ?_
  refine g_bipush (pc := 5) C dX6_init_5 (v := 6) rfl ?_
  obtain ⟨hb1, h⟩ := h
  refine g_newL (pc := 7) C (n := 6) rfl LAlong (by decide) (Nat.le_of_ble_eq_true rfl) hb1 dX6_init_7 (fun r2 w3 e4 e5 => ?_)
  replace h := h r2 w3 e4 e5
  obtain ⟨k6, h⟩ := h
  obtain ⟨k7, h⟩ := h
  refine pfX6_9 (pc := 9) C k6 k7 hnm dX6_init_9 ?_
  refine g_aload_n (pc := 12) C dX6_init_12 (q := 0) rfl ?_
  refine g_bipush (pc := 13) C dX6_init_13 (v := 64) rfl ?_
  obtain ⟨hb8, h⟩ := h
  refine g_newL (pc := 15) (w := uR w3 a0 2 r2) C (n := 64) rfl LAlong (by decide) (Nat.le_of_ble_eq_true rfl) hb8 dX6_init_15 (fun r9 w10 e11 e12 => ?_)
  replace h := h r9 w10 e11 e12
  obtain ⟨k13, h⟩ := h
  obtain ⟨k14, h⟩ := h
  refine pfX6_15 (pc := 17) C k13 k14 hnm dX6_init_17 ?_
  refine g_aload_n (pc := 20) C dX6_init_20 (q := 0) rfl ?_
  refine g_aload_n (pc := 21) C dX6_init_21 (q := 1) rfl ?_
  obtain ⟨k15, h⟩ := h
  refine pfX6_18 (pc := 22) (w := uR w10 a0 3 r9) C k13 k15 hnm dX6_init_22 ?_
  refine g_aload_n (pc := 25) C dX6_init_25 (q := 0) rfl ?_
  refine g_aload_n (pc := 26) C dX6_init_26 (q := 2) rfl ?_
  obtain ⟨k16, h⟩ := h
  refine pfX6_22 (pc := 27) (w := uR (uR w10 a0 3 r9) a0 0 a1) C k13 k16 hnm dX6_init_27 ?_
  exact g_vret (pc := 30) C hlk hr hb8.1 hb8.2 dX6_init_30 h
def w_X9_init (mc ms : Nat) (a0 : Nat) (K : Wd → Prop) (w : Wd) : Prop :=
  isK w a0 9 ∧ (1 ≤ mc ∧ 649 ≤ ms) ∧ ∀ r3 w4, r3 = wN (uI (uI (uI (uI w a0 0 0) a0 1 0) a0 2 0) a0 3 0) → w4 = wA (uI (uI (uI (uI w a0 0 0) a0 1 0) a0 2 0) a0 3 0) 20 649 → isK w4 a0 9 ∧ r3 ≠ 0 ∧ K (uR w4 a0 4 r3)
theorem c_X9_init {x : xG} {l : Launch} {a0 : Nat} {mc ms : Nat} {K : Wd → Prop} {w : Wd} (h : w_X9_init mc ms a0 K w) : Met l yX9_init (xws yX9_init cX9_init 1 none) (rmd 1 mc ms) (xPc x [.ref (adr x a0)] w) (QcV x K) mc ms (xA x) := by
  refine xMet (by decide) (Nat.le_of_ble_eq_true rfl) (fun p e s m below meth c C hlk hr hnm => ?_)
  show GW x p l e (rmd 1 mc ms) s m [.ref (adr x a0)].toArray below meth c 1 (QV x K below [.ref (adr x a0)].toArray s mc ms) 0 [(0, .ref (adr x a0))] [] w 0 0
  refine g_aload_n (pc := 0) C dX9_init_0 (q := 0) rfl ?_
  refine g_objI (pc := 1) C LOX9 LOi LOc dX9_init_1 (Nat.le_of_ble_eq_true rfl) (Nat.le_of_ble_eq_true rfl) ?_
  refine g_aload_n (pc := 4) C dX9_init_4 (q := 0) rfl ?_
  refine g_iconst (pc := 5) C dX9_init_5 (v := 0) rfl ?_
  obtain ⟨k1, h⟩ := h
  refine pfX9_9 (pc := 6) C k1 dX9_init_6 ?_
  refine g_aload_n (pc := 9) C dX9_init_9 (q := 0) rfl ?_
  refine g_iconst (pc := 10) C dX9_init_10 (v := 0) rfl ?_
  refine pfX9_15 (pc := 11) (w := uI w a0 0 0) C k1 dX9_init_11 ?_
  refine g_aload_n (pc := 14) C dX9_init_14 (q := 0) rfl ?_
  refine g_iconst (pc := 15) C dX9_init_15 (v := 0) rfl ?_
  refine pfX9_18 (pc := 16) (w := uI (uI w a0 0 0) a0 1 0) C k1 dX9_init_16 ?_
  refine g_aload_n (pc := 19) C dX9_init_19 (q := 0) rfl ?_
  refine g_iconst (pc := 20) C dX9_init_20 (v := 0) rfl ?_
  refine pfX9_21 (pc := 21) (w := uI (uI (uI w a0 0 0) a0 1 0) a0 2 0) C k1 dX9_init_21 ?_
  refine g_aload_n (pc := 24) C dX9_init_24 (q := 0) rfl ?_
  refine g_sipush (pc := 25) C dX9_init_25 (v := 649) rfl ?_
  obtain ⟨hb2, h⟩ := h
  refine g_newI (pc := 28) (w := uI (uI (uI (uI w a0 0 0) a0 1 0) a0 2 0) a0 3 0) C (n := 649) rfl LAint (by decide) (Nat.le_of_ble_eq_true rfl) hb2 dX9_init_28 (fun r3 w4 e5 e6 => ?_)
  replace h := h r3 w4 e5 e6
  obtain ⟨k7, h⟩ := h
  obtain ⟨k8, h⟩ := h
  refine pfX9_24 (pc := 30) C k7 k8 hnm dX9_init_30 ?_
  exact g_vret (pc := 33) C hlk hr hb2.1 hb2.2 dX9_init_33 h
def w_X7_init (mc ms : Nat) (a0 : Nat) (a1 : Nat) (K : Wd → Prop) (w : Wd) : Prop :=
  isK w a0 7 ∧ (1 ≤ mc ∧ 900 ≤ ms) ∧ ∀ r3 w4, r3 = wN (uI (uI (uI w a0 0 0) a0 1 0) a0 2 (-1)) → w4 = wA (uI (uI (uI w a0 0 0) a0 1 0) a0 2 (-1)) 22 900 → isK w4 a0 7 ∧ r3 ≠ 0 ∧ (2 ≤ mc ∧ 1800 ≤ ms) ∧ ∀ r10 w11, r10 = wN (uI (uI (uI (uI (uI (uI (uR w4 a0 4 r3) a0 5 0) a0 6 0) a0 7 0) a0 8 4) a0 9 0) a0 10 0) → w11 = wA (uI (uI (uI (uI (uI (uI (uR w4 a0 4 r3) a0 5 0) a0 6 0) a0 7 0) a0 8 4) a0 9 0) a0 10 0) 20 900 → isK w11 a0 7 ∧ r10 ≠ 0 ∧ a1 ≠ 0 ∧ K (uR (uI (uR w11 a0 11 r10) a0 12 0) a0 3 a1)
theorem c_X7_init {x : xG} {l : Launch} {a0 : Nat} {a1 : Nat} {mc ms : Nat} {K : Wd → Prop} {w : Wd} (h : w_X7_init mc ms a0 a1 K w) : Met l yX7_init (xws yX7_init cX7_init 2 none) (rmd 1 mc ms) (xPc x [.ref (adr x a0), .ref (adr x a1)] w) (QcV x K) mc ms (xA x) := by
  refine xMet (by decide) (Nat.le_of_ble_eq_true rfl) (fun p e s m below meth c C hlk hr hnm => ?_)
  show GW x p l e (rmd 1 mc ms) s m [.ref (adr x a0), .ref (adr x a1)].toArray below meth c 2 (QV x K below [.ref (adr x a0), .ref (adr x a1)].toArray s mc ms) 0 [(0, .ref (adr x a0)), (1, .ref (adr x a1))] [] w 0 0
  refine g_aload_n (pc := 0) C dX7_init_0 (q := 0) rfl ?_
  refine g_objI (pc := 1) C LOX7 LOi LOc dX7_init_1 (Nat.le_of_ble_eq_true rfl) (Nat.le_of_ble_eq_true rfl) ?_
  refine g_aload_n (pc := 4) C dX7_init_4 (q := 0) rfl ?_
  refine g_iconst (pc := 5) C dX7_init_5 (v := 0) rfl ?_
  obtain ⟨k1, h⟩ := h
  refine pfX7_9 (pc := 6) C k1 dX7_init_6 ?_
  refine g_aload_n (pc := 9) C dX7_init_9 (q := 0) rfl ?_
  refine g_iconst (pc := 10) C dX7_init_10 (v := 0) rfl ?_
  refine pfX7_15 (pc := 11) (w := uI w a0 0 0) C k1 dX7_init_11 ?_
  refine g_aload_n (pc := 14) C dX7_init_14 (q := 0) rfl ?_
  refine g_iconst (pc := 15) C dX7_init_15 (v := (-1)) rfl ?_
  refine pfX7_18 (pc := 16) (w := uI (uI w a0 0 0) a0 1 0) C k1 dX7_init_16 ?_
  refine g_aload_n (pc := 19) C dX7_init_19 (q := 0) rfl ?_
  refine g_sipush (pc := 20) C dX7_init_20 (v := 900) rfl ?_
  obtain ⟨hb2, h⟩ := h
  refine g_newB (pc := 23) (w := uI (uI (uI w a0 0 0) a0 1 0) a0 2 (-1)) C (n := 900) rfl LAbyte (by decide) (Nat.le_of_ble_eq_true rfl) hb2 dX7_init_23 (fun r3 w4 e5 e6 => ?_)
  replace h := h r3 w4 e5 e6
  obtain ⟨k7, h⟩ := h
  obtain ⟨k8, h⟩ := h
  refine pfX7_21 (pc := 25) C k7 k8 hnm dX7_init_25 ?_
  refine g_aload_n (pc := 28) C dX7_init_28 (q := 0) rfl ?_
  refine g_iconst (pc := 29) C dX7_init_29 (v := 0) rfl ?_
  refine pfX7_25 (pc := 30) (w := uR w4 a0 4 r3) C k7 dX7_init_30 ?_
  refine g_aload_n (pc := 33) C dX7_init_33 (q := 0) rfl ?_
  refine g_iconst (pc := 34) C dX7_init_34 (v := 0) rfl ?_
  refine pfX7_28 (pc := 35) (w := uI (uR w4 a0 4 r3) a0 5 0) C k7 dX7_init_35 ?_
  refine g_aload_n (pc := 38) C dX7_init_38 (q := 0) rfl ?_
  refine g_iconst (pc := 39) C dX7_init_39 (v := 0) rfl ?_
  refine pfX7_31 (pc := 40) (w := uI (uI (uR w4 a0 4 r3) a0 5 0) a0 6 0) C k7 dX7_init_40 ?_
  refine g_aload_n (pc := 43) C dX7_init_43 (q := 0) rfl ?_
  refine g_iconst (pc := 44) C dX7_init_44 (v := 4) rfl ?_
  refine pfX7_34 (pc := 45) (w := uI (uI (uI (uR w4 a0 4 r3) a0 5 0) a0 6 0) a0 7 0) C k7 dX7_init_45 ?_
  refine g_aload_n (pc := 48) C dX7_init_48 (q := 0) rfl ?_
  refine g_iconst (pc := 49) C dX7_init_49 (v := 0) rfl ?_
  refine pfX7_37 (pc := 50) (w := uI (uI (uI (uI (uR w4 a0 4 r3) a0 5 0) a0 6 0) a0 7 0) a0 8 4) C k7 dX7_init_50 ?_
  refine g_aload_n (pc := 53) C dX7_init_53 (q := 0) rfl ?_
  refine g_iconst (pc := 54) C dX7_init_54 (v := 0) rfl ?_
  refine pfX7_40 (pc := 55) (w := uI (uI (uI (uI (uI (uR w4 a0 4 r3) a0 5 0) a0 6 0) a0 7 0) a0 8 4) a0 9 0) C k7 dX7_init_55 ?_
  refine g_aload_n (pc := 58) C dX7_init_58 (q := 0) rfl ?_
  refine g_sipush (pc := 59) C dX7_init_59 (v := 900) rfl ?_
  obtain ⟨hb9, h⟩ := h
  refine g_newI (pc := 62) (w := uI (uI (uI (uI (uI (uI (uR w4 a0 4 r3) a0 5 0) a0 6 0) a0 7 0) a0 8 4) a0 9 0) a0 10 0) C (n := 900) rfl LAint (by decide) (Nat.le_of_ble_eq_true rfl) hb9 dX7_init_62 (fun r10 w11 e12 e13 => ?_)
  replace h := h r10 w11 e12 e13
  obtain ⟨k14, h⟩ := h
  obtain ⟨k15, h⟩ := h
  refine pfX7_43 (pc := 64) C k14 k15 hnm dX7_init_64 ?_
  refine g_aload_n (pc := 67) C dX7_init_67 (q := 0) rfl ?_
  refine g_iconst (pc := 68) C dX7_init_68 (v := 0) rfl ?_
  refine pfX7_47 (pc := 69) (w := uR w11 a0 11 r10) C k14 dX7_init_69 ?_
  refine g_aload_n (pc := 72) C dX7_init_72 (q := 0) rfl ?_
  refine g_aload_n (pc := 73) C dX7_init_73 (q := 1) rfl ?_
  obtain ⟨k16, h⟩ := h
  refine pfX7_50 (pc := 74) (w := uI (uR w11 a0 11 r10) a0 12 0) C k14 k16 dX7_init_74 ?_
  exact g_vret (pc := 77) C hlk hr hb9.1 hb9.2 dX7_init_77 h
theorem miX7_150 (C : xC x p s m c cc nL args RX7) {a0 : Nat} {a1 : Int32} {K : Int32 → Wd → Prop} {D MC MS : Nat} (hq : isK w a0 7) (h : w_X7_readTruth a0 a1 K w) (hD : 210 + 1 ≤ D) (hW : (st.map fun v => v.category).sum ≤ 8) (hij : i ≤ MC ∧ j ≤ MS) (hd : decode cc pc = .ok (.invokevirtual 150, 3)) (k : ∀ (r : Int32) (u : Wd), K r u → GW x p l e (rmd D MC MS) s m args below meth c nL Q (pc + 3) lo (.int r :: st) u i j) : GW x p l e (rmd D MC MS) s m args below meth c nL Q pc lo (.int a1 :: .ref (adr x a0) :: st) w i j := g_callVi0 C (As := [.int a1]) (ci := 7) (c_X7_readTruth h) (x_cwV C 1 LMX7_150 ⟨rfl, by decide, by decide, rfl⟩ hD (by decide)) rfl hq (by decide) rfl rfl hW hd hij k
theorem miX7_153 (C : xC x p s m c cc nL args RX7) {a0 : Int32} {a1 : Int32} {K : Int32 → Wd → Prop} {D MC MS : Nat} (h : w_J9_max_7cf53 a0 a1 K w) (hD : 0 + 1 ≤ D) (hW : (st.map fun v => v.category).sum ≤ 8) (hij : i ≤ MC ∧ j ≤ MS) (hd : decode cc pc = .ok (.invokestatic 153, 3)) (k : ∀ (r : Int32) (u : Wd), K r u → GW x p l e (rmd D MC MS) s m args below meth c nL Q (pc + 3) lo (.int r :: st) u i j) : GW x p l e (rmd D MC MS) s m args below meth c nL Q pc lo (.int a1 :: .int a0 :: st) w i j := g_callSi0 C (As := [.int a0, .int a1]) (c_J9_max_7cf53 h) (x_cwS C 2 LMX7_153 ⟨by decide, by decide, rfl⟩ hD (by decide)) rfl rfl hW hd hij k
def l_X7_readLaw_35 (mc ms : Nat)  (K : Int32 → Wd → Prop) : Nat → Nat → Nat → Int32 → Nat → Nat → Wd → Prop
  | 0, _, _, _, _, _, _ => False
  | n + 1, a0, a1, a2, i0, j0, w => (a1 = 1 ∨ isK w a1 20) ∧ (((Int32.ofNat (wn w a1)) ≤ a2 → isK w a0 7 ∧ isK w (wR w a0 3) 1 ∧ a1 ≠ 0 ∧ K 1 (uR w (wR w a0 3) 4 a1)) ∧ (¬ (Int32.ofNat (wn w a1)) ≤ a2 → isK w a0 7 ∧ isK w (wR w a0 11) 20 ∧ (((Int32.ofNat (wn w (wR w a0 11))) ≤ a2 → isK w (wR w a0 3) 1 ∧ a1 ≠ 0 ∧ K 1 (uR w (wR w a0 3) 4 a1)) ∧ (¬ (Int32.ofNat (wn w (wR w a0 11))) ≤ a2 → vp_in a2 (wn w (wR w a0 11)) ∧ isK w a1 20 ∧ vp_in a2 (wn w a1) ∧ l_X7_readLaw_35 mc ms K n a0 a1 (a2 + 1) i0 j0 (uI w a1 a2.toNatClampNeg (wI w (wR w a0 11) a2.toNatClampNeg))))))
def w_X7_readLaw (mc ms : Nat) (a0 : Nat) (K : Int32 → Wd → Prop) (w : Wd) : Prop :=
  isK w a0 7 ∧ w_X7_advance a0 (fun r2 w3 => ((r2 = 0 → K 0 w3) ∧ (¬ r2 = 0 → isK w3 a0 7 ∧ w_X7_readTruth a0 0 (fun r6 w7 => ((r6 = 0 → K 0 w7) ∧ (¬ r6 = 0 → isK w7 a0 7 ∧ w_J9_max_7cf53 (wI w7 a0 12) 0 (fun r10 w11 => ¬ r10 < 0 ∧ r10.toNatClampNeg ≤ 100000 ∧ (1 ≤ mc ∧ 0 + r10.toNatClampNeg ≤ ms) ∧ ∀ r15 w16, r15 = wN w11 → w16 = wA w11 20 r10.toNatClampNeg → ∃ n32, l_X7_readLaw_35 mc ms  K n32 a0 r15 0 1 (0 + r10.toNatClampNeg) w16) w7))) w3))) (uI w a0 12 0)
theorem t_X7_readLaw_35 (C : xC x p s m c cX7_readLaw 3 args RX7) (hlk : meth.locks = false) (hr : meth.sig.returnType = some .boolean) {mc ms : Nat} {K : Int32 → Wd → Prop}   : ∀ (n : Nat) (a0 : Nat) (a1 : Nat) (a2 : Int32) (i0 j0 : Nat) (w : Wd), i0 ≤ mc ∧ j0 ≤ ms → l_X7_readLaw_35 mc ms K n a0 a1 a2 i0 j0 w → GW x p l e (rmd 211 mc ms) s m args below meth c 3 (QI x K below args s mc ms) 35 [(0, .ref (adr x a0)), (1, .ref (adr x a1)), (2, .int a2)] [] w i0 j0 := by
  intro n
  induction n with
  | zero => intro _ _ _ _ _ _ _ h; exact False.elim h
  | succ n ih =>
    intro a0 a1 a2 i0 j0 w hb h
    refine g_iload_n (pc := 35) C dX7_readLaw_35 (q := 2) rfl ?_
    refine g_aload_n (pc := 36) C dX7_readLaw_36 (q := 1) rfl ?_
    obtain ⟨k19, h⟩ := h
    refine g_alenI (pc := 37) C k19 dX7_readLaw_37 ?_
    refine g_icmp_ge (pc := 38) C dX7_readLaw_38 (tgt := 65) rfl (fun z20 => ?_) (fun z20 => ?_)
    · replace h := h.1 z20
      refine g_aload_n (pc := 65) C dX7_readLaw_65 (q := 0) rfl ?_
      obtain ⟨k21, h⟩ := h
      obtain ⟨k22, h⟩ := h
      refine gfX7_50 (pc := 66) C k21 (isK_ne k22) dX7_readLaw_66 ?_
      refine g_aload_n (pc := 69) C dX7_readLaw_69 (q := 1) rfl ?_
      obtain ⟨k23, h⟩ := h
      refine pfX7_159 (pc := 70) C k22 k23 dX7_readLaw_70 ?_
      refine g_iconst (pc := 73) C dX7_readLaw_73 (v := 1) rfl ?_
      exact g_zret (pc := 74) C hlk hr hb.1 hb.2 dX7_readLaw_74 (Or.inr rfl) h
    · replace h := h.2 z20
      refine g_iload_n (pc := 41) C dX7_readLaw_41 (q := 2) rfl ?_
      refine g_aload_n (pc := 42) C dX7_readLaw_42 (q := 0) rfl ?_
      obtain ⟨k24, h⟩ := h
      obtain ⟨k25, h⟩ := h
      refine gfX7_43 (pc := 43) C k24 (isK_ne k25) dX7_readLaw_43 ?_
      refine g_alen (pc := 46) C k25 (by decide) dX7_readLaw_46 ?_
      refine g_icmp_ge (pc := 47) C dX7_readLaw_47 (tgt := 65) rfl (fun z26 => ?_) (fun z26 => ?_)
      · replace h := h.1 z26
        refine g_aload_n (pc := 65) C dX7_readLaw_65 (q := 0) rfl ?_
        obtain ⟨k27, h⟩ := h
        refine gfX7_50 (pc := 66) C k24 (isK_ne k27) dX7_readLaw_66 ?_
        refine g_aload_n (pc := 69) C dX7_readLaw_69 (q := 1) rfl ?_
        obtain ⟨k28, h⟩ := h
        refine pfX7_159 (pc := 70) C k27 k28 dX7_readLaw_70 ?_
        refine g_iconst (pc := 73) C dX7_readLaw_73 (v := 1) rfl ?_
        exact g_zret (pc := 74) C hlk hr hb.1 hb.2 dX7_readLaw_74 (Or.inr rfl) h
      · replace h := h.2 z26
        refine g_aload_n (pc := 50) C dX7_readLaw_50 (q := 1) rfl ?_
        refine g_iload_n (pc := 51) C dX7_readLaw_51 (q := 2) rfl ?_
        refine g_aload_n (pc := 52) C dX7_readLaw_52 (q := 0) rfl ?_
        refine gfX7_43 (pc := 53) C k24 (isK_ne k25) dX7_readLaw_53 ?_
        refine g_iload_n (pc := 56) C dX7_readLaw_56 (q := 2) rfl ?_
        obtain ⟨k29, h⟩ := h
        refine g_iald (pc := 57) C k25 k29 dX7_readLaw_57 ?_
        obtain ⟨k30, h⟩ := h
        obtain ⟨k31, h⟩ := h
        refine g_iast (pc := 58) C k30 k31 dX7_readLaw_58 ?_
        refine g_iinc (pc := 59) C dX7_readLaw_59 (q := 2) rfl (v2 := a2 + 1) rfl (Nat.le_of_ble_eq_true rfl) (lo' := [(2, .int (a2 + 1)), (0, .ref (adr x a0)), (1, .ref (adr x a1))]) rfl ?_
        refine g_goto (pc := 62) C dX7_readLaw_62 (tgt := 35) rfl ?_
        refine g_sub [1, 2, 0] rfl ?_
        exact ih _ _ _ _ _ _ hb h
theorem c_X7_readLaw {x : xG} {l : Launch} {a0 : Nat} {mc ms : Nat} {K : Int32 → Wd → Prop} {w : Wd} (h : w_X7_readLaw mc ms a0 K w) : Met l yX7_readLaw (xws yX7_readLaw cX7_readLaw 3 (some .boolean)) (rmd 211 mc ms) (xPc x [.ref (adr x a0)] w) (QcI x K) mc ms (xA x) := by
  refine xMet (by decide) (Nat.le_of_ble_eq_true rfl) (fun p e s m below meth c C hlk hr _ => ?_)
  show GW x p l e (rmd 211 mc ms) s m [.ref (adr x a0)].toArray below meth c 3 (QI x K below [.ref (adr x a0)].toArray s mc ms) 0 [(0, .ref (adr x a0))] [] w 0 0
  refine g_aload_n (pc := 0) C dX7_readLaw_0 (q := 0) rfl ?_
  refine g_iconst (pc := 1) C dX7_readLaw_1 (v := 0) rfl ?_
  obtain ⟨k1, h⟩ := h
  refine pfX7_47 (pc := 2) C k1 dX7_readLaw_2 ?_
  refine g_aload_n (pc := 5) C dX7_readLaw_5 (q := 0) rfl ?_
  refine miX7_57 (pc := 6) (w := uI w a0 12 0) C k1 h (Nat.le_of_ble_eq_true rfl) (Nat.le_of_ble_eq_true rfl) ⟨Nat.zero_le _, Nat.zero_le _⟩ dX7_readLaw_6 (fun r2 w3 h => ?_)
  refine g_if_eq (pc := 9) C dX7_readLaw_9 (tgt := 20) rfl (fun z4 => ?_) (fun z4 => ?_)
  · replace h := h.1 z4
    refine g_iconst (pc := 20) C dX7_readLaw_20 (v := 0) rfl ?_
    exact g_zret (pc := 21) C hlk hr (Nat.zero_le _) (Nat.zero_le _) dX7_readLaw_21 (Or.inl rfl) h
  · replace h := h.2 z4
    refine g_aload_n (pc := 12) C dX7_readLaw_12 (q := 0) rfl ?_
    refine g_iconst (pc := 13) C dX7_readLaw_13 (v := 0) rfl ?_
    obtain ⟨k5, h⟩ := h
    refine miX7_150 (pc := 14) C k5 h (Nat.le_of_ble_eq_true rfl) (Nat.le_of_ble_eq_true rfl) ⟨Nat.zero_le _, Nat.zero_le _⟩ dX7_readLaw_14 (fun r6 w7 h => ?_)
    refine g_if_ne (pc := 17) C dX7_readLaw_17 (tgt := 22) rfl (fun z8 => ?_) (fun z8 => ?_)
    · replace h := h.2 z8
      refine g_aload_n (pc := 22) C dX7_readLaw_22 (q := 0) rfl ?_
      obtain ⟨k9, h⟩ := h
      refine gfX7_47 (pc := 23) C k9 dX7_readLaw_23 ?_
      refine g_iconst (pc := 26) C dX7_readLaw_26 (v := 0) rfl ?_
      refine miX7_153 (pc := 27) C h (Nat.le_of_ble_eq_true rfl) (Nat.le_of_ble_eq_true rfl) ⟨Nat.zero_le _, Nat.zero_le _⟩ dX7_readLaw_27 (fun r10 w11 h => ?_)
      obtain ⟨k13, h⟩ := h
      obtain ⟨k14, h⟩ := h
      obtain ⟨hb12, h⟩ := h
      refine g_newI (pc := 30) C rfl LAint k13 k14 hb12 dX7_readLaw_30 (fun r15 w16 e17 e18 => ?_)
      replace h := h r15 w16 e17 e18
      refine g_astore_n (pc := 32) C dX7_readLaw_32 (Nat.le_of_ble_eq_true rfl) (lo' := [(1, .ref (adr x r15)), (0, .ref (adr x a0))]) rfl ?_
      refine g_iconst (pc := 33) C dX7_readLaw_33 (v := 0) rfl ?_
      refine g_istore_n (pc := 34) C dX7_readLaw_34 (Nat.le_of_ble_eq_true rfl) (lo' := [(2, .int 0), (1, .ref (adr x r15)), (0, .ref (adr x a0))]) rfl ?_
      obtain ⟨n32, h⟩ := h
      refine g_sub [2, 1, 0] rfl ?_
      refine t_X7_readLaw_35 C hlk hr n32 _ _ _ _ _ _ hb12 h
    · replace h := h.1 z8
      refine g_iconst (pc := 20) C dX7_readLaw_20 (v := 0) rfl ?_
      exact g_zret (pc := 21) C hlk hr (Nat.zero_le _) (Nat.zero_le _) dX7_readLaw_21 (Or.inl rfl) h
theorem maX7_92 (C : xC x p s m c cc nL args RX7) {a0 : Nat} {K : Int32 → Wd → Prop} {D MC MS c0 s0 : Nat} (hq : isK w a0 7) (h : w_X7_readLaw c0 s0 a0 K w) (hD : 211 + 1 ≤ D) (hW : (st.map fun v => v.category).sum ≤ 8) (hr : i + c0 ≤ MC ∧ j + s0 ≤ MS) (hd : decode cc pc = .ok (.invokevirtual 92, 3)) (k : ∀ (r : Int32) (u : Wd), K r u → GW x p l e (rmd D MC MS) s m args below meth c nL Q (pc + 3) lo (.int r :: st) u (i + c0) (j + s0)) : GW x p l e (rmd D MC MS) s m args below meth c nL Q pc lo (.ref (adr x a0) :: st) w i j := g_callVi C (As := []) (ci := 7) (c_X7_readLaw h) (x_cwV C 0 LMX7_92 ⟨rfl, by decide, by decide, rfl⟩ hD (by decide)) rfl hq (by decide) rfl rfl hW hd hr k
theorem miX7_77 (C : xC x p s m c cc nL args RX7) {a0 : Nat} {K : Int32 → Wd → Prop} {D MC MS : Nat} (hq : isK w a0 7) (h : w_X7_readWell a0 K w) (hD : 9 + 1 ≤ D) (hW : (st.map fun v => v.category).sum ≤ 8) (hij : i ≤ MC ∧ j ≤ MS) (hd : decode cc pc = .ok (.invokevirtual 77, 3)) (k : ∀ (r : Int32) (u : Wd), K r u → GW x p l e (rmd D MC MS) s m args below meth c nL Q (pc + 3) lo (.int r :: st) u i j) : GW x p l e (rmd D MC MS) s m args below meth c nL Q pc lo (.ref (adr x a0) :: st) w i j := g_callVi0 C (As := []) (ci := 7) (c_X7_readWell h) (x_cwV C 0 LMX7_77 ⟨rfl, by decide, by decide, rfl⟩ hD (by decide)) rfl hq (by decide) rfl rfl hW hd hij k
theorem miX7_82 (C : xC x p s m c cc nL args RX7) {a0 : Nat} {K : Int32 → Wd → Prop} {D MC MS : Nat} (hq : isK w a0 7) (h : w_X7_readBeside a0 K w) (hD : 3 + 1 ≤ D) (hW : (st.map fun v => v.category).sum ≤ 8) (hij : i ≤ MC ∧ j ≤ MS) (hd : decode cc pc = .ok (.invokevirtual 82, 3)) (k : ∀ (r : Int32) (u : Wd), K r u → GW x p l e (rmd D MC MS) s m args below meth c nL Q (pc + 3) lo (.int r :: st) u i j) : GW x p l e (rmd D MC MS) s m args below meth c nL Q pc lo (.ref (adr x a0) :: st) w i j := g_callVi0 C (As := []) (ci := 7) (c_X7_readBeside h) (x_cwV C 0 LMX7_82 ⟨rfl, by decide, by decide, rfl⟩ hD (by decide)) rfl hq (by decide) rfl rfl hW hd hij k
theorem miX7_87 (C : xC x p s m c cc nL args RX7) {a0 : Nat} {K : Int32 → Wd → Prop} {D MC MS : Nat} (hq : isK w a0 7) (h : w_X7_readHouse a0 K w) (hD : 9 + 1 ≤ D) (hW : (st.map fun v => v.category).sum ≤ 8) (hij : i ≤ MC ∧ j ≤ MS) (hd : decode cc pc = .ok (.invokevirtual 87, 3)) (k : ∀ (r : Int32) (u : Wd), K r u → GW x p l e (rmd D MC MS) s m args below meth c nL Q (pc + 3) lo (.int r :: st) u i j) : GW x p l e (rmd D MC MS) s m args below meth c nL Q pc lo (.ref (adr x a0) :: st) w i j := g_callVi0 C (As := []) (ci := 7) (c_X7_readHouse h) (x_cwV C 0 LMX7_87 ⟨rfl, by decide, by decide, rfl⟩ hD (by decide)) rfl hq (by decide) rfl rfl hW hd hij k
theorem miX7_97 (C : xC x p s m c cc nL args RX7) {a0 : Nat} {K : Int32 → Wd → Prop} {D MC MS : Nat} (hq : isK w a0 7) (h : w_X7_readHour a0 K w) (hD : 3 + 1 ≤ D) (hW : (st.map fun v => v.category).sum ≤ 8) (hij : i ≤ MC ∧ j ≤ MS) (hd : decode cc pc = .ok (.invokevirtual 97, 3)) (k : ∀ (r : Int32) (u : Wd), K r u → GW x p l e (rmd D MC MS) s m args below meth c nL Q (pc + 3) lo (.int r :: st) u i j) : GW x p l e (rmd D MC MS) s m args below meth c nL Q pc lo (.ref (adr x a0) :: st) w i j := g_callVi0 C (As := []) (ci := 7) (c_X7_readHour h) (x_cwV C 0 LMX7_97 ⟨rfl, by decide, by decide, rfl⟩ hD (by decide)) rfl hq (by decide) rfl rfl hW hd hij k
def w_X7_readLine (mc ms : Nat) (a0 : Nat) (K : Int32 → Wd → Prop) (w : Wd) : Prop :=
  isK w a0 7 ∧ w_X7_isWord a0 3 (fun r2 w3 => ((r2 = 0 → isK w3 a0 7 ∧ w_X7_isWord a0 9 (fun r6 w7 => ((r6 = 0 → isK w7 a0 7 ∧ w_X7_isWord a0 10 (fun r10 w11 => ((r10 = 0 → isK w11 a0 7 ∧ w_X7_isWord a0 12 (fun r14 w15 => ((r14 = 0 → isK w15 a0 7 ∧ w_X7_isWord a0 19 (fun r18 w19 => ((r18 = 0 → isK w19 a0 7 ∧ w_X7_refuse a0 2 (fun r22 w23 => (r22 = 0 ∨ r22 = 1) ∧ K r22 w23) w19) ∧ (¬ r18 = 0 → isK w19 a0 7 ∧ w_X7_readHour a0 (fun r25 w26 => (r25 = 0 ∨ r25 = 1) ∧ K r25 w26) w19))) w15) ∧ (¬ r14 = 0 → isK w15 a0 7 ∧ ∃ c31 s32, (0 + c31 ≤ mc ∧ 0 + s32 ≤ ms) ∧ w_X7_readLaw c31 s32 a0 (fun r28 w29 => (r28 = 0 ∨ r28 = 1) ∧ K r28 w29) w15))) w11) ∧ (¬ r10 = 0 → isK w11 a0 7 ∧ w_X7_readHouse a0 (fun r34 w35 => (r34 = 0 ∨ r34 = 1) ∧ K r34 w35) w11))) w7) ∧ (¬ r6 = 0 → isK w7 a0 7 ∧ w_X7_readBeside a0 (fun r37 w38 => (r37 = 0 ∨ r37 = 1) ∧ K r37 w38) w7))) w3) ∧ (¬ r2 = 0 → isK w3 a0 7 ∧ w_X7_readWell a0 (fun r40 w41 => (r40 = 0 ∨ r40 = 1) ∧ K r40 w41) w3))) w
theorem c_X7_readLine {x : xG} {l : Launch} {a0 : Nat} {mc ms : Nat} {K : Int32 → Wd → Prop} {w : Wd} (h : w_X7_readLine mc ms a0 K w) : Met l yX7_readLine (xws yX7_readLine cX7_readLine 1 (some .boolean)) (rmd 212 mc ms) (xPc x [.ref (adr x a0)] w) (QcI x K) mc ms (xA x) := by
  refine xMet (by decide) (Nat.le_of_ble_eq_true rfl) (fun p e s m below meth c C hlk hr _ => ?_)
  show GW x p l e (rmd 212 mc ms) s m [.ref (adr x a0)].toArray below meth c 1 (QI x K below [.ref (adr x a0)].toArray s mc ms) 0 [(0, .ref (adr x a0))] [] w 0 0
  refine g_aload_n (pc := 0) C dX7_readLine_0 (q := 0) rfl ?_
  refine g_ldcS (pc := 1) C (q := 1) (k0 := 1) rfl (Nat.le_of_ble_eq_true rfl) dX7_readLine_1 ?_
  obtain ⟨k1, h⟩ := h
  refine miX7_73 (pc := 3) C k1 h (Nat.le_of_ble_eq_true rfl) (Nat.le_of_ble_eq_true rfl) ⟨Nat.zero_le _, Nat.zero_le _⟩ dX7_readLine_3 (fun r2 w3 h => ?_)
  refine g_if_eq (pc := 6) C dX7_readLine_6 (tgt := 14) rfl (fun z4 => ?_) (fun z4 => ?_)
  · replace h := h.1 z4
    refine g_aload_n (pc := 14) C dX7_readLine_14 (q := 0) rfl ?_
    refine g_ldcS (pc := 15) C (q := 7) (k0 := 7) rfl (Nat.le_of_ble_eq_true rfl) dX7_readLine_15 ?_
    obtain ⟨k5, h⟩ := h
    refine miX7_73 (pc := 17) C k5 h (Nat.le_of_ble_eq_true rfl) (Nat.le_of_ble_eq_true rfl) ⟨Nat.zero_le _, Nat.zero_le _⟩ dX7_readLine_17 (fun r6 w7 h => ?_)
    refine g_if_eq (pc := 20) C dX7_readLine_20 (tgt := 28) rfl (fun z8 => ?_) (fun z8 => ?_)
    · replace h := h.1 z8
      refine g_aload_n (pc := 28) C dX7_readLine_28 (q := 0) rfl ?_
      refine g_ldcS (pc := 29) C (q := 8) (k0 := 8) rfl (Nat.le_of_ble_eq_true rfl) dX7_readLine_29 ?_
      obtain ⟨k9, h⟩ := h
      refine miX7_73 (pc := 31) C k9 h (Nat.le_of_ble_eq_true rfl) (Nat.le_of_ble_eq_true rfl) ⟨Nat.zero_le _, Nat.zero_le _⟩ dX7_readLine_31 (fun r10 w11 h => ?_)
      refine g_if_eq (pc := 34) C dX7_readLine_34 (tgt := 42) rfl (fun z12 => ?_) (fun z12 => ?_)
      · replace h := h.1 z12
        refine g_aload_n (pc := 42) C dX7_readLine_42 (q := 0) rfl ?_
        refine g_ldcS (pc := 43) C (q := 10) (k0 := 10) rfl (Nat.le_of_ble_eq_true rfl) dX7_readLine_43 ?_
        obtain ⟨k13, h⟩ := h
        refine miX7_73 (pc := 45) C k13 h (Nat.le_of_ble_eq_true rfl) (Nat.le_of_ble_eq_true rfl) ⟨Nat.zero_le _, Nat.zero_le _⟩ dX7_readLine_45 (fun r14 w15 h => ?_)
        refine g_if_eq (pc := 48) C dX7_readLine_48 (tgt := 56) rfl (fun z16 => ?_) (fun z16 => ?_)
        · replace h := h.1 z16
          refine g_aload_n (pc := 56) C dX7_readLine_56 (q := 0) rfl ?_
          refine g_ldcS (pc := 57) C (q := 17) (k0 := 17) rfl (Nat.le_of_ble_eq_true rfl) dX7_readLine_57 ?_
          obtain ⟨k17, h⟩ := h
          refine miX7_73 (pc := 59) C k17 h (Nat.le_of_ble_eq_true rfl) (Nat.le_of_ble_eq_true rfl) ⟨Nat.zero_le _, Nat.zero_le _⟩ dX7_readLine_59 (fun r18 w19 h => ?_)
          refine g_if_eq (pc := 62) C dX7_readLine_62 (tgt := 70) rfl (fun z20 => ?_) (fun z20 => ?_)
          · replace h := h.1 z20
            refine g_aload_n (pc := 70) C dX7_readLine_70 (q := 0) rfl ?_
            refine g_iconst (pc := 71) C dX7_readLine_71 (v := 2) rfl ?_
            obtain ⟨k21, h⟩ := h
            refine miX7_100 (pc := 72) C k21 h (Nat.le_of_ble_eq_true rfl) (Nat.le_of_ble_eq_true rfl) ⟨Nat.zero_le _, Nat.zero_le _⟩ dX7_readLine_72 (fun r22 w23 h => ?_)
            exact g_zret (pc := 75) C hlk hr (Nat.zero_le _) (Nat.zero_le _) dX7_readLine_75 h.1 h.2
          · replace h := h.2 z20
            refine g_aload_n (pc := 65) C dX7_readLine_65 (q := 0) rfl ?_
            obtain ⟨k24, h⟩ := h
            refine miX7_97 (pc := 66) C k24 h (Nat.le_of_ble_eq_true rfl) (Nat.le_of_ble_eq_true rfl) ⟨Nat.zero_le _, Nat.zero_le _⟩ dX7_readLine_66 (fun r25 w26 h => ?_)
            exact g_zret (pc := 69) C hlk hr (Nat.zero_le _) (Nat.zero_le _) dX7_readLine_69 h.1 h.2
        · replace h := h.2 z16
          refine g_aload_n (pc := 51) C dX7_readLine_51 (q := 0) rfl ?_
          obtain ⟨k27, h⟩ := h
          obtain ⟨c31, s32, hb30, h⟩ := h
          refine maX7_92 (pc := 52) C k27 h (Nat.le_of_ble_eq_true rfl) (Nat.le_of_ble_eq_true rfl) hb30 dX7_readLine_52 (fun r28 w29 h => ?_)
          exact g_zret (pc := 55) C hlk hr hb30.1 hb30.2 dX7_readLine_55 h.1 h.2
      · replace h := h.2 z12
        refine g_aload_n (pc := 37) C dX7_readLine_37 (q := 0) rfl ?_
        obtain ⟨k33, h⟩ := h
        refine miX7_87 (pc := 38) C k33 h (Nat.le_of_ble_eq_true rfl) (Nat.le_of_ble_eq_true rfl) ⟨Nat.zero_le _, Nat.zero_le _⟩ dX7_readLine_38 (fun r34 w35 h => ?_)
        exact g_zret (pc := 41) C hlk hr (Nat.zero_le _) (Nat.zero_le _) dX7_readLine_41 h.1 h.2
    · replace h := h.2 z8
      refine g_aload_n (pc := 23) C dX7_readLine_23 (q := 0) rfl ?_
      obtain ⟨k36, h⟩ := h
      refine miX7_82 (pc := 24) C k36 h (Nat.le_of_ble_eq_true rfl) (Nat.le_of_ble_eq_true rfl) ⟨Nat.zero_le _, Nat.zero_le _⟩ dX7_readLine_24 (fun r37 w38 h => ?_)
      exact g_zret (pc := 27) C hlk hr (Nat.zero_le _) (Nat.zero_le _) dX7_readLine_27 h.1 h.2
  · replace h := h.2 z4
    refine g_aload_n (pc := 9) C dX7_readLine_9 (q := 0) rfl ?_
    obtain ⟨k39, h⟩ := h
    refine miX7_77 (pc := 10) C k39 h (Nat.le_of_ble_eq_true rfl) (Nat.le_of_ble_eq_true rfl) ⟨Nat.zero_le _, Nat.zero_le _⟩ dX7_readLine_10 (fun r40 w41 h => ?_)
    exact g_zret (pc := 13) C hlk hr (Nat.zero_le _) (Nat.zero_le _) dX7_readLine_13 h.1 h.2
theorem maX7_56 (C : xC x p s m c cc nL args RX7) {a0 : Nat} {K : Wd → Prop} {D MC MS c0 s0 : Nat} (h : w_X1_init c0 s0 a0 K w) (hD : 1 + 1 ≤ D) (hW : (st.map fun v => v.category).sum ≤ 8) (hr : i + c0 ≤ MC ∧ j + s0 ≤ MS) (hd : decode cc pc = .ok (.invokespecial 56, 3)) (k : ∀ (u : Wd), K u → GW x p l e (rmd D MC MS) s m args below meth c nL Q (pc + 3) lo st u (i + c0) (j + s0)) : GW x p l e (rmd D MC MS) s m args below meth c nL Q pc lo (.ref (adr x a0) :: st) w i j := g_callIN C (As := []) (c_X1_init h) (x_cwIN C 0 LKX1_init LNX7_56 LTX1_init LIX1 rfl ⟨by decide, by decide, rfl⟩ hD (by decide)) rfl rfl hW hd hr k
theorem maX7_61 (C : xC x p s m c cc nL args RX7) {a0 : Nat} {K : Int32 → Wd → Prop} {D MC MS c0 s0 : Nat} (hq : isK w a0 7) (h : w_X7_readLine c0 s0 a0 K w) (hD : 212 + 1 ≤ D) (hW : (st.map fun v => v.category).sum ≤ 8) (hr : i + c0 ≤ MC ∧ j + s0 ≤ MS) (hd : decode cc pc = .ok (.invokevirtual 61, 3)) (k : ∀ (r : Int32) (u : Wd), K r u → GW x p l e (rmd D MC MS) s m args below meth c nL Q (pc + 3) lo (.int r :: st) u (i + c0) (j + s0)) : GW x p l e (rmd D MC MS) s m args below meth c nL Q pc lo (.ref (adr x a0) :: st) w i j := g_callVi C (As := []) (ci := 7) (c_X7_readLine h) (x_cwV C 0 LMX7_61 ⟨rfl, by decide, by decide, rfl⟩ hD (by decide)) rfl hq (by decide) rfl rfl hW hd hr k
theorem nwX7_54 (C : xC x p s m c cc nL args RX7) (hb : i + 1 ≤ R.cells ∧ j + 13 ≤ R.slots) (hd : decode cc pc = .ok (.new 54, 3)) (k : ∀ (r : Nat) (u : Wd), r = wN w → u = wA w 1 0 → GW x p l e R s m args below meth c nL Q (pc + 3) lo (.ref (adr x r) :: st) u (i + 1) (j + 13)) : GW x p l e R s m args below meth c nL Q pc lo st w i j := g_new C tyX1 (ci := 1) rfl (by decide) inX1 tyX1_ok LCLX7_54 LINX1 LIX1 rfl (by decide) hb hd k
def l_X7_readText_47 (mc ms : Nat)  (K : Int32 → Wd → Prop) : Nat → Nat → Int32 → Nat → Nat → Wd → Prop
  | 0, _, _, _, _, _ => False
  | n + 1, a0, a2, i0, j0, w => ((900 ≤ a2 → K 1 w) ∧ (¬ 900 ≤ a2 → isK w a0 7 ∧ (((wI w a0 8) = 4 → K 1 w) ∧ (¬ (wI w a0 8) = 4 → ∃ c20 s21, (i0 + c20 ≤ mc ∧ j0 + s21 ≤ ms) ∧ w_X7_readLine c20 s21 a0 (fun r17 w18 => ((r17 = 0 → K 0 w18) ∧ (¬ r17 = 0 → isK w18 a0 7 ∧ w_X7_expectSign a0 59 (fun r24 w25 => ((r24 = 0 → K 0 w25) ∧ (¬ r24 = 0 → isK w25 a0 7 ∧ isK w25 (wR w25 a0 3) 1 ∧ l_X7_readText_47 mc ms K n a0 (a2 + 1) (i0 + c20) (j0 + s21) (uI w25 (wR w25 a0 3) 0 ((wI w25 (wR w25 a0 3) 0) + 1))))) w18))) w))))
def w_X7_readText (mc ms : Nat) (a0 : Nat) (a1 : Int32) (K : Int32 → Wd → Prop) (w : Wd) : Prop :=
  isK w a0 7 ∧ (1 ≤ mc ∧ 13 ≤ ms) ∧ ∀ r3 w4, r3 = wN (uI (uI (uI (uI (uI w a0 0 0) a0 5 a1) a0 7 0) a0 1 0) a0 2 (-1)) → w4 = wA (uI (uI (uI (uI (uI w a0 0 0) a0 5 a1) a0 7 0) a0 1 0) a0 2 (-1)) 1 0 → (9 ≤ mc ∧ 85 ≤ ms) ∧ w_X1_init 8 72 r3 (fun w7 => isK w7 a0 7 ∧ r3 ≠ 0 ∧ w_X7_advance a0 (fun r11 w12 => ((r11 = 0 → K 0 w12) ∧ (¬ r11 = 0 → ∃ n29, l_X7_readText_47 mc ms  K n29 a0 0 9 85 w12))) (uR w7 a0 3 r3)) w4
theorem t_X7_readText_47 (C : xC x p s m c cX7_readText 3 args RX7) (hlk : meth.locks = false) (hr : meth.sig.returnType = some .boolean) {mc ms : Nat} {K : Int32 → Wd → Prop}   : ∀ (n : Nat) (a0 : Nat) (a2 : Int32) (i0 j0 : Nat) (w : Wd), i0 ≤ mc ∧ j0 ≤ ms → l_X7_readText_47 mc ms K n a0 a2 i0 j0 w → GW x p l e (rmd 213 mc ms) s m args below meth c 3 (QI x K below args s mc ms) 47 [(0, .ref (adr x a0)), (2, .int a2)] [] w i0 j0 := by
  intro n
  induction n with
  | zero => intro _ _ _ _ _ _ h; exact False.elim h
  | succ n ih =>
    intro a0 a2 i0 j0 w hb h
    refine g_iload_n (pc := 47) C dX7_readText_47 (q := 1) rfl ?_
    refine g_sipush (pc := 48) C dX7_readText_48 (v := 900) rfl ?_
    refine g_icmp_ge (pc := 51) C dX7_readText_51 (tgt := 99) rfl (fun z14 => ?_) (fun z14 => ?_)
    · replace h := h.1 z14
      refine g_iconst (pc := 99) C dX7_readText_99 (v := 1) rfl ?_
      exact g_zret (pc := 100) C hlk hr hb.1 hb.2 dX7_readText_100 (Or.inr rfl) h
    · replace h := h.2 z14
      refine g_aload_n (pc := 54) C dX7_readText_54 (q := 0) rfl ?_
      obtain ⟨k15, h⟩ := h
      refine gfX7_34 (pc := 55) C k15 dX7_readText_55 ?_
      refine g_iconst (pc := 58) C dX7_readText_58 (v := 4) rfl ?_
      refine g_icmp_eq (pc := 59) C dX7_readText_59 (tgt := 99) rfl (fun z16 => ?_) (fun z16 => ?_)
      · replace h := h.1 z16
        refine g_iconst (pc := 99) C dX7_readText_99 (v := 1) rfl ?_
        exact g_zret (pc := 100) C hlk hr hb.1 hb.2 dX7_readText_100 (Or.inr rfl) h
      · replace h := h.2 z16
        refine g_aload_n (pc := 62) C dX7_readText_62 (q := 0) rfl ?_
        obtain ⟨c20, s21, hb19, h⟩ := h
        refine maX7_61 (pc := 63) C k15 h (Nat.le_of_ble_eq_true rfl) (Nat.le_of_ble_eq_true rfl) hb19 dX7_readText_63 (fun r17 w18 h => ?_)
        refine g_if_eq (pc := 66) C dX7_readText_66 (tgt := 78) rfl (fun z22 => ?_) (fun z22 => ?_)
        · replace h := h.1 z22
          refine g_iconst (pc := 78) C dX7_readText_78 (v := 0) rfl ?_
          exact g_zret (pc := 79) C hlk hr hb19.1 hb19.2 dX7_readText_79 (Or.inl rfl) h
        · replace h := h.2 z22
          refine g_aload_n (pc := 69) C dX7_readText_69 (q := 0) rfl ?_
          refine g_bipush (pc := 70) C dX7_readText_70 (v := 59) rfl ?_
          obtain ⟨k23, h⟩ := h
          refine miX7_64 (pc := 72) C k23 h (Nat.le_of_ble_eq_true rfl) (Nat.le_of_ble_eq_true rfl) hb19 dX7_readText_72 (fun r24 w25 h => ?_)
          refine g_if_ne (pc := 75) C dX7_readText_75 (tgt := 80) rfl (fun z26 => ?_) (fun z26 => ?_)
          · replace h := h.2 z26
            refine g_aload_n (pc := 80) C dX7_readText_80 (q := 0) rfl ?_
            obtain ⟨k27, h⟩ := h
            obtain ⟨k28, h⟩ := h
            refine gfX7_50 (pc := 81) C k27 (isK_ne k28) dX7_readText_81 ?_
            refine g_dup (pc := 84) C dX7_readText_84 rfl ?_
            refine gfX7_68 (pc := 85) C k28 dX7_readText_85 ?_
            refine g_iconst (pc := 88) C dX7_readText_88 (v := 1) rfl ?_
            refine g_iadd (pc := 89) C dX7_readText_89 ?_
            refine pfX7_68 (pc := 90) C k28 dX7_readText_90 ?_
            refine g_iinc (pc := 93) C dX7_readText_93 (q := 1) rfl (v2 := a2 + 1) rfl (Nat.le_of_ble_eq_true rfl) (lo' := [(2, .int (a2 + 1)), (0, .ref (adr x a0))]) rfl ?_
            refine g_goto (pc := 96) C dX7_readText_96 (tgt := 47) rfl ?_
            refine g_sub [1, 0] rfl ?_
            exact ih _ _ _ _ _ hb19 h
          · replace h := h.1 z26
            refine g_iconst (pc := 78) C dX7_readText_78 (v := 0) rfl ?_
            exact g_zret (pc := 79) C hlk hr hb19.1 hb19.2 dX7_readText_79 (Or.inl rfl) h
theorem c_X7_readText {x : xG} {l : Launch} {a0 : Nat} {a1 : Int32} {mc ms : Nat} {K : Int32 → Wd → Prop} {w : Wd} (h : w_X7_readText mc ms a0 a1 K w) : Met l yX7_readText (xws yX7_readText cX7_readText 3 (some .boolean)) (rmd 213 mc ms) (xPc x [.ref (adr x a0), .int a1] w) (QcI x K) mc ms (xA x) := by
  refine xMet (by decide) (Nat.le_of_ble_eq_true rfl) (fun p e s m below meth c C hlk hr _ => ?_)
  show GW x p l e (rmd 213 mc ms) s m [.ref (adr x a0), .int a1].toArray below meth c 3 (QI x K below [.ref (adr x a0), .int a1].toArray s mc ms) 0 [(0, .ref (adr x a0)), (1, .int a1)] [] w 0 0
  refine g_aload_n (pc := 0) C dX7_readText_0 (q := 0) rfl ?_
  refine g_iconst (pc := 1) C dX7_readText_1 (v := 0) rfl ?_
  obtain ⟨k1, h⟩ := h
  refine pfX7_9 (pc := 2) C k1 dX7_readText_2 ?_
  refine g_aload_n (pc := 5) C dX7_readText_5 (q := 0) rfl ?_
  refine g_iload_n (pc := 6) C dX7_readText_6 (q := 1) rfl ?_
  refine pfX7_25 (pc := 7) (w := uI w a0 0 0) C k1 dX7_readText_7 ?_
  refine g_aload_n (pc := 10) C dX7_readText_10 (q := 0) rfl ?_
  refine g_iconst (pc := 11) C dX7_readText_11 (v := 0) rfl ?_
  refine pfX7_31 (pc := 12) (w := uI (uI w a0 0 0) a0 5 a1) C k1 dX7_readText_12 ?_
  refine g_aload_n (pc := 15) C dX7_readText_15 (q := 0) rfl ?_
  refine g_iconst (pc := 16) C dX7_readText_16 (v := 0) rfl ?_
  refine pfX7_15 (pc := 17) (w := uI (uI (uI w a0 0 0) a0 5 a1) a0 7 0) C k1 dX7_readText_17 ?_
  refine g_aload_n (pc := 20) C dX7_readText_20 (q := 0) rfl ?_
  refine g_iconst (pc := 21) C dX7_readText_21 (v := (-1)) rfl ?_
  refine pfX7_18 (pc := 22) (w := uI (uI (uI (uI w a0 0 0) a0 5 a1) a0 7 0) a0 1 0) C k1 dX7_readText_22 ?_
  refine g_aload_n (pc := 25) C dX7_readText_25 (q := 0) rfl ?_
  obtain ⟨hb2, h⟩ := h
  refine nwX7_54 (pc := 26) (w := uI (uI (uI (uI (uI w a0 0 0) a0 5 a1) a0 7 0) a0 1 0) a0 2 (-1)) C hb2 dX7_readText_26 (fun r3 w4 e5 e6 => ?_)
  replace h := h r3 w4 e5 e6
  refine g_dup (pc := 29) C dX7_readText_29 rfl ?_
  obtain ⟨hb8, h⟩ := h
  refine maX7_56 (pc := 30) C h (Nat.le_of_ble_eq_true rfl) (Nat.le_of_ble_eq_true rfl) hb8 dX7_readText_30 (fun w7 h => ?_)
  obtain ⟨k9, h⟩ := h
  obtain ⟨k10, h⟩ := h
  refine pfX7_50 (pc := 33) C k9 k10 dX7_readText_33 ?_
  refine g_aload_n (pc := 36) C dX7_readText_36 (q := 0) rfl ?_
  refine miX7_57 (pc := 37) (w := uR w7 a0 3 r3) C k9 h (Nat.le_of_ble_eq_true rfl) (Nat.le_of_ble_eq_true rfl) hb8 dX7_readText_37 (fun r11 w12 h => ?_)
  refine g_if_ne (pc := 40) C dX7_readText_40 (tgt := 45) rfl (fun z13 => ?_) (fun z13 => ?_)
  · replace h := h.2 z13
    refine g_iconst (pc := 45) C dX7_readText_45 (v := 0) rfl ?_
    refine g_istore_n (pc := 46) C dX7_readText_46 (Nat.le_of_ble_eq_true rfl) (lo' := [(2, .int 0), (0, .ref (adr x a0)), (1, .int a1)]) rfl ?_
    obtain ⟨n29, h⟩ := h
    refine g_sub [1, 0] rfl ?_
    refine t_X7_readText_47 C hlk hr n29 _ _ _ _ _ hb8 h
  · replace h := h.1 z13
    refine g_iconst (pc := 43) C dX7_readText_43 (v := 0) rfl ?_
    exact g_zret (pc := 44) C hlk hr hb8.1 hb8.2 dX7_readText_44 (Or.inl rfl) h
def w_X11_anyImage (mc ms : Nat) (a0 : Nat) (a1 : Int32) (K : Nat → Wd → Prop) (X : String → Wd → Prop) (w : Wd) : Prop :=
  ((a1 < 0 → (1 ≤ mc ∧ 6 ≤ ms) ∧ ∀ N3, wN w ≤ N3 → X "java/util/NoSuchElementException" (wJ w N3)) ∧ (¬ a1 < 0 → isK w a0 11 ∧ isK w (wR w a0 1) 25 ∧ ((a1 < (Int32.ofNat (wn w (wR w a0 1))) → vp_in a1 (wn w (wR w a0 1)) ∧ isK w (wR w (wR w a0 1) a1.toNatClampNeg) 5 ∧ K (wR w (wR w a0 1) a1.toNatClampNeg) w) ∧ (¬ a1 < (Int32.ofNat (wn w (wR w a0 1))) → (1 ≤ mc ∧ 6 ≤ ms) ∧ ∀ N10, wN w ≤ N10 → X "java/util/NoSuchElementException" (wJ w N10)))))
theorem c_X11_anyImage {x : xG} {l : Launch} (hl : l.stackTraces = false) {a0 : Nat} {a1 : Int32} {mc ms : Nat} {X : String → Wd → Prop} {K : Nat → Wd → Prop} {w : Wd} (h : w_X11_anyImage mc ms a0 a1 K X w) : vx_Met l yX11_anyImage (xws yX11_anyImage cX11_anyImage 2 (some (.object "SnoringWells$Page"))) (rmd 6 mc ms) (xPc x [.ref (adr x a0), .int a1] w) (QcR x K) (XCx x X) mc ms (xA x) := by
  refine xMetX (by decide) (Nat.le_of_ble_eq_true rfl) (fun p e s m below meth c C hlk hr htab => ?_)
  show GW x p l e (rmd 6 mc ms) s m [.ref (adr x a0), .int a1].toArray below meth c 2 (vx_MQ below (QcR x K) (XCx x X) [.ref (adr x a0), .int a1].toArray s mc ms (xA x)) 0 [(0, .ref (adr x a0)), (1, .int a1)] [] w 0 0
  refine g_iload_n (pc := 0) C dX11_anyImage_0 (q := 1) rfl ?_
  refine g_if_lt (pc := 1) C dX11_anyImage_1 (tgt := 13) rfl (fun z1 => ?_) (fun z1 => ?_)
  · replace h := h.1 z1
    obtain ⟨hb2, h⟩ := h
    exact thr_NoSuchElementException (pc := 13) C hl htab hlk (q := 31) (k0 := 31) rfl dX11_anyImage_13 dX11_anyImage_16 (⟨dX11_anyImage_17, dX11_anyImage_20, dX11_anyImage_23⟩) (Nat.le_of_ble_eq_true rfl) (Nat.le_of_ble_eq_true rfl) hb2 h
  · replace h := h.2 z1
    refine g_iload_n (pc := 4) C dX11_anyImage_4 (q := 1) rfl ?_
    refine g_aload_n (pc := 5) C dX11_anyImage_5 (q := 0) rfl ?_
    obtain ⟨k4, h⟩ := h
    obtain ⟨k5, h⟩ := h
    refine gfX11_11 (pc := 6) C k4 (isK_ne k5) dX11_anyImage_6 ?_
    refine g_alen (pc := 9) C k5 (by decide) dX11_anyImage_9 ?_
    refine g_icmp_lt (pc := 10) C dX11_anyImage_10 (tgt := 24) rfl (fun z6 => ?_) (fun z6 => ?_)
    · replace h := h.1 z6
      refine g_aload_n (pc := 24) C dX11_anyImage_24 (q := 0) rfl ?_
      refine gfX11_11 (pc := 25) C k4 (isK_ne k5) dX11_anyImage_25 ?_
      refine g_iload_n (pc := 28) C dX11_anyImage_28 (q := 1) rfl ?_
      obtain ⟨k7, h⟩ := h
      obtain ⟨k8, h⟩ := h
      refine g_aald (pc := 29) C (t := 5) k5 (Nat.le_of_ble_eq_true rfl) (Nat.le_of_ble_eq_true rfl) rfl k7 (isK_ne k8) dX11_anyImage_29 ?_
      refine gx_ret ?_; exact g_rret (pc := 30) C hlk hr (Or.inl ⟨_, rfl⟩) (Nat.zero_le _) (Nat.zero_le _) dX11_anyImage_30 h
    · replace h := h.2 z6
      obtain ⟨hb9, h⟩ := h
      exact thr_NoSuchElementException (pc := 13) C hl htab hlk (q := 31) (k0 := 31) rfl dX11_anyImage_13 dX11_anyImage_16 (⟨dX11_anyImage_17, dX11_anyImage_20, dX11_anyImage_23⟩) (Nat.le_of_ble_eq_true rfl) (Nat.le_of_ble_eq_true rfl) hb9 h
def w_X11_anyTray (mc ms : Nat) (a0 : Nat) (a1 : Int32) (K : Nat → Wd → Prop) (X : String → Wd → Prop) (w : Wd) : Prop :=
  ((a1 < 0 → (1 ≤ mc ∧ 6 ≤ ms) ∧ ∀ N3, wN w ≤ N3 → X "java/util/NoSuchElementException" (wJ w N3)) ∧ (¬ a1 < 0 → isK w a0 11 ∧ isK w (wR w a0 2) 26 ∧ ((a1 < (Int32.ofNat (wn w (wR w a0 2))) → vp_in a1 (wn w (wR w a0 2)) ∧ isK w (wR w (wR w a0 2) a1.toNatClampNeg) 10 ∧ K (wR w (wR w a0 2) a1.toNatClampNeg) w) ∧ (¬ a1 < (Int32.ofNat (wn w (wR w a0 2))) → (1 ≤ mc ∧ 6 ≤ ms) ∧ ∀ N10, wN w ≤ N10 → X "java/util/NoSuchElementException" (wJ w N10)))))
theorem c_X11_anyTray {x : xG} {l : Launch} (hl : l.stackTraces = false) {a0 : Nat} {a1 : Int32} {mc ms : Nat} {X : String → Wd → Prop} {K : Nat → Wd → Prop} {w : Wd} (h : w_X11_anyTray mc ms a0 a1 K X w) : vx_Met l yX11_anyTray (xws yX11_anyTray cX11_anyTray 2 (some (.object "SnoringWells$Tray"))) (rmd 6 mc ms) (xPc x [.ref (adr x a0), .int a1] w) (QcR x K) (XCx x X) mc ms (xA x) := by
  refine xMetX (by decide) (Nat.le_of_ble_eq_true rfl) (fun p e s m below meth c C hlk hr htab => ?_)
  show GW x p l e (rmd 6 mc ms) s m [.ref (adr x a0), .int a1].toArray below meth c 2 (vx_MQ below (QcR x K) (XCx x X) [.ref (adr x a0), .int a1].toArray s mc ms (xA x)) 0 [(0, .ref (adr x a0)), (1, .int a1)] [] w 0 0
  refine g_iload_n (pc := 0) C dX11_anyTray_0 (q := 1) rfl ?_
  refine g_if_lt (pc := 1) C dX11_anyTray_1 (tgt := 13) rfl (fun z1 => ?_) (fun z1 => ?_)
  · replace h := h.1 z1
    obtain ⟨hb2, h⟩ := h
    exact thr_NoSuchElementException (pc := 13) C hl htab hlk (q := 24) (k0 := 24) rfl dX11_anyTray_13 dX11_anyTray_16 (⟨dX11_anyTray_17, dX11_anyTray_20, dX11_anyTray_23⟩) (Nat.le_of_ble_eq_true rfl) (Nat.le_of_ble_eq_true rfl) hb2 h
  · replace h := h.2 z1
    refine g_iload_n (pc := 4) C dX11_anyTray_4 (q := 1) rfl ?_
    refine g_aload_n (pc := 5) C dX11_anyTray_5 (q := 0) rfl ?_
    obtain ⟨k4, h⟩ := h
    obtain ⟨k5, h⟩ := h
    refine gfX11_17 (pc := 6) C k4 (isK_ne k5) dX11_anyTray_6 ?_
    refine g_alen (pc := 9) C k5 (by decide) dX11_anyTray_9 ?_
    refine g_icmp_lt (pc := 10) C dX11_anyTray_10 (tgt := 24) rfl (fun z6 => ?_) (fun z6 => ?_)
    · replace h := h.1 z6
      refine g_aload_n (pc := 24) C dX11_anyTray_24 (q := 0) rfl ?_
      refine gfX11_17 (pc := 25) C k4 (isK_ne k5) dX11_anyTray_25 ?_
      refine g_iload_n (pc := 28) C dX11_anyTray_28 (q := 1) rfl ?_
      obtain ⟨k7, h⟩ := h
      obtain ⟨k8, h⟩ := h
      refine g_aald (pc := 29) C (t := 6) k5 (Nat.le_of_ble_eq_true rfl) (Nat.le_of_ble_eq_true rfl) rfl k7 (isK_ne k8) dX11_anyTray_29 ?_
      refine gx_ret ?_; exact g_rret (pc := 30) C hlk hr (Or.inl ⟨_, rfl⟩) (Nat.zero_le _) (Nat.zero_le _) dX11_anyTray_30 h
    · replace h := h.2 z6
      obtain ⟨hb9, h⟩ := h
      exact thr_NoSuchElementException (pc := 13) C hl htab hlk (q := 24) (k0 := 24) rfl dX11_anyTray_13 dX11_anyTray_16 (⟨dX11_anyTray_17, dX11_anyTray_20, dX11_anyTray_23⟩) (Nat.le_of_ble_eq_true rfl) (Nat.le_of_ble_eq_true rfl) hb9 h
def w_X11_needWithin (mc ms : Nat) (a0 : Int32) (a1 : Int32) (a2 : Int32) (K : Wd → Prop) (X : String → Wd → Prop) (w : Wd) : Prop :=
  ((a0 < a1 → (1 ≤ mc ∧ 6 ≤ ms) ∧ ∀ N3, wN w ≤ N3 → X "java/lang/IllegalArgumentException" (wJ w N3)) ∧ (¬ a0 < a1 → ((a0 ≤ a2 → K w) ∧ (¬ a0 ≤ a2 → (1 ≤ mc ∧ 6 ≤ ms) ∧ ∀ N6, wN w ≤ N6 → X "java/lang/IllegalArgumentException" (wJ w N6)))))
theorem c_X11_needWithin {x : xG} {l : Launch} (hl : l.stackTraces = false) {a0 : Int32} {a1 : Int32} {a2 : Int32} {mc ms : Nat} {X : String → Wd → Prop} {K : Wd → Prop} {w : Wd} (h : w_X11_needWithin mc ms a0 a1 a2 K X w) : vx_Met l yX11_needWithin (xws yX11_needWithin cX11_needWithin 3 none) (rmd 6 mc ms) (xPc x [.int a0, .int a1, .int a2] w) (QcV x K) (XCx x X) mc ms (xA x) := by
  refine xMetX (by decide) (Nat.le_of_ble_eq_true rfl) (fun p e s m below meth c C hlk hr htab => ?_)
  show GW x p l e (rmd 6 mc ms) s m [.int a0, .int a1, .int a2].toArray below meth c 3 (vx_MQ below (QcV x K) (XCx x X) [.int a0, .int a1, .int a2].toArray s mc ms (xA x)) 0 [(0, .int a0), (1, .int a1), (2, .int a2)] [] w 0 0
  refine g_iload_n (pc := 0) C dX11_needWithin_0 (q := 0) rfl ?_
  refine g_iload_n (pc := 1) C dX11_needWithin_1 (q := 1) rfl ?_
  refine g_icmp_lt (pc := 2) C dX11_needWithin_2 (tgt := 10) rfl (fun z1 => ?_) (fun z1 => ?_)
  · replace h := h.1 z1
    obtain ⟨hb2, h⟩ := h
    exact thr_IllegalArgumentException (pc := 10) C hl htab hlk (q := 0) (k0 := 0) rfl dX11_needWithin_10 dX11_needWithin_13 (Or.inr ⟨dX11_needWithin_14, dX11_needWithin_17, dX11_needWithin_20⟩) (Nat.le_of_ble_eq_true rfl) (Nat.le_of_ble_eq_true rfl) hb2 h
  · replace h := h.2 z1
    refine g_iload_n (pc := 5) C dX11_needWithin_5 (q := 0) rfl ?_
    refine g_iload_n (pc := 6) C dX11_needWithin_6 (q := 2) rfl ?_
    refine g_icmp_le (pc := 7) C dX11_needWithin_7 (tgt := 21) rfl (fun z4 => ?_) (fun z4 => ?_)
    · replace h := h.1 z4
      refine gx_ret ?_; exact g_vret (pc := 21) C hlk hr (Nat.zero_le _) (Nat.zero_le _) dX11_needWithin_21 h
    · replace h := h.2 z4
      obtain ⟨hb5, h⟩ := h
      exact thr_IllegalArgumentException (pc := 10) C hl htab hlk (q := 0) (k0 := 0) rfl dX11_needWithin_10 dX11_needWithin_13 (Or.inr ⟨dX11_needWithin_14, dX11_needWithin_17, dX11_needWithin_20⟩) (Nat.le_of_ble_eq_true rfl) (Nat.le_of_ble_eq_true rfl) hb5 h
theorem mxX11_95 (C : xC x p s m c cc nL args RX11) {a0 : Int32} {a1 : Int32} {a2 : Int32} {K : Wd → Prop} {D MC MS c0 s0 : Nat} {Qc : Array Value → State → Outcome → State → Prop} {X : String → Wd → Prop} (hl : l.stackTraces = false) (htab : ∀ z ∈ c.exceptionTable.toList, False) (hlk : meth.locks = false) (h : w_X11_needWithin c0 s0 a0 a1 a2 K X w) (hD : 6 + 1 ≤ D) (hW : (st.map fun v => v.category).sum ≤ 8) (hr : i + c0 ≤ MC ∧ j + s0 ≤ MS) (hd : decode cc pc = .ok (.invokestatic 95, 3)) (k : ∀ (u : Wd), K u → GW x p l e (rmd D MC MS) s m args below meth c nL (vx_MQ below Qc (XCx x X) args s MC MS (xA x)) (pc + 3) lo st u (i + c0) (j + s0)) : GW x p l e (rmd D MC MS) s m args below meth c nL (vx_MQ below Qc (XCx x X) args s MC MS (xA x)) pc lo (.int a2 :: .int a1 :: .int a0 :: st) w i j := gx_callSv C (As := [.int a0, .int a1, .int a2]) htab hlk (c_X11_needWithin hl h) (x_cwS C 3 LMX11_95 ⟨by decide, by decide, rfl⟩ hD (by decide)) rfl rfl hW hd hr k
def w_X11_needNoise (mc ms : Nat) (a0 : Int32) (K : Wd → Prop) (X : String → Wd → Prop) (w : Wd) : Prop :=
  (1 ≤ mc ∧ 6 ≤ ms) ∧ w_X11_needWithin 1 6 a0 0 99 (fun w1 => K w1) X w
theorem c_X11_needNoise {x : xG} {l : Launch} (hl : l.stackTraces = false) {a0 : Int32} {mc ms : Nat} {X : String → Wd → Prop} {K : Wd → Prop} {w : Wd} (h : w_X11_needNoise mc ms a0 K X w) : vx_Met l yX11_needNoise (xws yX11_needNoise cX11_needNoise 1 none) (rmd 7 mc ms) (xPc x [.int a0] w) (QcV x K) (XCx x X) mc ms (xA x) := by
  refine xMetX (by decide) (Nat.le_of_ble_eq_true rfl) (fun p e s m below meth c C hlk hr htab => ?_)
  show GW x p l e (rmd 7 mc ms) s m [.int a0].toArray below meth c 1 (vx_MQ below (QcV x K) (XCx x X) [.int a0].toArray s mc ms (xA x)) 0 [(0, .int a0)] [] w 0 0
  refine g_iload_n (pc := 0) C dX11_needNoise_0 (q := 0) rfl ?_
  refine g_iconst (pc := 1) C dX11_needNoise_1 (v := 0) rfl ?_
  refine g_bipush (pc := 2) C dX11_needNoise_2 (v := 99) rfl ?_
  obtain ⟨hb2, h⟩ := h
  refine mxX11_95 (pc := 4) C hl htab hlk h (Nat.le_of_ble_eq_true rfl) (Nat.le_of_ble_eq_true rfl) hb2 dX11_needNoise_4 (fun w1 h => ?_)
  refine gx_ret ?_; exact g_vret (pc := 7) C hlk hr hb2.1 hb2.2 dX11_needNoise_7 h
theorem miX11_415 (C : xC x p s m c cc nL args RX11) {a0 : Nat} {a1 : Int32} {K : Int32 → Wd → Prop} {D MC MS : Nat} (hq : isK w a0 1) (h : w_X1_hasWell a0 a1 K w) (hD : 0 + 1 ≤ D) (hW : (st.map fun v => v.category).sum ≤ 8) (hij : i ≤ MC ∧ j ≤ MS) (hd : decode cc pc = .ok (.invokevirtual 415, 3)) (k : ∀ (r : Int32) (u : Wd), K r u → GW x p l e (rmd D MC MS) s m args below meth c nL Q (pc + 3) lo (.int r :: st) u i j) : GW x p l e (rmd D MC MS) s m args below meth c nL Q pc lo (.int a1 :: .ref (adr x a0) :: st) w i j := g_callVi0 C (As := [.int a1]) (ci := 1) (c_X1_hasWell h) (x_cwV C 1 LMX11_415 ⟨rfl, by decide, by decide, rfl⟩ hD (by decide)) rfl hq (by decide) rfl rfl hW hd hij k
def w_X11_needWell (mc ms : Nat) (a0 : Nat) (a1 : Int32) (K : Wd → Prop) (X : String → Wd → Prop) (w : Wd) : Prop :=
  isK w a0 11 ∧ isK w (wR w a0 0) 5 ∧ isK w (wR w (wR w a0 0) 0) 2 ∧ isK w (wR w (wR w (wR w a0 0) 0) 0) 1 ∧ w_X1_hasWell (wR w (wR w (wR w a0 0) 0) 0) a1 (fun r5 w6 => ((r5 = 0 → (1 ≤ mc ∧ 6 ≤ ms) ∧ ∀ N9, wN w6 ≤ N9 → X "java/util/NoSuchElementException" (wJ w6 N9)) ∧ (¬ r5 = 0 → K w6))) w
theorem c_X11_needWell {x : xG} {l : Launch} (hl : l.stackTraces = false) {a0 : Nat} {a1 : Int32} {mc ms : Nat} {X : String → Wd → Prop} {K : Wd → Prop} {w : Wd} (h : w_X11_needWell mc ms a0 a1 K X w) : vx_Met l yX11_needWell (xws yX11_needWell cX11_needWell 2 none) (rmd 6 mc ms) (xPc x [.ref (adr x a0), .int a1] w) (QcV x K) (XCx x X) mc ms (xA x) := by
  refine xMetX (by decide) (Nat.le_of_ble_eq_true rfl) (fun p e s m below meth c C hlk hr htab => ?_)
  show GW x p l e (rmd 6 mc ms) s m [.ref (adr x a0), .int a1].toArray below meth c 2 (vx_MQ below (QcV x K) (XCx x X) [.ref (adr x a0), .int a1].toArray s mc ms (xA x)) 0 [(0, .ref (adr x a0)), (1, .int a1)] [] w 0 0
  refine g_aload_n (pc := 0) C dX11_needWell_0 (q := 0) rfl ?_
  obtain ⟨k1, h⟩ := h
  obtain ⟨k2, h⟩ := h
  refine gfX11_49 (pc := 1) C k1 (isK_ne k2) dX11_needWell_1 ?_
  obtain ⟨k3, h⟩ := h
  refine gfX11_122 (pc := 4) C k2 (isK_ne k3) dX11_needWell_4 ?_
  obtain ⟨k4, h⟩ := h
  refine gfX11_125 (pc := 7) C k3 (isK_ne k4) dX11_needWell_7 ?_
  refine g_iload_n (pc := 10) C dX11_needWell_10 (q := 1) rfl ?_
  refine miX11_415 (pc := 11) C k4 h (Nat.le_of_ble_eq_true rfl) (Nat.le_of_ble_eq_true rfl) ⟨Nat.zero_le _, Nat.zero_le _⟩ dX11_needWell_11 (fun r5 w6 h => ?_)
  refine g_if_ne (pc := 14) C dX11_needWell_14 (tgt := 28) rfl (fun z7 => ?_) (fun z7 => ?_)
  · replace h := h.2 z7
    refine gx_ret ?_; exact g_vret (pc := 28) C hlk hr (Nat.zero_le _) (Nat.zero_le _) dX11_needWell_28 h
  · replace h := h.1 z7
    obtain ⟨hb8, h⟩ := h
    exact thr_NoSuchElementException (pc := 17) C hl htab hlk (q := 22) (k0 := 22) rfl dX11_needWell_17 dX11_needWell_20 (⟨dX11_needWell_21, dX11_needWell_24, dX11_needWell_27⟩) (Nat.le_of_ble_eq_true rfl) (Nat.le_of_ble_eq_true rfl) hb8 h
theorem miX11_277 (C : xC x p s m c cc nL args RX11) {a0 : Nat} {a1 : Nat} {K : Wd → Prop} {D MC MS : Nat} (hq : isK w a0 4) (h : w_X4_over a0 a1 K w) (hD : 3 + 1 ≤ D) (hW : (st.map fun v => v.category).sum ≤ 8) (hij : i ≤ MC ∧ j ≤ MS) (hd : decode cc pc = .ok (.invokevirtual 277, 3)) (k : ∀ (u : Wd), K u → GW x p l e (rmd D MC MS) s m args below meth c nL Q (pc + 3) lo st u i j) : GW x p l e (rmd D MC MS) s m args below meth c nL Q pc lo (.ref (adr x a1) :: .ref (adr x a0) :: st) w i j := g_callVv0 C (As := [.ref (adr x a1)]) (ci := 4) (c_X4_over h) (x_cwV C 1 LMX11_277 ⟨rfl, by decide, by decide, rfl⟩ hD (by decide)) rfl hq (by decide) rfl rfl hW hd hij k
theorem miX11_279 (C : xC x p s m c cc nL args RX11) {a0 : Nat} {a1 : Int32} {a2 : Int32} {K : Int32 → Wd → Prop} {D MC MS : Nat} (hq : isK w a0 4) (h : w_X4_wokenBy a0 a1 a2 K w) (hD : 3 + 1 ≤ D) (hW : (st.map fun v => v.category).sum ≤ 8) (hij : i ≤ MC ∧ j ≤ MS) (hd : decode cc pc = .ok (.invokevirtual 279, 3)) (k : ∀ (r : Int32) (u : Wd), K r u → GW x p l e (rmd D MC MS) s m args below meth c nL Q (pc + 3) lo (.int r :: st) u i j) : GW x p l e (rmd D MC MS) s m args below meth c nL Q pc lo (.int a2 :: .int a1 :: .ref (adr x a0) :: st) w i j := g_callVi0 C (As := [.int a1, .int a2]) (ci := 4) (c_X4_wokenBy h) (x_cwV C 2 LMX11_279 ⟨rfl, by decide, by decide, rfl⟩ hD (by decide)) rfl hq (by decide) rfl rfl hW hd hij k
theorem mxX11_119 (C : xC x p s m c cc nL args RX11) {a0 : Nat} {a1 : Int32} {K : Wd → Prop} {D MC MS c0 s0 : Nat} {Qc : Array Value → State → Outcome → State → Prop} {X : String → Wd → Prop} (hl : l.stackTraces = false) (htab : ∀ z ∈ c.exceptionTable.toList, False) (hlk : meth.locks = false) (hq : isK w a0 11) (h : w_X11_needWell c0 s0 a0 a1 K X w) (hD : 6 + 1 ≤ D) (hW : (st.map fun v => v.category).sum ≤ 8) (hr : i + c0 ≤ MC ∧ j + s0 ≤ MS) (hd : decode cc pc = .ok (.invokevirtual 119, 3)) (k : ∀ (u : Wd), K u → GW x p l e (rmd D MC MS) s m args below meth c nL (vx_MQ below Qc (XCx x X) args s MC MS (xA x)) (pc + 3) lo st u (i + c0) (j + s0)) : GW x p l e (rmd D MC MS) s m args below meth c nL (vx_MQ below Qc (XCx x X) args s MC MS (xA x)) pc lo (.int a1 :: .ref (adr x a0) :: st) w i j := gx_callVv C (As := [.int a1]) (ci := 11) htab hlk (c_X11_needWell hl h) (x_cwV C 1 LMX11_119 ⟨rfl, by decide, by decide, rfl⟩ hD (by decide)) rfl hq (by decide) rfl rfl hW hd hr k
theorem mxX11_274 (C : xC x p s m c cc nL args RX11) {a0 : Int32} {K : Wd → Prop} {D MC MS c0 s0 : Nat} {Qc : Array Value → State → Outcome → State → Prop} {X : String → Wd → Prop} (hl : l.stackTraces = false) (htab : ∀ z ∈ c.exceptionTable.toList, False) (hlk : meth.locks = false) (h : w_X11_needNoise c0 s0 a0 K X w) (hD : 7 + 1 ≤ D) (hW : (st.map fun v => v.category).sum ≤ 8) (hr : i + c0 ≤ MC ∧ j + s0 ≤ MS) (hd : decode cc pc = .ok (.invokestatic 274, 3)) (k : ∀ (u : Wd), K u → GW x p l e (rmd D MC MS) s m args below meth c nL (vx_MQ below Qc (XCx x X) args s MC MS (xA x)) (pc + 3) lo st u (i + c0) (j + s0)) : GW x p l e (rmd D MC MS) s m args below meth c nL (vx_MQ below Qc (XCx x X) args s MC MS (xA x)) pc lo (.int a0 :: st) w i j := gx_callSv C (As := [.int a0]) htab hlk (c_X11_needNoise hl h) (x_cwS C 1 LMX11_274 ⟨by decide, by decide, rfl⟩ hD (by decide)) rfl rfl hW hd hr k
def w_X11_chain (mc ms : Nat) (a0 : Nat) (a1 : Int32) (a2 : Int32) (K : Int32 → Wd → Prop) (X : String → Wd → Prop) (w : Wd) : Prop :=
  isK w a0 11 ∧ (1 ≤ mc ∧ 6 ≤ ms) ∧ w_X11_needWell 1 6 a0 a1 (fun w2 => (2 ≤ mc ∧ 12 ≤ ms) ∧ w_X11_needNoise 1 6 a2 (fun w4 => isK w4 a0 11 ∧ isK w4 (wR w4 a0 5) 4 ∧ isK w4 (wR w4 a0 0) 5 ∧ isK w4 (wR w4 (wR w4 a0 0) 0) 2 ∧ w_X4_over (wR w4 a0 5) (wR w4 (wR w4 a0 0) 0) (fun w10 => isK w10 a0 11 ∧ isK w10 (wR w10 a0 5) 4 ∧ w_X4_wokenBy (wR w10 a0 5) a1 a2 (fun r13 w14 => K r13 w14) w10) w4) X w2) X w
theorem c_X11_chain {x : xG} {l : Launch} (hl : l.stackTraces = false) {a0 : Nat} {a1 : Int32} {a2 : Int32} {mc ms : Nat} {X : String → Wd → Prop} {K : Int32 → Wd → Prop} {w : Wd} (h : w_X11_chain mc ms a0 a1 a2 K X w) : vx_Met l yX11_chain (xws yX11_chain cX11_chain 3 (some .int)) (rmd 8 mc ms) (xPc x [.ref (adr x a0), .int a1, .int a2] w) (QcI x K) (XCx x X) mc ms (xA x) := by
  refine xMetX (by decide) (Nat.le_of_ble_eq_true rfl) (fun p e s m below meth c C hlk hr htab => ?_)
  show GW x p l e (rmd 8 mc ms) s m [.ref (adr x a0), .int a1, .int a2].toArray below meth c 3 (vx_MQ below (QcI x K) (XCx x X) [.ref (adr x a0), .int a1, .int a2].toArray s mc ms (xA x)) 0 [(0, .ref (adr x a0)), (1, .int a1), (2, .int a2)] [] w 0 0
  refine g_aload_n (pc := 0) C dX11_chain_0 (q := 0) rfl ?_
  refine g_iload_n (pc := 1) C dX11_chain_1 (q := 1) rfl ?_
  obtain ⟨k1, h⟩ := h
  obtain ⟨hb3, h⟩ := h
  refine mxX11_119 (pc := 2) C hl htab hlk k1 h (Nat.le_of_ble_eq_true rfl) (Nat.le_of_ble_eq_true rfl) hb3 dX11_chain_2 (fun w2 h => ?_)
  refine g_iload_n (pc := 5) C dX11_chain_5 (q := 2) rfl ?_
  obtain ⟨hb5, h⟩ := h
  refine mxX11_274 (pc := 6) C hl htab hlk h (Nat.le_of_ble_eq_true rfl) (Nat.le_of_ble_eq_true rfl) hb5 dX11_chain_6 (fun w4 h => ?_)
  refine g_aload_n (pc := 9) C dX11_chain_9 (q := 0) rfl ?_
  obtain ⟨k6, h⟩ := h
  obtain ⟨k7, h⟩ := h
  refine gfX11_65 (pc := 10) C k6 (isK_ne k7) dX11_chain_10 ?_
  refine g_aload_n (pc := 13) C dX11_chain_13 (q := 0) rfl ?_
  obtain ⟨k8, h⟩ := h
  refine gfX11_49 (pc := 14) C k6 (isK_ne k8) dX11_chain_14 ?_
  obtain ⟨k9, h⟩ := h
  refine gfX11_122 (pc := 17) C k8 (isK_ne k9) dX11_chain_17 ?_
  refine miX11_277 (pc := 20) C k7 h (Nat.le_of_ble_eq_true rfl) (Nat.le_of_ble_eq_true rfl) hb5 dX11_chain_20 (fun w10 h => ?_)
  refine g_aload_n (pc := 23) C dX11_chain_23 (q := 0) rfl ?_
  obtain ⟨k11, h⟩ := h
  obtain ⟨k12, h⟩ := h
  refine gfX11_65 (pc := 24) C k11 (isK_ne k12) dX11_chain_24 ?_
  refine g_iload_n (pc := 27) C dX11_chain_27 (q := 1) rfl ?_
  refine g_iload_n (pc := 28) C dX11_chain_28 (q := 2) rfl ?_
  refine miX11_279 (pc := 29) C k12 h (Nat.le_of_ble_eq_true rfl) (Nat.le_of_ble_eq_true rfl) hb5 dX11_chain_29 (fun r13 w14 h => ?_)
  refine gx_ret ?_; exact g_iret (pc := 32) C hlk hr hb5.1 hb5.2 dX11_chain_32 h
theorem miX11_307 (C : xC x p s m c cc nL args RX11) {a0 : Int32} {a1 : Int32} {K : Int32 → Wd → Prop} {D MC MS : Nat} (h : w_X11_sizeOrSet a0 a1 K w) (hD : 1 + 1 ≤ D) (hW : (st.map fun v => v.category).sum ≤ 8) (hij : i ≤ MC ∧ j ≤ MS) (hd : decode cc pc = .ok (.invokestatic 307, 3)) (k : ∀ (r : Int32) (u : Wd), K r u → GW x p l e (rmd D MC MS) s m args below meth c nL Q (pc + 3) lo (.int r :: st) u i j) : GW x p l e (rmd D MC MS) s m args below meth c nL Q pc lo (.int a1 :: .int a0 :: st) w i j := g_callSi0 C (As := [.int a0, .int a1]) (c_X11_sizeOrSet h) (x_cwS C 2 LMX11_307 ⟨by decide, by decide, rfl⟩ hD (by decide)) rfl rfl hW hd hij k
theorem miX11_310 (C : xC x p s m c cc nL args RX11) {a0 : Nat} {a1 : Int32} {K : Int32 → Wd → Prop} {D MC MS : Nat} (hq : isK w a0 4) (h : w_X4_leastChorus a0 a1 K w) (hD : 4 + 1 ≤ D) (hW : (st.map fun v => v.category).sum ≤ 8) (hij : i ≤ MC ∧ j ≤ MS) (hd : decode cc pc = .ok (.invokevirtual 310, 3)) (k : ∀ (r : Int32) (u : Wd), K r u → GW x p l e (rmd D MC MS) s m args below meth c nL Q (pc + 3) lo (.int r :: st) u i j) : GW x p l e (rmd D MC MS) s m args below meth c nL Q pc lo (.int a1 :: .ref (adr x a0) :: st) w i j := g_callVi0 C (As := [.int a1]) (ci := 4) (c_X4_leastChorus h) (x_cwV C 1 LMX11_310 ⟨rfl, by decide, by decide, rfl⟩ hD (by decide)) rfl hq (by decide) rfl rfl hW hd hij k
def w_X11_chorus (mc ms : Nat) (a0 : Nat) (a1 : Int32) (a2 : Int32) (K : Int32 → Wd → Prop) (X : String → Wd → Prop) (w : Wd) : Prop :=
  (1 ≤ mc ∧ 6 ≤ ms) ∧ w_X11_needNoise 1 6 a1 (fun w1 => (2 ≤ mc ∧ 12 ≤ ms) ∧ w_X11_needWithin 1 6 a2 0 1 (fun w3 => isK w3 a0 11 ∧ isK w3 (wR w3 a0 5) 4 ∧ isK w3 (wR w3 a0 0) 5 ∧ isK w3 (wR w3 (wR w3 a0 0) 0) 2 ∧ w_X4_over (wR w3 a0 5) (wR w3 (wR w3 a0 0) 0) (fun w9 => isK w9 a0 11 ∧ isK w9 (wR w9 a0 5) 4 ∧ w_X4_leastChorus (wR w9 a0 5) a1 (fun r12 w13 => w_X11_sizeOrSet r12 a2 (fun r14 w15 => K r14 w15) w13) w9) w3) X w1) X w
theorem c_X11_chorus {x : xG} {l : Launch} (hl : l.stackTraces = false) {a0 : Nat} {a1 : Int32} {a2 : Int32} {mc ms : Nat} {X : String → Wd → Prop} {K : Int32 → Wd → Prop} {w : Wd} (h : w_X11_chorus mc ms a0 a1 a2 K X w) : vx_Met l yX11_chorus (xws yX11_chorus cX11_chorus 3 (some .int)) (rmd 8 mc ms) (xPc x [.ref (adr x a0), .int a1, .int a2] w) (QcI x K) (XCx x X) mc ms (xA x) := by
  refine xMetX (by decide) (Nat.le_of_ble_eq_true rfl) (fun p e s m below meth c C hlk hr htab => ?_)
  show GW x p l e (rmd 8 mc ms) s m [.ref (adr x a0), .int a1, .int a2].toArray below meth c 3 (vx_MQ below (QcI x K) (XCx x X) [.ref (adr x a0), .int a1, .int a2].toArray s mc ms (xA x)) 0 [(0, .ref (adr x a0)), (1, .int a1), (2, .int a2)] [] w 0 0
  refine g_iload_n (pc := 0) C dX11_chorus_0 (q := 1) rfl ?_
  obtain ⟨hb2, h⟩ := h
  refine mxX11_274 (pc := 1) C hl htab hlk h (Nat.le_of_ble_eq_true rfl) (Nat.le_of_ble_eq_true rfl) hb2 dX11_chorus_1 (fun w1 h => ?_)
  refine g_iload_n (pc := 4) C dX11_chorus_4 (q := 2) rfl ?_
  refine g_iconst (pc := 5) C dX11_chorus_5 (v := 0) rfl ?_
  refine g_iconst (pc := 6) C dX11_chorus_6 (v := 1) rfl ?_
  obtain ⟨hb4, h⟩ := h
  refine mxX11_95 (pc := 7) C hl htab hlk h (Nat.le_of_ble_eq_true rfl) (Nat.le_of_ble_eq_true rfl) hb4 dX11_chorus_7 (fun w3 h => ?_)
  refine g_aload_n (pc := 10) C dX11_chorus_10 (q := 0) rfl ?_
  obtain ⟨k5, h⟩ := h
  obtain ⟨k6, h⟩ := h
  refine gfX11_65 (pc := 11) C k5 (isK_ne k6) dX11_chorus_11 ?_
  refine g_aload_n (pc := 14) C dX11_chorus_14 (q := 0) rfl ?_
  obtain ⟨k7, h⟩ := h
  refine gfX11_49 (pc := 15) C k5 (isK_ne k7) dX11_chorus_15 ?_
  obtain ⟨k8, h⟩ := h
  refine gfX11_122 (pc := 18) C k7 (isK_ne k8) dX11_chorus_18 ?_
  refine miX11_277 (pc := 21) C k6 h (Nat.le_of_ble_eq_true rfl) (Nat.le_of_ble_eq_true rfl) hb4 dX11_chorus_21 (fun w9 h => ?_)
  refine g_aload_n (pc := 24) C dX11_chorus_24 (q := 0) rfl ?_
  obtain ⟨k10, h⟩ := h
  obtain ⟨k11, h⟩ := h
  refine gfX11_65 (pc := 25) C k10 (isK_ne k11) dX11_chorus_25 ?_
  refine g_iload_n (pc := 28) C dX11_chorus_28 (q := 1) rfl ?_
  refine miX11_310 (pc := 29) C k11 h (Nat.le_of_ble_eq_true rfl) (Nat.le_of_ble_eq_true rfl) hb4 dX11_chorus_29 (fun r12 w13 h => ?_)
  refine g_iload_n (pc := 32) C dX11_chorus_32 (q := 2) rfl ?_
  refine miX11_307 (pc := 33) C h (Nat.le_of_ble_eq_true rfl) (Nat.le_of_ble_eq_true rfl) hb4 dX11_chorus_33 (fun r14 w15 h => ?_)
  refine gx_ret ?_; exact g_iret (pc := 36) C hlk hr hb4.1 hb4.2 dX11_chorus_36 h
theorem mxX11_366 (C : xC x p s m c cc nL args RX11) {a0 : Nat} {a1 : Int32} {K : Nat → Wd → Prop} {D MC MS c0 s0 : Nat} {Qc : Array Value → State → Outcome → State → Prop} {X : String → Wd → Prop} (hl : l.stackTraces = false) (htab : ∀ z ∈ c.exceptionTable.toList, False) (hlk : meth.locks = false) (hq : isK w a0 11) (h : w_X11_anyTray c0 s0 a0 a1 K X w) (hD : 6 + 1 ≤ D) (hW : (st.map fun v => v.category).sum ≤ 8) (hr : i + c0 ≤ MC ∧ j + s0 ≤ MS) (hd : decode cc pc = .ok (.invokevirtual 366, 3)) (k : ∀ (r : Nat) (u : Wd), K r u → GW x p l e (rmd D MC MS) s m args below meth c nL (vx_MQ below Qc (XCx x X) args s MC MS (xA x)) (pc + 3) lo (.ref (adr x r) :: st) u (i + c0) (j + s0)) : GW x p l e (rmd D MC MS) s m args below meth c nL (vx_MQ below Qc (XCx x X) args s MC MS (xA x)) pc lo (.int a1 :: .ref (adr x a0) :: st) w i j := gx_callVr C (As := [.int a1]) (ci := 11) htab hlk (c_X11_anyTray hl h) (x_cwV C 1 LMX11_366 ⟨rfl, by decide, by decide, rfl⟩ hD (by decide)) rfl hq (by decide) rfl rfl hW hd hr k
def w_X11_presentTray (mc ms : Nat) (a0 : Nat) (a1 : Int32) (K : Nat → Wd → Prop) (X : String → Wd → Prop) (w : Wd) : Prop :=
  isK w a0 11 ∧ (1 ≤ mc ∧ 6 ≤ ms) ∧ w_X11_anyTray 1 6 a0 a1 (fun r2 w3 => isK w3 r2 10 ∧ (((wI w3 r2 0) = 0 → (2 ≤ mc ∧ 12 ≤ ms) ∧ ∀ N8, wN w3 ≤ N8 → X "java/lang/IllegalStateException" (wJ w3 N8)) ∧ (¬ (wI w3 r2 0) = 0 → K r2 w3))) X w
theorem c_X11_presentTray {x : xG} {l : Launch} (hl : l.stackTraces = false) {a0 : Nat} {a1 : Int32} {mc ms : Nat} {X : String → Wd → Prop} {K : Nat → Wd → Prop} {w : Wd} (h : w_X11_presentTray mc ms a0 a1 K X w) : vx_Met l yX11_presentTray (xws yX11_presentTray cX11_presentTray 3 (some (.object "SnoringWells$Tray"))) (rmd 7 mc ms) (xPc x [.ref (adr x a0), .int a1] w) (QcR x K) (XCx x X) mc ms (xA x) := by
  refine xMetX (by decide) (Nat.le_of_ble_eq_true rfl) (fun p e s m below meth c C hlk hr htab => ?_)
  show GW x p l e (rmd 7 mc ms) s m [.ref (adr x a0), .int a1].toArray below meth c 3 (vx_MQ below (QcR x K) (XCx x X) [.ref (adr x a0), .int a1].toArray s mc ms (xA x)) 0 [(0, .ref (adr x a0)), (1, .int a1)] [] w 0 0
  refine g_aload_n (pc := 0) C dX11_presentTray_0 (q := 0) rfl ?_
  refine g_iload_n (pc := 1) C dX11_presentTray_1 (q := 1) rfl ?_
  obtain ⟨k1, h⟩ := h
  obtain ⟨hb4, h⟩ := h
  refine mxX11_366 (pc := 2) C hl htab hlk k1 h (Nat.le_of_ble_eq_true rfl) (Nat.le_of_ble_eq_true rfl) hb4 dX11_presentTray_2 (fun r2 w3 h => ?_)
  refine g_astore_n (pc := 5) C dX11_presentTray_5 (Nat.le_of_ble_eq_true rfl) (lo' := [(2, .ref (adr x r2)), (0, .ref (adr x a0)), (1, .int a1)]) rfl ?_
  refine g_aload_n (pc := 6) C dX11_presentTray_6 (q := 0) rfl ?_
  obtain ⟨k5, h⟩ := h
  refine gfX11_438 (pc := 7) C k5 dX11_presentTray_7 ?_
  refine g_if_ne (pc := 10) C dX11_presentTray_10 (tgt := 24) rfl (fun z6 => ?_) (fun z6 => ?_)
  · replace h := h.2 z6
    refine g_aload_n (pc := 24) C dX11_presentTray_24 (q := 0) rfl ?_
    refine gx_ret ?_; exact g_rret (pc := 25) C hlk hr (Or.inl ⟨_, rfl⟩) hb4.1 hb4.2 dX11_presentTray_25 h
  · replace h := h.1 z6
    obtain ⟨hb7, h⟩ := h
    exact thr_IllegalStateException (pc := 13) C hl htab hlk (q := 25) (k0 := 25) rfl dX11_presentTray_13 dX11_presentTray_16 (Or.inr ⟨dX11_presentTray_17, dX11_presentTray_20, dX11_presentTray_23⟩) (Nat.le_of_ble_eq_true rfl) (Nat.le_of_ble_eq_true rfl) hb7 h
theorem miX11_379 (C : xC x p s m c cc nL args RX11) {a0 : Nat} {a1 : Int32} {a2 : Int64} {K : Wd → Prop} {D MC MS : Nat} (hq : isK w a0 10) (h : w_X10_put a0 a1 a2 K w) (hD : 1 + 1 ≤ D) (hW : (st.map fun v => v.category).sum ≤ 8) (hij : i ≤ MC ∧ j ≤ MS) (hd : decode cc pc = .ok (.invokevirtual 379, 3)) (k : ∀ (u : Wd), K u → GW x p l e (rmd D MC MS) s m args below meth c nL Q (pc + 3) lo st u i j) : GW x p l e (rmd D MC MS) s m args below meth c nL Q pc lo (.long a2 :: .int a1 :: .ref (adr x a0) :: st) w i j := g_callVv0 C (As := [.int a1, .long a2]) (ci := 10) (c_X10_put h) (x_cwV C 2 LMX11_379 ⟨rfl, by decide, by decide, rfl⟩ hD (by decide)) rfl hq (by decide) rfl rfl hW hd hij k
theorem miX11_383 (C : xC x p s m c cc nL args RX11) {a0 : Nat} {a1 : Int32} {a2 : Int32} {K : Int32 → Wd → Prop} {D MC MS : Nat} (hq : isK w a0 2) (h : w_X2_isAwakeIn a0 a1 a2 K w) (hD : 1 + 1 ≤ D) (hW : (st.map fun v => v.category).sum ≤ 8) (hij : i ≤ MC ∧ j ≤ MS) (hd : decode cc pc = .ok (.invokevirtual 383, 3)) (k : ∀ (r : Int32) (u : Wd), K r u → GW x p l e (rmd D MC MS) s m args below meth c nL Q (pc + 3) lo (.int r :: st) u i j) : GW x p l e (rmd D MC MS) s m args below meth c nL Q pc lo (.int a2 :: .int a1 :: .ref (adr x a0) :: st) w i j := g_callVi0 C (As := [.int a1, .int a2]) (ci := 2) (c_X2_isAwakeIn h) (x_cwV C 2 LMX11_383 ⟨rfl, by decide, by decide, rfl⟩ hD (by decide)) rfl hq (by decide) rfl rfl hW hd hij k
theorem mxX11_208 (C : xC x p s m c cc nL args RX11) {a0 : Nat} {a1 : Int32} {K : Nat → Wd → Prop} {D MC MS c0 s0 : Nat} {Qc : Array Value → State → Outcome → State → Prop} {X : String → Wd → Prop} (hl : l.stackTraces = false) (htab : ∀ z ∈ c.exceptionTable.toList, False) (hlk : meth.locks = false) (hq : isK w a0 11) (h : w_X11_presentTray c0 s0 a0 a1 K X w) (hD : 7 + 1 ≤ D) (hW : (st.map fun v => v.category).sum ≤ 8) (hr : i + c0 ≤ MC ∧ j + s0 ≤ MS) (hd : decode cc pc = .ok (.invokevirtual 208, 3)) (k : ∀ (r : Nat) (u : Wd), K r u → GW x p l e (rmd D MC MS) s m args below meth c nL (vx_MQ below Qc (XCx x X) args s MC MS (xA x)) (pc + 3) lo (.ref (adr x r) :: st) u (i + c0) (j + s0)) : GW x p l e (rmd D MC MS) s m args below meth c nL (vx_MQ below Qc (XCx x X) args s MC MS (xA x)) pc lo (.int a1 :: .ref (adr x a0) :: st) w i j := gx_callVr C (As := [.int a1]) (ci := 11) htab hlk (c_X11_presentTray hl h) (x_cwV C 1 LMX11_208 ⟨rfl, by decide, by decide, rfl⟩ hD (by decide)) rfl hq (by decide) rfl rfl hW hd hr k
def l_X11_copy_20 (mc ms : Nat) (X : String → Wd → Prop)  (K : Int32 → Wd → Prop) : Nat → Nat → Int32 → Nat → Int32 → Nat → Nat → Wd → Prop
  | 0, _, _, _, _, _, _, _ => False
  | n + 1, a0, a2, a3, a4, i0, j0, w => isK w a3 10 ∧ (((wI w a3 1) ≤ a4 → K (wI w a3 1) w) ∧ (¬ (wI w a3 1) ≤ a4 → isK w a0 11 ∧ isK w (wR w a0 0) 5 ∧ isK w (wR w (wR w a0 0) 0) 2 ∧ w_X2_isAwakeIn (wR w (wR w a0 0) 0) a2 a4 (fun r17 w18 => ((r17 = 0 → isK w18 a3 10 ∧ w_X10_put a3 a4 0 (fun w21 => l_X11_copy_20 mc ms X K n a0 a2 a3 (a4 + 1) i0 j0 w21) w18) ∧ (¬ r17 = 0 → isK w18 a3 10 ∧ w_X10_put a3 a4 1 (fun w23 => l_X11_copy_20 mc ms X K n a0 a2 a3 (a4 + 1) i0 j0 w23) w18))) w))
def w_X11_copy (mc ms : Nat) (a0 : Nat) (a1 : Int32) (a2 : Int32) (K : Int32 → Wd → Prop) (X : String → Wd → Prop) (w : Wd) : Prop :=
  isK w a0 11 ∧ (1 ≤ mc ∧ 6 ≤ ms) ∧ w_X11_anyTray 1 6 a0 a1 (fun r2 w3 => isK w3 a0 11 ∧ (2 ≤ mc ∧ 12 ≤ ms) ∧ w_X11_needWell 1 6 a0 a2 (fun w6 => isK w6 a0 11 ∧ (4 ≤ mc ∧ 24 ≤ ms) ∧ w_X11_presentTray 2 12 a0 a1 (fun r9 w10 => ∃ n24, l_X11_copy_20 mc ms X  K n24 a0 a2 r9 0 4 24 w10) X w6) X w3) X w
theorem t_X11_copy_20 (C : xC x p s m c cX11_copy 5 args RX11) (hlk : meth.locks = false) (hr : meth.sig.returnType = some .int) (hl : l.stackTraces = false) (htab : ∀ z ∈ c.exceptionTable.toList, False) {mc ms : Nat} {X : String → Wd → Prop} {K : Int32 → Wd → Prop}   : ∀ (n : Nat) (a0 : Nat) (a2 : Int32) (a3 : Nat) (a4 : Int32) (i0 j0 : Nat) (w : Wd), i0 ≤ mc ∧ j0 ≤ ms → l_X11_copy_20 mc ms X K n a0 a2 a3 a4 i0 j0 w → GW x p l e (rmd 8 mc ms) s m args below meth c 5 (vx_MQ below (QcI x K) (XCx x X) args s mc ms (xA x)) 20 [(0, .ref (adr x a0)), (2, .int a2), (3, .ref (adr x a3)), (4, .int a4)] [] w i0 j0 := by
  intro n
  induction n with
  | zero => intro _ _ _ _ _ _ _ _ h; exact False.elim h
  | succ n ih =>
    intro a0 a2 a3 a4 i0 j0 w hb h
    refine g_iload (pc := 20) C dX11_copy_20 (q := 3) rfl ?_
    refine g_aload_n (pc := 22) C dX11_copy_22 (q := 2) rfl ?_
    obtain ⟨k12, h⟩ := h
    refine gfX11_215 (pc := 23) C k12 dX11_copy_23 ?_
    refine g_icmp_ge (pc := 26) C dX11_copy_26 (tgt := 62) rfl (fun z13 => ?_) (fun z13 => ?_)
    · replace h := h.1 z13
      refine g_aload_n (pc := 62) C dX11_copy_62 (q := 2) rfl ?_
      refine gfX11_215 (pc := 63) C k12 dX11_copy_63 ?_
      refine gx_ret ?_; exact g_iret (pc := 66) C hlk hr hb.1 hb.2 dX11_copy_66 h
    · replace h := h.2 z13
      refine g_aload_n (pc := 29) C dX11_copy_29 (q := 2) rfl ?_
      refine g_iload (pc := 30) C dX11_copy_30 (q := 3) rfl ?_
      refine g_aload_n (pc := 32) C dX11_copy_32 (q := 0) rfl ?_
      obtain ⟨k14, h⟩ := h
      obtain ⟨k15, h⟩ := h
      refine gfX11_49 (pc := 33) C k14 (isK_ne k15) dX11_copy_33 ?_
      obtain ⟨k16, h⟩ := h
      refine gfX11_122 (pc := 36) C k15 (isK_ne k16) dX11_copy_36 ?_
      refine g_iload_n (pc := 39) C dX11_copy_39 (q := 1) rfl ?_
      refine g_iload (pc := 40) C dX11_copy_40 (q := 3) rfl ?_
      refine miX11_383 (pc := 42) C k16 h (Nat.le_of_ble_eq_true rfl) (Nat.le_of_ble_eq_true rfl) hb dX11_copy_42 (fun r17 w18 h => ?_)
      refine g_if_eq (pc := 45) C dX11_copy_45 (tgt := 52) rfl (fun z19 => ?_) (fun z19 => ?_)
      · replace h := h.1 z19
        refine g_lconst (pc := 52) C dX11_copy_52 (v := 0) rfl ?_
        obtain ⟨k20, h⟩ := h
        refine miX11_379 (pc := 53) C k20 h (Nat.le_of_ble_eq_true rfl) (Nat.le_of_ble_eq_true rfl) hb dX11_copy_53 (fun w21 h => ?_)
        refine g_iinc (pc := 56) C dX11_copy_56 (q := 3) rfl (v2 := a4 + 1) rfl (Nat.le_of_ble_eq_true rfl) (lo' := [(4, .int (a4 + 1)), (0, .ref (adr x a0)), (2, .int a2), (3, .ref (adr x a3))]) rfl ?_
        refine g_goto (pc := 59) C dX11_copy_59 (tgt := 20) rfl ?_
        refine g_sub [1, 2, 3, 0] rfl ?_
        exact ih _ _ _ _ _ _ _ hb h
      · replace h := h.2 z19
        refine g_lconst (pc := 48) C dX11_copy_48 (v := 1) rfl ?_
        refine g_goto (pc := 49) C dX11_copy_49 (tgt := 53) rfl ?_
        obtain ⟨k22, h⟩ := h
        refine miX11_379 (pc := 53) C k22 h (Nat.le_of_ble_eq_true rfl) (Nat.le_of_ble_eq_true rfl) hb dX11_copy_53 (fun w23 h => ?_)
        refine g_iinc (pc := 56) C dX11_copy_56 (q := 3) rfl (v2 := a4 + 1) rfl (Nat.le_of_ble_eq_true rfl) (lo' := [(4, .int (a4 + 1)), (0, .ref (adr x a0)), (2, .int a2), (3, .ref (adr x a3))]) rfl ?_
        refine g_goto (pc := 59) C dX11_copy_59 (tgt := 20) rfl ?_
        refine g_sub [1, 2, 3, 0] rfl ?_
        exact ih _ _ _ _ _ _ _ hb h
theorem c_X11_copy {x : xG} {l : Launch} (hl : l.stackTraces = false) {a0 : Nat} {a1 : Int32} {a2 : Int32} {mc ms : Nat} {X : String → Wd → Prop} {K : Int32 → Wd → Prop} {w : Wd} (h : w_X11_copy mc ms a0 a1 a2 K X w) : vx_Met l yX11_copy (xws yX11_copy cX11_copy 5 (some .int)) (rmd 8 mc ms) (xPc x [.ref (adr x a0), .int a1, .int a2] w) (QcI x K) (XCx x X) mc ms (xA x) := by
  refine xMetX (by decide) (Nat.le_of_ble_eq_true rfl) (fun p e s m below meth c C hlk hr htab => ?_)
  show GW x p l e (rmd 8 mc ms) s m [.ref (adr x a0), .int a1, .int a2].toArray below meth c 5 (vx_MQ below (QcI x K) (XCx x X) [.ref (adr x a0), .int a1, .int a2].toArray s mc ms (xA x)) 0 [(0, .ref (adr x a0)), (1, .int a1), (2, .int a2)] [] w 0 0
  refine g_aload_n (pc := 0) C dX11_copy_0 (q := 0) rfl ?_
  refine g_iload_n (pc := 1) C dX11_copy_1 (q := 1) rfl ?_
  obtain ⟨k1, h⟩ := h
  obtain ⟨hb4, h⟩ := h
  refine mxX11_366 (pc := 2) C hl htab hlk k1 h (Nat.le_of_ble_eq_true rfl) (Nat.le_of_ble_eq_true rfl) hb4 dX11_copy_2 (fun r2 w3 h => ?_)
  refine g_pop (pc := 5) C dX11_copy_5 rfl ?_
  refine g_aload_n (pc := 6) C dX11_copy_6 (q := 0) rfl ?_
  refine g_iload_n (pc := 7) C dX11_copy_7 (q := 2) rfl ?_
  obtain ⟨k5, h⟩ := h
  obtain ⟨hb7, h⟩ := h
  refine mxX11_119 (pc := 8) C hl htab hlk k5 h (Nat.le_of_ble_eq_true rfl) (Nat.le_of_ble_eq_true rfl) hb7 dX11_copy_8 (fun w6 h => ?_)
  refine g_aload_n (pc := 11) C dX11_copy_11 (q := 0) rfl ?_
  refine g_iload_n (pc := 12) C dX11_copy_12 (q := 1) rfl ?_
  obtain ⟨k8, h⟩ := h
  obtain ⟨hb11, h⟩ := h
  refine mxX11_208 (pc := 13) C hl htab hlk k8 h (Nat.le_of_ble_eq_true rfl) (Nat.le_of_ble_eq_true rfl) hb11 dX11_copy_13 (fun r9 w10 h => ?_)
  refine g_astore_n (pc := 16) C dX11_copy_16 (Nat.le_of_ble_eq_true rfl) (lo' := [(3, .ref (adr x r9)), (0, .ref (adr x a0)), (1, .int a1), (2, .int a2)]) rfl ?_
  refine g_iconst (pc := 17) C dX11_copy_17 (v := 0) rfl ?_
  refine g_istore (pc := 18) C dX11_copy_18 (Nat.le_of_ble_eq_true rfl) (lo' := [(4, .int 0), (3, .ref (adr x r9)), (0, .ref (adr x a0)), (1, .int a1), (2, .int a2)]) rfl ?_
  obtain ⟨n24, h⟩ := h
  refine g_sub [2, 4, 1, 0] rfl ?_
  refine t_X11_copy_20 C hlk hr hl htab n24 _ _ _ _ _ _ _ hb11 h
theorem miX11_141 (C : xC x p s m c cc nL args RX11) {a0 : Nat} {a1 : Int32} {K : Int32 → Wd → Prop} {D MC MS : Nat} (hq : isK w a0 2) (h : w_X2_waterOf a0 a1 K w) (hD : 0 + 1 ≤ D) (hW : (st.map fun v => v.category).sum ≤ 8) (hij : i ≤ MC ∧ j ≤ MS) (hd : decode cc pc = .ok (.invokevirtual 141, 3)) (k : ∀ (r : Int32) (u : Wd), K r u → GW x p l e (rmd D MC MS) s m args below meth c nL Q (pc + 3) lo (.int r :: st) u i j) : GW x p l e (rmd D MC MS) s m args below meth c nL Q pc lo (.int a1 :: .ref (adr x a0) :: st) w i j := g_callVi0 C (As := [.int a1]) (ci := 2) (c_X2_waterOf h) (x_cwV C 1 LMX11_141 ⟨rfl, by decide, by decide, rfl⟩ hD (by decide)) rfl hq (by decide) rfl rfl hW hd hij k
def l_X11_hasIn_29 (mc ms : Nat) (X : String → Wd → Prop)  (K : Int32 → Wd → Prop) : Nat → Nat → Int32 → Int32 → Int32 → Nat → Nat → Wd → Prop
  | 0, _, _, _, _, _, _, _ => False
  | n + 1, a0, a1, a2, a3, i0, j0, w => ((200 < a3 → K (-1) w) ∧ (¬ 200 < a3 → isK w a0 11 ∧ isK w (wR w a0 3) 2 ∧ w_X2_waterOf (wR w a0 3) a1 (fun r14 w15 => ((r14 < a2 → isK w15 a0 11 ∧ isK w15 (wR w15 a0 3) 2 ∧ w_X2_passHour (wR w15 a0 3) (fun w19 => l_X11_hasIn_29 mc ms X K n a0 a1 a2 (a3 + 1) i0 j0 w19) w15) ∧ (¬ r14 < a2 → K a3 w15))) w))
def w_X11_hasIn (mc ms : Nat) (a0 : Nat) (a1 : Int32) (a2 : Int32) (K : Int32 → Wd → Prop) (X : String → Wd → Prop) (w : Wd) : Prop :=
  isK w a0 11 ∧ (1 ≤ mc ∧ 6 ≤ ms) ∧ w_X11_needWell 1 6 a0 a1 (fun w2 => (2 ≤ mc ∧ 12 ≤ ms) ∧ w_X11_needWithin 1 6 a2 0 2147483647 (fun w4 => isK w4 a0 11 ∧ isK w4 (wR w4 a0 3) 2 ∧ isK w4 (wR w4 a0 0) 5 ∧ isK w4 (wR w4 (wR w4 a0 0) 0) 2 ∧ w_X2_become (wR w4 a0 3) (wR w4 (wR w4 a0 0) 0) (fun w10 => ∃ n20, l_X11_hasIn_29 mc ms X  K n20 a0 a1 a2 0 2 12 w10) w4) X w2) X w
theorem t_X11_hasIn_29 (C : xC x p s m c cX11_hasIn 4 args RX11) (hlk : meth.locks = false) (hr : meth.sig.returnType = some .int) (hl : l.stackTraces = false) (htab : ∀ z ∈ c.exceptionTable.toList, False) {mc ms : Nat} {X : String → Wd → Prop} {K : Int32 → Wd → Prop}   : ∀ (n : Nat) (a0 : Nat) (a1 : Int32) (a2 : Int32) (a3 : Int32) (i0 j0 : Nat) (w : Wd), i0 ≤ mc ∧ j0 ≤ ms → l_X11_hasIn_29 mc ms X K n a0 a1 a2 a3 i0 j0 w → GW x p l e (rmd 7 mc ms) s m args below meth c 4 (vx_MQ below (QcI x K) (XCx x X) args s mc ms (xA x)) 29 [(0, .ref (adr x a0)), (1, .int a1), (2, .int a2), (3, .int a3)] [] w i0 j0 := by
  intro n
  induction n with
  | zero => intro _ _ _ _ _ _ _ _ h; exact False.elim h
  | succ n ih =>
    intro a0 a1 a2 a3 i0 j0 w hb h
    refine g_iload_n (pc := 29) C dX11_hasIn_29 (q := 3) rfl ?_
    refine g_sipush (pc := 30) C dX11_hasIn_30 (v := 200) rfl ?_
    refine g_icmp_gt (pc := 33) C dX11_hasIn_33 (tgt := 63) rfl (fun z11 => ?_) (fun z11 => ?_)
    · replace h := h.1 z11
      refine g_iconst (pc := 63) C dX11_hasIn_63 (v := (-1)) rfl ?_
      refine gx_ret ?_; exact g_iret (pc := 64) C hlk hr hb.1 hb.2 dX11_hasIn_64 h
    · replace h := h.2 z11
      refine g_aload_n (pc := 36) C dX11_hasIn_36 (q := 0) rfl ?_
      obtain ⟨k12, h⟩ := h
      obtain ⟨k13, h⟩ := h
      refine gfX11_54 (pc := 37) C k12 (isK_ne k13) dX11_hasIn_37 ?_
      refine g_iload_n (pc := 40) C dX11_hasIn_40 (q := 1) rfl ?_
      refine miX11_141 (pc := 41) C k13 h (Nat.le_of_ble_eq_true rfl) (Nat.le_of_ble_eq_true rfl) hb dX11_hasIn_41 (fun r14 w15 h => ?_)
      refine g_iload_n (pc := 44) C dX11_hasIn_44 (q := 2) rfl ?_
      refine g_icmp_lt (pc := 45) C dX11_hasIn_45 (tgt := 50) rfl (fun z16 => ?_) (fun z16 => ?_)
      · replace h := h.1 z16
        refine g_aload_n (pc := 50) C dX11_hasIn_50 (q := 0) rfl ?_
        obtain ⟨k17, h⟩ := h
        obtain ⟨k18, h⟩ := h
        refine gfX11_54 (pc := 51) C k17 (isK_ne k18) dX11_hasIn_51 ?_
        refine miX11_199 (pc := 54) C k18 h (Nat.le_of_ble_eq_true rfl) (Nat.le_of_ble_eq_true rfl) hb dX11_hasIn_54 (fun w19 h => ?_)
        refine g_iinc (pc := 57) C dX11_hasIn_57 (q := 3) rfl (v2 := a3 + 1) rfl (Nat.le_of_ble_eq_true rfl) (lo' := [(3, .int (a3 + 1)), (0, .ref (adr x a0)), (1, .int a1), (2, .int a2)]) rfl ?_
        refine g_goto (pc := 60) C dX11_hasIn_60 (tgt := 29) rfl ?_
        refine g_sub [1, 2, 3, 0] rfl ?_
        exact ih _ _ _ _ _ _ _ hb h
      · replace h := h.2 z16
        refine g_iload_n (pc := 48) C dX11_hasIn_48 (q := 3) rfl ?_
        refine gx_ret ?_; exact g_iret (pc := 49) C hlk hr hb.1 hb.2 dX11_hasIn_49 h
theorem c_X11_hasIn {x : xG} {l : Launch} (hl : l.stackTraces = false) {a0 : Nat} {a1 : Int32} {a2 : Int32} {mc ms : Nat} {X : String → Wd → Prop} {K : Int32 → Wd → Prop} {w : Wd} (h : w_X11_hasIn mc ms a0 a1 a2 K X w) : vx_Met l yX11_hasIn (xws yX11_hasIn cX11_hasIn 4 (some .int)) (rmd 7 mc ms) (xPc x [.ref (adr x a0), .int a1, .int a2] w) (QcI x K) (XCx x X) mc ms (xA x) := by
  refine xMetX (by decide) (Nat.le_of_ble_eq_true rfl) (fun p e s m below meth c C hlk hr htab => ?_)
  show GW x p l e (rmd 7 mc ms) s m [.ref (adr x a0), .int a1, .int a2].toArray below meth c 4 (vx_MQ below (QcI x K) (XCx x X) [.ref (adr x a0), .int a1, .int a2].toArray s mc ms (xA x)) 0 [(0, .ref (adr x a0)), (1, .int a1), (2, .int a2)] [] w 0 0
  refine g_aload_n (pc := 0) C dX11_hasIn_0 (q := 0) rfl ?_
  refine g_iload_n (pc := 1) C dX11_hasIn_1 (q := 1) rfl ?_
  obtain ⟨k1, h⟩ := h
  obtain ⟨hb3, h⟩ := h
  refine mxX11_119 (pc := 2) C hl htab hlk k1 h (Nat.le_of_ble_eq_true rfl) (Nat.le_of_ble_eq_true rfl) hb3 dX11_hasIn_2 (fun w2 h => ?_)
  refine g_iload_n (pc := 5) C dX11_hasIn_5 (q := 2) rfl ?_
  refine g_iconst (pc := 6) C dX11_hasIn_6 (v := 0) rfl ?_
  refine g_ldcw (pc := 7) C LCX11_342 dX11_hasIn_7 ?_
  obtain ⟨hb5, h⟩ := h
  refine mxX11_95 (pc := 10) C hl htab hlk h (Nat.le_of_ble_eq_true rfl) (Nat.le_of_ble_eq_true rfl) hb5 dX11_hasIn_10 (fun w4 h => ?_)
  refine g_aload_n (pc := 13) C dX11_hasIn_13 (q := 0) rfl ?_
  obtain ⟨k6, h⟩ := h
  obtain ⟨k7, h⟩ := h
  refine gfX11_54 (pc := 14) C k6 (isK_ne k7) dX11_hasIn_14 ?_
  refine g_aload_n (pc := 17) C dX11_hasIn_17 (q := 0) rfl ?_
  obtain ⟨k8, h⟩ := h
  refine gfX11_49 (pc := 18) C k6 (isK_ne k8) dX11_hasIn_18 ?_
  obtain ⟨k9, h⟩ := h
  refine gfX11_122 (pc := 21) C k8 (isK_ne k9) dX11_hasIn_21 ?_
  refine miX11_212 (pc := 24) C k7 h (Nat.le_of_ble_eq_true rfl) (Nat.le_of_ble_eq_true rfl) hb5 dX11_hasIn_24 (fun w10 h => ?_)
  refine g_iconst (pc := 27) C dX11_hasIn_27 (v := 0) rfl ?_
  refine g_istore_n (pc := 28) C dX11_hasIn_28 (Nat.le_of_ble_eq_true rfl) (lo' := [(3, .int 0), (0, .ref (adr x a0)), (1, .int a1), (2, .int a2)]) rfl ?_
  obtain ⟨n20, h⟩ := h
  refine g_sub [1, 2, 3, 0] rfl ?_
  refine t_X11_hasIn_29 C hlk hr hl htab n20 _ _ _ _ _ _ _ hb5 h
theorem miX11_443 (C : xC x p s m c cc nL args RX11) {a0 : Nat} {K : Int32 → Wd → Prop} {D MC MS : Nat} (h : w_X9_canBeHeard a0 K w) (hD : 1 + 1 ≤ D) (hW : (st.map fun v => v.category).sum ≤ 8) (hij : i ≤ MC ∧ j ≤ MS) (hd : decode cc pc = .ok (.invokestatic 443, 3)) (k : ∀ (r : Int32) (u : Wd), K r u → GW x p l e (rmd D MC MS) s m args below meth c nL Q (pc + 3) lo (.int r :: st) u i j) : GW x p l e (rmd D MC MS) s m args below meth c nL Q pc lo (.ref (adr x a0) :: st) w i j := g_callSi0 C (As := [.ref (adr x a0)]) (c_X9_canBeHeard h) (x_cwS C 1 LMX11_443 ⟨by decide, by decide, rfl⟩ hD (by decide)) rfl rfl hW hd hij k
def w_X11_heardTray (mc ms : Nat) (a0 : Nat) (a1 : Int32) (K : Nat → Wd → Prop) (X : String → Wd → Prop) (w : Wd) : Prop :=
  isK w a0 11 ∧ (2 ≤ mc ∧ 12 ≤ ms) ∧ w_X11_presentTray 2 12 a0 a1 (fun r2 w3 => w_X9_canBeHeard r2 (fun r5 w6 => ((r5 = 0 → (3 ≤ mc ∧ 18 ≤ ms) ∧ ∀ N9, wN w6 ≤ N9 → X "java/lang/IllegalArgumentException" (wJ w6 N9)) ∧ (¬ r5 = 0 → K r2 w6))) w3) X w
theorem c_X11_heardTray {x : xG} {l : Launch} (hl : l.stackTraces = false) {a0 : Nat} {a1 : Int32} {mc ms : Nat} {X : String → Wd → Prop} {K : Nat → Wd → Prop} {w : Wd} (h : w_X11_heardTray mc ms a0 a1 K X w) : vx_Met l yX11_heardTray (xws yX11_heardTray cX11_heardTray 3 (some (.object "SnoringWells$Tray"))) (rmd 8 mc ms) (xPc x [.ref (adr x a0), .int a1] w) (QcR x K) (XCx x X) mc ms (xA x) := by
  refine xMetX (by decide) (Nat.le_of_ble_eq_true rfl) (fun p e s m below meth c C hlk hr htab => ?_)
  show GW x p l e (rmd 8 mc ms) s m [.ref (adr x a0), .int a1].toArray below meth c 3 (vx_MQ below (QcR x K) (XCx x X) [.ref (adr x a0), .int a1].toArray s mc ms (xA x)) 0 [(0, .ref (adr x a0)), (1, .int a1)] [] w 0 0
  refine g_aload_n (pc := 0) C dX11_heardTray_0 (q := 0) rfl ?_
  refine g_iload_n (pc := 1) C dX11_heardTray_1 (q := 1) rfl ?_
  obtain ⟨k1, h⟩ := h
  obtain ⟨hb4, h⟩ := h
  refine mxX11_208 (pc := 2) C hl htab hlk k1 h (Nat.le_of_ble_eq_true rfl) (Nat.le_of_ble_eq_true rfl) hb4 dX11_heardTray_2 (fun r2 w3 h => ?_)
  refine g_astore_n (pc := 5) C dX11_heardTray_5 (Nat.le_of_ble_eq_true rfl) (lo' := [(2, .ref (adr x r2)), (0, .ref (adr x a0)), (1, .int a1)]) rfl ?_
  refine g_aload_n (pc := 6) C dX11_heardTray_6 (q := 0) rfl ?_
  refine miX11_443 (pc := 7) C h (Nat.le_of_ble_eq_true rfl) (Nat.le_of_ble_eq_true rfl) hb4 dX11_heardTray_7 (fun r5 w6 h => ?_)
  refine g_if_ne (pc := 10) C dX11_heardTray_10 (tgt := 24) rfl (fun z7 => ?_) (fun z7 => ?_)
  · replace h := h.2 z7
    refine g_aload_n (pc := 24) C dX11_heardTray_24 (q := 0) rfl ?_
    refine gx_ret ?_; exact g_rret (pc := 25) C hlk hr (Or.inl ⟨_, rfl⟩) hb4.1 hb4.2 dX11_heardTray_25 h
  · replace h := h.1 z7
    obtain ⟨hb8, h⟩ := h
    exact thr_IllegalArgumentException (pc := 13) C hl htab hlk (q := 29) (k0 := 29) rfl dX11_heardTray_13 dX11_heardTray_16 (Or.inr ⟨dX11_heardTray_17, dX11_heardTray_20, dX11_heardTray_23⟩) (Nat.le_of_ble_eq_true rfl) (Nat.le_of_ble_eq_true rfl) hb8 h
theorem maX11_99 (C : xC x p s m c cc nL args RX11) {a0 : Nat} {a1 : Int32} {K : Int32 → Wd → Prop} {D MC MS c0 s0 : Nat} (hq : isK w a0 7) (h : w_X7_readText c0 s0 a0 a1 K w) (hD : 213 + 1 ≤ D) (hW : (st.map fun v => v.category).sum ≤ 8) (hr : i + c0 ≤ MC ∧ j + s0 ≤ MS) (hd : decode cc pc = .ok (.invokevirtual 99, 3)) (k : ∀ (r : Int32) (u : Wd), K r u → GW x p l e (rmd D MC MS) s m args below meth c nL Q (pc + 3) lo (.int r :: st) u (i + c0) (j + s0)) : GW x p l e (rmd D MC MS) s m args below meth c nL Q pc lo (.int a1 :: .ref (adr x a0) :: st) w i j := g_callVi C (As := [.int a1]) (ci := 7) (c_X7_readText h) (x_cwV C 1 LMX11_99 ⟨rfl, by decide, by decide, rfl⟩ hD (by decide)) rfl hq (by decide) rfl rfl hW hd hr k
theorem miX11_110 (C : xC x p s m c cc nL args RX11) {a0 : Nat} {a1 : Nat} {K : Wd → Prop} {D MC MS : Nat} (hq : isK w a0 5) (h : w_X5_beginWith a0 a1 K w) (hD : 2 + 1 ≤ D) (hW : (st.map fun v => v.category).sum ≤ 8) (hij : i ≤ MC ∧ j ≤ MS) (hd : decode cc pc = .ok (.invokevirtual 110, 3)) (k : ∀ (u : Wd), K u → GW x p l e (rmd D MC MS) s m args below meth c nL Q (pc + 3) lo st u i j) : GW x p l e (rmd D MC MS) s m args below meth c nL Q pc lo (.ref (adr x a1) :: .ref (adr x a0) :: st) w i j := g_callVv0 C (As := [.ref (adr x a1)]) (ci := 5) (c_X5_beginWith h) (x_cwV C 1 LMX11_110 ⟨rfl, by decide, by decide, rfl⟩ hD (by decide)) rfl hq (by decide) rfl rfl hW hd hij k
def w_X11_hills (mc ms : Nat) (a0 : Nat) (a1 : Int32) (K : Int32 → Wd → Prop) (X : String → Wd → Prop) (w : Wd) : Prop :=
  isK w a0 11 ∧ isK w (wR w a0 4) 7 ∧ (1 ≤ mc ∧ 6 ≤ ms) ∧ w_X11_needWithin 1 6 a1 0 (wI w (wR w a0 4) 0) (fun w3 => isK w3 a0 11 ∧ isK w3 (wR w3 a0 4) 7 ∧ ∃ c10 s11, (1 + c10 ≤ mc ∧ 6 + s11 ≤ ms) ∧ w_X7_readText c10 s11 (wR w3 a0 4) a1 (fun r7 w8 => ((r7 = 0 → isK w8 a0 11 ∧ isK w8 (wR w8 a0 4) 7 ∧ K ((-10) - (wI w8 (wR w8 a0 4) 1)) w8) ∧ (¬ r7 = 0 → isK w8 a0 11 ∧ isK w8 (wR w8 a0 0) 5 ∧ isK w8 (wR w8 a0 4) 7 ∧ isK w8 (wR w8 (wR w8 a0 4) 3) 1 ∧ w_X5_beginWith (wR w8 a0 0) (wR w8 (wR w8 a0 4) 3) (fun w17 => isK w17 a0 11 ∧ isK w17 (wR w17 a0 4) 7 ∧ isK w17 (wR w17 (wR w17 a0 4) 3) 1 ∧ K (wI w17 (wR w17 (wR w17 a0 4) 3) 0) w17) w8))) w3) X w
theorem c_X11_hills {x : xG} {l : Launch} (hl : l.stackTraces = false) {a0 : Nat} {a1 : Int32} {mc ms : Nat} {X : String → Wd → Prop} {K : Int32 → Wd → Prop} {w : Wd} (h : w_X11_hills mc ms a0 a1 K X w) : vx_Met l yX11_hills (xws yX11_hills cX11_hills 2 (some .int)) (rmd 214 mc ms) (xPc x [.ref (adr x a0), .int a1] w) (QcI x K) (XCx x X) mc ms (xA x) := by
  refine xMetX (by decide) (Nat.le_of_ble_eq_true rfl) (fun p e s m below meth c C hlk hr htab => ?_)
  show GW x p l e (rmd 214 mc ms) s m [.ref (adr x a0), .int a1].toArray below meth c 2 (vx_MQ below (QcI x K) (XCx x X) [.ref (adr x a0), .int a1].toArray s mc ms (xA x)) 0 [(0, .ref (adr x a0)), (1, .int a1)] [] w 0 0
  refine g_iload_n (pc := 0) C dX11_hills_0 (q := 1) rfl ?_
  refine g_iconst (pc := 1) C dX11_hills_1 (v := 0) rfl ?_
  refine g_aload_n (pc := 2) C dX11_hills_2 (q := 0) rfl ?_
  obtain ⟨k1, h⟩ := h
  obtain ⟨k2, h⟩ := h
  refine gfX11_61 (pc := 3) C k1 (isK_ne k2) dX11_hills_3 ?_
  refine gfX11_87 (pc := 6) C k2 dX11_hills_6 ?_
  obtain ⟨hb4, h⟩ := h
  refine mxX11_95 (pc := 9) C hl htab hlk h (Nat.le_of_ble_eq_true rfl) (Nat.le_of_ble_eq_true rfl) hb4 dX11_hills_9 (fun w3 h => ?_)
  refine g_aload_n (pc := 12) C dX11_hills_12 (q := 0) rfl ?_
  obtain ⟨k5, h⟩ := h
  obtain ⟨k6, h⟩ := h
  refine gfX11_61 (pc := 13) C k5 (isK_ne k6) dX11_hills_13 ?_
  refine g_iload_n (pc := 16) C dX11_hills_16 (q := 1) rfl ?_
  obtain ⟨c10, s11, hb9, h⟩ := h
  refine maX11_99 (pc := 17) C k6 h (Nat.le_of_ble_eq_true rfl) (Nat.le_of_ble_eq_true rfl) hb9 dX11_hills_17 (fun r7 w8 h => ?_)
  refine g_if_ne (pc := 20) C dX11_hills_20 (tgt := 34) rfl (fun z12 => ?_) (fun z12 => ?_)
  · replace h := h.2 z12
    refine g_aload_n (pc := 34) C dX11_hills_34 (q := 0) rfl ?_
    obtain ⟨k13, h⟩ := h
    obtain ⟨k14, h⟩ := h
    refine gfX11_49 (pc := 35) C k13 (isK_ne k14) dX11_hills_35 ?_
    refine g_aload_n (pc := 38) C dX11_hills_38 (q := 0) rfl ?_
    obtain ⟨k15, h⟩ := h
    refine gfX11_61 (pc := 39) C k13 (isK_ne k15) dX11_hills_39 ?_
    obtain ⟨k16, h⟩ := h
    refine gfX11_106 (pc := 42) C k15 (isK_ne k16) dX11_hills_42 ?_
    refine miX11_110 (pc := 45) C k14 h (Nat.le_of_ble_eq_true rfl) (Nat.le_of_ble_eq_true rfl) hb9 dX11_hills_45 (fun w17 h => ?_)
    refine g_aload_n (pc := 48) C dX11_hills_48 (q := 0) rfl ?_
    obtain ⟨k18, h⟩ := h
    obtain ⟨k19, h⟩ := h
    refine gfX11_61 (pc := 49) C k18 (isK_ne k19) dX11_hills_49 ?_
    obtain ⟨k20, h⟩ := h
    refine gfX11_106 (pc := 52) C k19 (isK_ne k20) dX11_hills_52 ?_
    refine gfX11_113 (pc := 55) C k20 dX11_hills_55 ?_
    refine gx_ret ?_; exact g_iret (pc := 58) C hlk hr hb9.1 hb9.2 dX11_hills_58 h
  · replace h := h.1 z12
    refine g_bipush (pc := 23) C dX11_hills_23 (v := (-10)) rfl ?_
    refine g_aload_n (pc := 25) C dX11_hills_25 (q := 0) rfl ?_
    obtain ⟨k21, h⟩ := h
    obtain ⟨k22, h⟩ := h
    refine gfX11_61 (pc := 26) C k21 (isK_ne k22) dX11_hills_26 ?_
    refine gfX11_103 (pc := 29) C k22 dX11_hills_29 ?_
    refine g_isub (pc := 32) C dX11_hills_32 ?_
    refine gx_ret ?_; exact g_iret (pc := 33) C hlk hr hb9.1 hb9.2 dX11_hills_33 h
end ME
