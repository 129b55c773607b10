/-! methods: J6_bitCount_0f7a4, J6_numberOfTrailingZeros_0f7a4, J9_floorMod_7cf53, J9_max_7cf53, J9_max_f86c9, J9_min_7cf53, J9_min_f86c9, J13_bitCount_95d88, X12_wells, X12_allWells, X12_has, X12_areWoken, X12_phaseIn, X12_isUpIn, X12_upIn, X12_awake, X12_blames, X12_isDigit, X12_isLetter, X12_isSignByte, X12_see, X12_readsOn, X12_begins, X12_bound, X12_done, X12_isUp, X12_size, X12_wordOf, X12_isWoken, X12_wokenBy, X12_chainOf -/
section ME
variable {x : xG} {p : Program} {l : Launch} {e : Env} {R : Room} {s : State} {m : MethodId} {args : Array Value} {below : List Frame} {meth : Method} {c : Code} {Q : State → Prop} {cc : ByteArray} {nL : Nat} {pc : Nat} {lo : List (Nat × Value)} {st : List Value} {w : Wd} {i j : Nat}
def w_J6_bitCount_0f7a4 (a0 : Int32) (K : Int32 → Wd → Prop) (w : Wd) : Prop :=
  K ((((((((a0 - ((x_iushr a0 1) &&& 1431655765)) &&& 858993459) + ((x_iushr (a0 - ((x_iushr a0 1) &&& 1431655765)) 2) &&& 858993459)) + (x_iushr (((a0 - ((x_iushr a0 1) &&& 1431655765)) &&& 858993459) + ((x_iushr (a0 - ((x_iushr a0 1) &&& 1431655765)) 2) &&& 858993459)) 4)) &&& 252645135) + (x_iushr (((((a0 - ((x_iushr a0 1) &&& 1431655765)) &&& 858993459) + ((x_iushr (a0 - ((x_iushr a0 1) &&& 1431655765)) 2) &&& 858993459)) + (x_iushr (((a0 - ((x_iushr a0 1) &&& 1431655765)) &&& 858993459) + ((x_iushr (a0 - ((x_iushr a0 1) &&& 1431655765)) 2) &&& 858993459)) 4)) &&& 252645135) 8)) + (x_iushr ((((((a0 - ((x_iushr a0 1) &&& 1431655765)) &&& 858993459) + ((x_iushr (a0 - ((x_iushr a0 1) &&& 1431655765)) 2) &&& 858993459)) + (x_iushr (((a0 - ((x_iushr a0 1) &&& 1431655765)) &&& 858993459) + ((x_iushr (a0 - ((x_iushr a0 1) &&& 1431655765)) 2) &&& 858993459)) 4)) &&& 252645135) + (x_iushr (((((a0 - ((x_iushr a0 1) &&& 1431655765)) &&& 858993459) + ((x_iushr (a0 - ((x_iushr a0 1) &&& 1431655765)) 2) &&& 858993459)) + (x_iushr (((a0 - ((x_iushr a0 1) &&& 1431655765)) &&& 858993459) + ((x_iushr (a0 - ((x_iushr a0 1) &&& 1431655765)) 2) &&& 858993459)) 4)) &&& 252645135) 8)) 16)) &&& 63) w
theorem c_J6_bitCount_0f7a4 {x : xG} {l : Launch} {a0 : Int32} {K : Int32 → Wd → Prop} {w : Wd} (h : w_J6_bitCount_0f7a4 a0 K w) : Met l yJ6_bitCount_0f7a4 (xws yJ6_bitCount_0f7a4 cJ6_bitCount_0f7a4 1 (some .int)) (rmd 0 0 0) (xPc x [.int a0] w) (QcI x K) 0 0 (xA x) := by
  refine xMet (by decide) (Nat.le_of_ble_eq_true rfl) (fun p e s m below meth c C hlk hr _ => ?_)
  show GW x p l e (rmd 0 0 0) s m [.int a0].toArray below meth c 1 (QI x K below [.int a0].toArray s 0 0) 0 [(0, .int a0)] [] w 0 0
  refine g_iload_n (pc := 0) C dJ6_bitCount_0f7a4_0 (q := 0) rfl ?_
  refine g_iload_n (pc := 1) C dJ6_bitCount_0f7a4_1 (q := 0) rfl ?_
  refine g_iconst (pc := 2) C dJ6_bitCount_0f7a4_2 (v := 1) rfl ?_
  refine h_iushr (pc := 3) C dJ6_bitCount_0f7a4_3 ?_
  refine g_ldcw (pc := 4) C LCJ6_265 dJ6_bitCount_0f7a4_4 ?_
  refine g_iand (pc := 7) C dJ6_bitCount_0f7a4_7 ?_
  refine g_isub (pc := 8) C dJ6_bitCount_0f7a4_8 ?_
  refine g_istore_n (pc := 9) C dJ6_bitCount_0f7a4_9 (Nat.le_of_ble_eq_true rfl) (lo' := [(0, .int (a0 - ((x_iushr a0 1) &&& 1431655765)))]) rfl ?_
  refine g_iload_n (pc := 10) C dJ6_bitCount_0f7a4_10 (q := 0) rfl ?_
  refine g_ldcw (pc := 11) C LCJ6_266 dJ6_bitCount_0f7a4_11 ?_
  refine g_iand (pc := 14) C dJ6_bitCount_0f7a4_14 ?_
  refine g_iload_n (pc := 15) C dJ6_bitCount_0f7a4_15 (q := 0) rfl ?_
  refine g_iconst (pc := 16) C dJ6_bitCount_0f7a4_16 (v := 2) rfl ?_
  refine h_iushr (pc := 17) C dJ6_bitCount_0f7a4_17 ?_
  refine g_ldcw (pc := 18) C LCJ6_266 dJ6_bitCount_0f7a4_18 ?_
  refine g_iand (pc := 21) C dJ6_bitCount_0f7a4_21 ?_
  refine g_iadd (pc := 22) C dJ6_bitCount_0f7a4_22 ?_
  refine g_istore_n (pc := 23) C dJ6_bitCount_0f7a4_23 (Nat.le_of_ble_eq_true rfl) (lo' := [(0, .int (((a0 - ((x_iushr a0 1) &&& 1431655765)) &&& 858993459) + ((x_iushr (a0 - ((x_iushr a0 1) &&& 1431655765)) 2) &&& 858993459)))]) rfl ?_
  refine g_iload_n (pc := 24) C dJ6_bitCount_0f7a4_24 (q := 0) rfl ?_
  refine g_iload_n (pc := 25) C dJ6_bitCount_0f7a4_25 (q := 0) rfl ?_
  refine g_iconst (pc := 26) C dJ6_bitCount_0f7a4_26 (v := 4) rfl ?_
  refine h_iushr (pc := 27) C dJ6_bitCount_0f7a4_27 ?_
  refine g_iadd (pc := 28) C dJ6_bitCount_0f7a4_28 ?_
  refine g_ldcw (pc := 29) C LCJ6_267 dJ6_bitCount_0f7a4_29 ?_
  refine g_iand (pc := 32) C dJ6_bitCount_0f7a4_32 ?_
  refine g_istore_n (pc := 33) C dJ6_bitCount_0f7a4_33 (Nat.le_of_ble_eq_true rfl) (lo' := [(0, .int (((((a0 - ((x_iushr a0 1) &&& 1431655765)) &&& 858993459) + ((x_iushr (a0 - ((x_iushr a0 1) &&& 1431655765)) 2) &&& 858993459)) + (x_iushr (((a0 - ((x_iushr a0 1) &&& 1431655765)) &&& 858993459) + ((x_iushr (a0 - ((x_iushr a0 1) &&& 1431655765)) 2) &&& 858993459)) 4)) &&& 252645135))]) rfl ?_
  refine g_iload_n (pc := 34) C dJ6_bitCount_0f7a4_34 (q := 0) rfl ?_
  refine g_iload_n (pc := 35) C dJ6_bitCount_0f7a4_35 (q := 0) rfl ?_
  refine g_bipush (pc := 36) C dJ6_bitCount_0f7a4_36 (v := 8) rfl ?_
  refine h_iushr (pc := 38) C dJ6_bitCount_0f7a4_38 ?_
  refine g_iadd (pc := 39) C dJ6_bitCount_0f7a4_39 ?_
  refine g_istore_n (pc := 40) C dJ6_bitCount_0f7a4_40 (Nat.le_of_ble_eq_true rfl) (lo' := [(0, .int ((((((a0 - ((x_iushr a0 1) &&& 1431655765)) &&& 858993459) + ((x_iushr (a0 - ((x_iushr a0 1) &&& 1431655765)) 2) &&& 858993459)) + (x_iushr (((a0 - ((x_iushr a0 1) &&& 1431655765)) &&& 858993459) + ((x_iushr (a0 - ((x_iushr a0 1) &&& 1431655765)) 2) &&& 858993459)) 4)) &&& 252645135) + (x_iushr (((((a0 - ((x_iushr a0 1) &&& 1431655765)) &&& 858993459) + ((x_iushr (a0 - ((x_iushr a0 1) &&& 1431655765)) 2) &&& 858993459)) + (x_iushr (((a0 - ((x_iushr a0 1) &&& 1431655765)) &&& 858993459) + ((x_iushr (a0 - ((x_iushr a0 1) &&& 1431655765)) 2) &&& 858993459)) 4)) &&& 252645135) 8)))]) rfl ?_
  refine g_iload_n (pc := 41) C dJ6_bitCount_0f7a4_41 (q := 0) rfl ?_
  refine g_iload_n (pc := 42) C dJ6_bitCount_0f7a4_42 (q := 0) rfl ?_
  refine g_bipush (pc := 43) C dJ6_bitCount_0f7a4_43 (v := 16) rfl ?_
  refine h_iushr (pc := 45) C dJ6_bitCount_0f7a4_45 ?_
  refine g_iadd (pc := 46) C dJ6_bitCount_0f7a4_46 ?_
  refine g_istore_n (pc := 47) C dJ6_bitCount_0f7a4_47 (Nat.le_of_ble_eq_true rfl) (lo' := [(0, .int (((((((a0 - ((x_iushr a0 1) &&& 1431655765)) &&& 858993459) + ((x_iushr (a0 - ((x_iushr a0 1) &&& 1431655765)) 2) &&& 858993459)) + (x_iushr (((a0 - ((x_iushr a0 1) &&& 1431655765)) &&& 858993459) + ((x_iushr (a0 - ((x_iushr a0 1) &&& 1431655765)) 2) &&& 858993459)) 4)) &&& 252645135) + (x_iushr (((((a0 - ((x_iushr a0 1) &&& 1431655765)) &&& 858993459) + ((x_iushr (a0 - ((x_iushr a0 1) &&& 1431655765)) 2) &&& 858993459)) + (x_iushr (((a0 - ((x_iushr a0 1) &&& 1431655765)) &&& 858993459) + ((x_iushr (a0 - ((x_iushr a0 1) &&& 1431655765)) 2) &&& 858993459)) 4)) &&& 252645135) 8)) + (x_iushr ((((((a0 - ((x_iushr a0 1) &&& 1431655765)) &&& 858993459) + ((x_iushr (a0 - ((x_iushr a0 1) &&& 1431655765)) 2) &&& 858993459)) + (x_iushr (((a0 - ((x_iushr a0 1) &&& 1431655765)) &&& 858993459) + ((x_iushr (a0 - ((x_iushr a0 1) &&& 1431655765)) 2) &&& 858993459)) 4)) &&& 252645135) + (x_iushr (((((a0 - ((x_iushr a0 1) &&& 1431655765)) &&& 858993459) + ((x_iushr (a0 - ((x_iushr a0 1) &&& 1431655765)) 2) &&& 858993459)) + (x_iushr (((a0 - ((x_iushr a0 1) &&& 1431655765)) &&& 858993459) + ((x_iushr (a0 - ((x_iushr a0 1) &&& 1431655765)) 2) &&& 858993459)) 4)) &&& 252645135) 8)) 16)))]) rfl ?_
  refine g_iload_n (pc := 48) C dJ6_bitCount_0f7a4_48 (q := 0) rfl ?_
  refine g_bipush (pc := 49) C dJ6_bitCount_0f7a4_49 (v := 63) rfl ?_
  refine g_iand (pc := 51) C dJ6_bitCount_0f7a4_51 ?_
  exact g_iret (pc := 52) C hlk hr (Nat.le_refl _) (Nat.le_refl _) dJ6_bitCount_0f7a4_52 h
def j_J6_numberOfTrailingZeros_0f7a4_62  (K : Int32 → Wd → Prop) (a0 : Int32) (a1 : Int32) (w : Wd) : Prop :=
  ((a0 ≤ 4 → K (a1 + (x_iushr a0 1)) w) ∧ (¬ a0 ≤ 4 → K ((a1 + 2) + (x_iushr (x_iushr a0 2) 1)) w))
def j_J6_numberOfTrailingZeros_0f7a4_34  (K : Int32 → Wd → Prop) (a0 : Int32) (a1 : Int32) (w : Wd) : Prop :=
  ((a0 ≤ 256 → ((a0 ≤ 16 → j_J6_numberOfTrailingZeros_0f7a4_62 K a0 a1 w) ∧ (¬ a0 ≤ 16 → j_J6_numberOfTrailingZeros_0f7a4_62 K (x_iushr a0 4) (a1 + 4) w))) ∧ (¬ a0 ≤ 256 → (((x_iushr a0 8) ≤ 16 → j_J6_numberOfTrailingZeros_0f7a4_62 K (x_iushr a0 8) (a1 + 8) w) ∧ (¬ (x_iushr a0 8) ≤ 16 → j_J6_numberOfTrailingZeros_0f7a4_62 K (x_iushr (x_iushr a0 8) 4) ((a1 + 8) + 4) w))))
def w_J6_numberOfTrailingZeros_0f7a4 (a0 : Int32) (K : Int32 → Wd → Prop) (w : Wd) : Prop :=
  ((0 < ((a0 ^^^ (-1)) &&& (a0 - 1)) → ((((a0 ^^^ (-1)) &&& (a0 - 1)) ≤ 65536 → j_J6_numberOfTrailingZeros_0f7a4_34 K ((a0 ^^^ (-1)) &&& (a0 - 1)) 1 w) ∧ (¬ ((a0 ^^^ (-1)) &&& (a0 - 1)) ≤ 65536 → j_J6_numberOfTrailingZeros_0f7a4_34 K (x_iushr ((a0 ^^^ (-1)) &&& (a0 - 1)) 16) (1 + 16) w))) ∧ (¬ 0 < ((a0 ^^^ (-1)) &&& (a0 - 1)) → K (((a0 ^^^ (-1)) &&& (a0 - 1)) &&& 32) w))
theorem t_J6_numberOfTrailingZeros_0f7a4_62 (C : xC x p s m c cJ6_numberOfTrailingZeros_0f7a4 2 args RJ6) (hlk : meth.locks = false) (hr : meth.sig.returnType = some .int) {K : Int32 → Wd → Prop}   (a0 : Int32) (a1 : Int32) (w : Wd) (h : j_J6_numberOfTrailingZeros_0f7a4_62 K a0 a1 w) : GW x p l e (rmd 0 0 0) s m args below meth c 2 (QI x K below args s 0 0) 62 [(0, .int a0), (1, .int a1)] [] w 0 0 := by
  refine g_iload_n (pc := 62) C dJ6_numberOfTrailingZeros_0f7a4_62 (q := 0) rfl ?_
  refine g_iconst (pc := 63) C dJ6_numberOfTrailingZeros_0f7a4_63 (v := 4) rfl ?_
  refine g_icmp_le (pc := 64) C dJ6_numberOfTrailingZeros_0f7a4_64 (tgt := 74) rfl (fun z5 => ?_) (fun z5 => ?_)
  · replace h := h.1 z5
    refine g_iload_n (pc := 74) C dJ6_numberOfTrailingZeros_0f7a4_74 (q := 1) rfl ?_
    refine g_iload_n (pc := 75) C dJ6_numberOfTrailingZeros_0f7a4_75 (q := 0) rfl ?_
    refine g_iconst (pc := 76) C dJ6_numberOfTrailingZeros_0f7a4_76 (v := 1) rfl ?_
    refine h_iushr (pc := 77) C dJ6_numberOfTrailingZeros_0f7a4_77 ?_
    refine g_iadd (pc := 78) C dJ6_numberOfTrailingZeros_0f7a4_78 ?_
    exact g_iret (pc := 79) C hlk hr (Nat.le_refl _) (Nat.le_refl _) dJ6_numberOfTrailingZeros_0f7a4_79 h
  · replace h := h.2 z5
    refine g_iinc (pc := 67) C dJ6_numberOfTrailingZeros_0f7a4_67 (q := 1) rfl (v2 := a1 + 2) rfl (Nat.le_of_ble_eq_true rfl) (lo' := [(1, .int (a1 + 2)), (0, .int a0)]) rfl ?_
    refine g_iload_n (pc := 70) C dJ6_numberOfTrailingZeros_0f7a4_70 (q := 1) rfl ?_
    refine g_iconst (pc := 71) C dJ6_numberOfTrailingZeros_0f7a4_71 (v := 2) rfl ?_
    refine h_iushr (pc := 72) C dJ6_numberOfTrailingZeros_0f7a4_72 ?_
    refine g_istore_n (pc := 73) C dJ6_numberOfTrailingZeros_0f7a4_73 (Nat.le_of_ble_eq_true rfl) (lo' := [(0, .int (x_iushr a0 2)), (1, .int (a1 + 2))]) rfl ?_
    refine g_iload_n (pc := 74) C dJ6_numberOfTrailingZeros_0f7a4_74 (q := 1) rfl ?_
    refine g_iload_n (pc := 75) C dJ6_numberOfTrailingZeros_0f7a4_75 (q := 0) rfl ?_
    refine g_iconst (pc := 76) C dJ6_numberOfTrailingZeros_0f7a4_76 (v := 1) rfl ?_
    refine h_iushr (pc := 77) C dJ6_numberOfTrailingZeros_0f7a4_77 ?_
    refine g_iadd (pc := 78) C dJ6_numberOfTrailingZeros_0f7a4_78 ?_
    exact g_iret (pc := 79) C hlk hr (Nat.le_refl _) (Nat.le_refl _) dJ6_numberOfTrailingZeros_0f7a4_79 h
theorem t_J6_numberOfTrailingZeros_0f7a4_34 (C : xC x p s m c cJ6_numberOfTrailingZeros_0f7a4 2 args RJ6) (hlk : meth.locks = false) (hr : meth.sig.returnType = some .int) {K : Int32 → Wd → Prop}   (a0 : Int32) (a1 : Int32) (w : Wd) (h : j_J6_numberOfTrailingZeros_0f7a4_34 K a0 a1 w) : GW x p l e (rmd 0 0 0) s m args below meth c 2 (QI x K below args s 0 0) 34 [(0, .int a0), (1, .int a1)] [] w 0 0 := by
  refine g_iload_n (pc := 34) C dJ6_numberOfTrailingZeros_0f7a4_34 (q := 0) rfl ?_
  refine g_sipush (pc := 35) C dJ6_numberOfTrailingZeros_0f7a4_35 (v := 256) rfl ?_
  refine g_icmp_le (pc := 38) C dJ6_numberOfTrailingZeros_0f7a4_38 (tgt := 49) rfl (fun z3 => ?_) (fun z3 => ?_)
  · replace h := h.1 z3
    refine g_iload_n (pc := 49) C dJ6_numberOfTrailingZeros_0f7a4_49 (q := 0) rfl ?_
    refine g_bipush (pc := 50) C dJ6_numberOfTrailingZeros_0f7a4_50 (v := 16) rfl ?_
    refine g_icmp_le (pc := 52) C dJ6_numberOfTrailingZeros_0f7a4_52 (tgt := 62) rfl (fun z4 => ?_) (fun z4 => ?_)
    · replace h := h.1 z4
      exact t_J6_numberOfTrailingZeros_0f7a4_62 C hlk hr  _ _ _ h
    · replace h := h.2 z4
      refine g_iinc (pc := 55) C dJ6_numberOfTrailingZeros_0f7a4_55 (q := 1) rfl (v2 := a1 + 4) rfl (Nat.le_of_ble_eq_true rfl) (lo' := [(1, .int (a1 + 4)), (0, .int a0)]) rfl ?_
      refine g_iload_n (pc := 58) C dJ6_numberOfTrailingZeros_0f7a4_58 (q := 1) rfl ?_
      refine g_iconst (pc := 59) C dJ6_numberOfTrailingZeros_0f7a4_59 (v := 4) rfl ?_
      refine h_iushr (pc := 60) C dJ6_numberOfTrailingZeros_0f7a4_60 ?_
      refine g_istore_n (pc := 61) C dJ6_numberOfTrailingZeros_0f7a4_61 (Nat.le_of_ble_eq_true rfl) (lo' := [(0, .int (x_iushr a0 4)), (1, .int (a1 + 4))]) rfl ?_
      exact t_J6_numberOfTrailingZeros_0f7a4_62 C hlk hr  _ _ _ h
  · replace h := h.2 z3
    refine g_iinc (pc := 41) C dJ6_numberOfTrailingZeros_0f7a4_41 (q := 1) rfl (v2 := a1 + 8) rfl (Nat.le_of_ble_eq_true rfl) (lo' := [(1, .int (a1 + 8)), (0, .int a0)]) rfl ?_
    refine g_iload_n (pc := 44) C dJ6_numberOfTrailingZeros_0f7a4_44 (q := 1) rfl ?_
    refine g_bipush (pc := 45) C dJ6_numberOfTrailingZeros_0f7a4_45 (v := 8) rfl ?_
    refine h_iushr (pc := 47) C dJ6_numberOfTrailingZeros_0f7a4_47 ?_
    refine g_istore_n (pc := 48) C dJ6_numberOfTrailingZeros_0f7a4_48 (Nat.le_of_ble_eq_true rfl) (lo' := [(0, .int (x_iushr a0 8)), (1, .int (a1 + 8))]) rfl ?_
    refine g_iload_n (pc := 49) C dJ6_numberOfTrailingZeros_0f7a4_49 (q := 0) rfl ?_
    refine g_bipush (pc := 50) C dJ6_numberOfTrailingZeros_0f7a4_50 (v := 16) rfl ?_
    refine g_icmp_le (pc := 52) C dJ6_numberOfTrailingZeros_0f7a4_52 (tgt := 62) rfl (fun z6 => ?_) (fun z6 => ?_)
    · replace h := h.1 z6
      exact t_J6_numberOfTrailingZeros_0f7a4_62 C hlk hr  _ _ _ h
    · replace h := h.2 z6
      refine g_iinc (pc := 55) C dJ6_numberOfTrailingZeros_0f7a4_55 (q := 1) rfl (v2 := (a1 + 8) + 4) rfl (Nat.le_of_ble_eq_true rfl) (lo' := [(1, .int ((a1 + 8) + 4)), (0, .int (x_iushr a0 8))]) rfl ?_
      refine g_iload_n (pc := 58) C dJ6_numberOfTrailingZeros_0f7a4_58 (q := 1) rfl ?_
      refine g_iconst (pc := 59) C dJ6_numberOfTrailingZeros_0f7a4_59 (v := 4) rfl ?_
      refine h_iushr (pc := 60) C dJ6_numberOfTrailingZeros_0f7a4_60 ?_
      refine g_istore_n (pc := 61) C dJ6_numberOfTrailingZeros_0f7a4_61 (Nat.le_of_ble_eq_true rfl) (lo' := [(0, .int (x_iushr (x_iushr a0 8) 4)), (1, .int ((a1 + 8) + 4))]) rfl ?_
      exact t_J6_numberOfTrailingZeros_0f7a4_62 C hlk hr  _ _ _ h
theorem c_J6_numberOfTrailingZeros_0f7a4 {x : xG} {l : Launch} {a0 : Int32} {K : Int32 → Wd → Prop} {w : Wd} (h : w_J6_numberOfTrailingZeros_0f7a4 a0 K w) : Met l yJ6_numberOfTrailingZeros_0f7a4 (xws yJ6_numberOfTrailingZeros_0f7a4 cJ6_numberOfTrailingZeros_0f7a4 2 (some .int)) (rmd 0 0 0) (xPc x [.int a0] w) (QcI x K) 0 0 (xA x) := by
  refine xMet (by decide) (Nat.le_of_ble_eq_true rfl) (fun p e s m below meth c C hlk hr _ => ?_)
  show GW x p l e (rmd 0 0 0) s m [.int a0].toArray below meth c 2 (QI x K below [.int a0].toArray s 0 0) 0 [(0, .int a0)] [] w 0 0
  refine g_iload_n (pc := 0) C dJ6_numberOfTrailingZeros_0f7a4_0 (q := 0) rfl ?_
  refine g_iconst (pc := 1) C dJ6_numberOfTrailingZeros_0f7a4_1 (v := (-1)) rfl ?_
  refine g_ixor (pc := 2) C dJ6_numberOfTrailingZeros_0f7a4_2 ?_
  refine g_iload_n (pc := 3) C dJ6_numberOfTrailingZeros_0f7a4_3 (q := 0) rfl ?_
  refine g_iconst (pc := 4) C dJ6_numberOfTrailingZeros_0f7a4_4 (v := 1) rfl ?_
  refine g_isub (pc := 5) C dJ6_numberOfTrailingZeros_0f7a4_5 ?_
  refine g_iand (pc := 6) C dJ6_numberOfTrailingZeros_0f7a4_6 ?_
  refine g_istore_n (pc := 7) C dJ6_numberOfTrailingZeros_0f7a4_7 (Nat.le_of_ble_eq_true rfl) (lo' := [(0, .int ((a0 ^^^ (-1)) &&& (a0 - 1)))]) rfl ?_
  refine g_iload_n (pc := 8) C dJ6_numberOfTrailingZeros_0f7a4_8 (q := 0) rfl ?_
  refine g_if_gt (pc := 9) C dJ6_numberOfTrailingZeros_0f7a4_9 (tgt := 17) rfl (fun z1 => ?_) (fun z1 => ?_)
  · replace h := h.1 z1
    refine g_iconst (pc := 17) C dJ6_numberOfTrailingZeros_0f7a4_17 (v := 1) rfl ?_
    refine g_istore_n (pc := 18) C dJ6_numberOfTrailingZeros_0f7a4_18 (Nat.le_of_ble_eq_true rfl) (lo' := [(1, .int 1), (0, .int ((a0 ^^^ (-1)) &&& (a0 - 1)))]) rfl ?_
    refine g_iload_n (pc := 19) C dJ6_numberOfTrailingZeros_0f7a4_19 (q := 1) rfl ?_
    refine g_ldcw (pc := 20) C LCJ6_264 dJ6_numberOfTrailingZeros_0f7a4_20 ?_
    refine g_icmp_le (pc := 23) C dJ6_numberOfTrailingZeros_0f7a4_23 (tgt := 34) rfl (fun z2 => ?_) (fun z2 => ?_)
    · replace h := h.1 z2
      refine g_sub [1, 0] rfl ?_
      exact t_J6_numberOfTrailingZeros_0f7a4_34 C hlk hr  _ _ _ h
    · replace h := h.2 z2
      refine g_iinc (pc := 26) C dJ6_numberOfTrailingZeros_0f7a4_26 (q := 0) rfl (v2 := 1 + 16) rfl (Nat.le_of_ble_eq_true rfl) (lo' := [(1, .int (1 + 16)), (0, .int ((a0 ^^^ (-1)) &&& (a0 - 1)))]) rfl ?_
      refine g_iload_n (pc := 29) C dJ6_numberOfTrailingZeros_0f7a4_29 (q := 1) rfl ?_
      refine g_bipush (pc := 30) C dJ6_numberOfTrailingZeros_0f7a4_30 (v := 16) rfl ?_
      refine h_iushr (pc := 32) C dJ6_numberOfTrailingZeros_0f7a4_32 ?_
      refine g_istore_n (pc := 33) C dJ6_numberOfTrailingZeros_0f7a4_33 (Nat.le_of_ble_eq_true rfl) (lo' := [(0, .int (x_iushr ((a0 ^^^ (-1)) &&& (a0 - 1)) 16)), (1, .int (1 + 16))]) rfl ?_
      exact t_J6_numberOfTrailingZeros_0f7a4_34 C hlk hr  _ _ _ h
  · replace h := h.2 z1
    refine g_iload_n (pc := 12) C dJ6_numberOfTrailingZeros_0f7a4_12 (q := 0) rfl ?_
    refine g_bipush (pc := 13) C dJ6_numberOfTrailingZeros_0f7a4_13 (v := 32) rfl ?_
    refine g_iand (pc := 15) C dJ6_numberOfTrailingZeros_0f7a4_15 ?_
    exact g_iret (pc := 16) C hlk hr (Nat.le_refl _) (Nat.le_refl _) dJ6_numberOfTrailingZeros_0f7a4_16 h
def w_J9_floorMod_7cf53 (a0 : Int32) (a1 : Int32) (K : Int32 → Wd → Prop) (w : Wd) : Prop :=
  ¬ a1 = 0 ∧ ((0 ≤ (a0 ^^^ a1) → K (x_irem a0 a1) w) ∧ (¬ 0 ≤ (a0 ^^^ a1) → (((x_irem a0 a1) = 0 → K (x_irem a0 a1) w) ∧ (¬ (x_irem a0 a1) = 0 → K ((x_irem a0 a1) + a1) w))))
theorem c_J9_floorMod_7cf53 {x : xG} {l : Launch} {a0 : Int32} {a1 : Int32} {K : Int32 → Wd → Prop} {w : Wd} (h : w_J9_floorMod_7cf53 a0 a1 K w) : Met l yJ9_floorMod_7cf53 (xws yJ9_floorMod_7cf53 cJ9_floorMod_7cf53 3 (some .int)) (rmd 0 0 0) (xPc x [.int a0, .int a1] w) (QcI x K) 0 0 (xA x) := by
  refine xMetF (by decide +kernel) (Nat.le_of_ble_eq_true rfl) (fun p e s m below meth c C hlk hr _ => ?_)
  show GW x p l e (rmd 0 0 0) s m [.int a0, .int a1].toArray below meth c 3 (QI x K below [.int a0, .int a1].toArray s 0 0) 0 [(0, .int a0), (1, .int a1)] [] w 0 0
  refine g_iload_n (pc := 0) C dJ9_floorMod_7cf53_0 (q := 0) rfl ?_
  refine g_iload_n (pc := 1) C dJ9_floorMod_7cf53_1 (q := 1) rfl ?_
  obtain ⟨k1, h⟩ := h
  refine h_irem (pc := 2) C dJ9_floorMod_7cf53_2 k1 ?_
  refine g_istore_n (pc := 3) C dJ9_floorMod_7cf53_3 (Nat.le_of_ble_eq_true rfl) (lo' := [(2, .int (x_irem a0 a1)), (0, .int a0), (1, .int a1)]) rfl ?_
  refine g_iload_n (pc := 4) C dJ9_floorMod_7cf53_4 (q := 1) rfl ?_
  refine g_iload_n (pc := 5) C dJ9_floorMod_7cf53_5 (q := 2) rfl ?_
  refine g_ixor (pc := 6) C dJ9_floorMod_7cf53_6 ?_
  refine g_if_ge (pc := 7) C dJ9_floorMod_7cf53_7 (tgt := 18) rfl (fun z2 => ?_) (fun z2 => ?_)
  · replace h := h.1 z2
    refine g_iload_n (pc := 18) C dJ9_floorMod_7cf53_18 (q := 0) rfl ?_
    exact g_iret (pc := 19) C hlk hr (Nat.le_refl _) (Nat.le_refl _) dJ9_floorMod_7cf53_19 h
  · replace h := h.2 z2
    refine g_iload_n (pc := 10) C dJ9_floorMod_7cf53_10 (q := 0) rfl ?_
    refine g_if_eq (pc := 11) C dJ9_floorMod_7cf53_11 (tgt := 18) rfl (fun z3 => ?_) (fun z3 => ?_)
    · replace h := h.1 z3
      refine g_iload_n (pc := 18) C dJ9_floorMod_7cf53_18 (q := 0) rfl ?_
      exact g_iret (pc := 19) C hlk hr (Nat.le_refl _) (Nat.le_refl _) dJ9_floorMod_7cf53_19 h
    · replace h := h.2 z3
      refine g_iload_n (pc := 14) C dJ9_floorMod_7cf53_14 (q := 0) rfl ?_
      refine g_iload_n (pc := 15) C dJ9_floorMod_7cf53_15 (q := 2) rfl ?_
      refine g_iadd (pc := 16) C dJ9_floorMod_7cf53_16 ?_
      exact g_iret (pc := 17) C hlk hr (Nat.le_refl _) (Nat.le_refl _) dJ9_floorMod_7cf53_17 h
def w_J9_max_7cf53 (a0 : Int32) (a1 : Int32) (K : Int32 → Wd → Prop) (w : Wd) : Prop :=
  ((a0 < a1 → K a1 w) ∧ (¬ a0 < a1 → K a0 w))
theorem c_J9_max_7cf53 {x : xG} {l : Launch} {a0 : Int32} {a1 : Int32} {K : Int32 → Wd → Prop} {w : Wd} (h : w_J9_max_7cf53 a0 a1 K w) : Met l yJ9_max_7cf53 (xws yJ9_max_7cf53 cJ9_max_7cf53 2 (some .int)) (rmd 0 0 0) (xPc x [.int a0, .int a1] w) (QcI x K) 0 0 (xA x) := by
  refine xMetF (by decide +kernel) (Nat.le_of_ble_eq_true rfl) (fun p e s m below meth c C hlk hr _ => ?_)
  show GW x p l e (rmd 0 0 0) s m [.int a0, .int a1].toArray below meth c 2 (QI x K below [.int a0, .int a1].toArray s 0 0) 0 [(0, .int a0), (1, .int a1)] [] w 0 0
  refine g_iload_n (pc := 0) C dJ9_max_7cf53_0 (q := 0) rfl ?_
  refine g_iload_n (pc := 1) C dJ9_max_7cf53_1 (q := 1) rfl ?_
  refine g_icmp_lt (pc := 2) C dJ9_max_7cf53_2 (tgt := 9) rfl (fun z1 => ?_) (fun z1 => ?_)
  · replace h := h.1 z1
    refine g_iload_n (pc := 9) C dJ9_max_7cf53_9 (q := 1) rfl ?_
    exact g_iret (pc := 10) C hlk hr (Nat.le_refl _) (Nat.le_refl _) dJ9_max_7cf53_10 h
  · replace h := h.2 z1
    refine g_iload_n (pc := 5) C dJ9_max_7cf53_5 (q := 0) rfl ?_
    refine g_goto (pc := 6) C dJ9_max_7cf53_6 (tgt := 10) rfl ?_
    exact g_iret (pc := 10) C hlk hr (Nat.le_refl _) (Nat.le_refl _) dJ9_max_7cf53_10 h
def w_J9_max_f86c9 (a0 : Int64) (a2 : Int64) (K : Int64 → Wd → Prop) (w : Wd) : Prop :=
  (((lg_cmp a0 a2) < 0 → K a2 w) ∧ (¬ (lg_cmp a0 a2) < 0 → K a0 w))
theorem c_J9_max_f86c9 {x : xG} {l : Launch} {a0 : Int64} {a2 : Int64} {K : Int64 → Wd → Prop} {w : Wd} (h : w_J9_max_f86c9 a0 a2 K w) : Met l yJ9_max_f86c9 (xws yJ9_max_f86c9 cJ9_max_f86c9 4 (some .long)) (rmd 0 0 0) (xPc x [.long a0, .long a2] w) (QcL x K) 0 0 (xA x) := by
  refine xMetF (by decide +kernel) (Nat.le_of_ble_eq_true rfl) (fun p e s m below meth c C hlk hr _ => ?_)
  show GW x p l e (rmd 0 0 0) s m [.long a0, .long a2].toArray below meth c 4 (QL x K below [.long a0, .long a2].toArray s 0 0) 0 [(0, .long a0), (2, .long a2)] [] w 0 0
  refine g_lload_n (pc := 0) C dJ9_max_f86c9_0 (q := 0) rfl ?_
  refine g_lload_n (pc := 1) C dJ9_max_f86c9_1 (q := 1) rfl ?_
  refine g_lcmp (pc := 2) C dJ9_max_f86c9_2 ?_
  refine g_if_lt (pc := 3) C dJ9_max_f86c9_3 (tgt := 10) rfl (fun z1 => ?_) (fun z1 => ?_)
  · replace h := h.1 z1
    refine g_lload_n (pc := 10) C dJ9_max_f86c9_10 (q := 1) rfl ?_
    exact g_lret (pc := 11) C hlk hr (Nat.le_refl _) (Nat.le_refl _) dJ9_max_f86c9_11 h
  · replace h := h.2 z1
    refine g_lload_n (pc := 6) C dJ9_max_f86c9_6 (q := 0) rfl ?_
    refine g_goto (pc := 7) C dJ9_max_f86c9_7 (tgt := 11) rfl ?_
    exact g_lret (pc := 11) C hlk hr (Nat.le_refl _) (Nat.le_refl _) dJ9_max_f86c9_11 h
def w_J9_min_7cf53 (a0 : Int32) (a1 : Int32) (K : Int32 → Wd → Prop) (w : Wd) : Prop :=
  ((a1 < a0 → K a1 w) ∧ (¬ a1 < a0 → K a0 w))
theorem c_J9_min_7cf53 {x : xG} {l : Launch} {a0 : Int32} {a1 : Int32} {K : Int32 → Wd → Prop} {w : Wd} (h : w_J9_min_7cf53 a0 a1 K w) : Met l yJ9_min_7cf53 (xws yJ9_min_7cf53 cJ9_min_7cf53 2 (some .int)) (rmd 0 0 0) (xPc x [.int a0, .int a1] w) (QcI x K) 0 0 (xA x) := by
  refine xMetF (by decide +kernel) (Nat.le_of_ble_eq_true rfl) (fun p e s m below meth c C hlk hr _ => ?_)
  show GW x p l e (rmd 0 0 0) s m [.int a0, .int a1].toArray below meth c 2 (QI x K below [.int a0, .int a1].toArray s 0 0) 0 [(0, .int a0), (1, .int a1)] [] w 0 0
  refine g_iload_n (pc := 0) C dJ9_min_7cf53_0 (q := 0) rfl ?_
  refine g_iload_n (pc := 1) C dJ9_min_7cf53_1 (q := 1) rfl ?_
  refine g_icmp_gt (pc := 2) C dJ9_min_7cf53_2 (tgt := 9) rfl (fun z1 => ?_) (fun z1 => ?_)
  · replace h := h.1 z1
    refine g_iload_n (pc := 9) C dJ9_min_7cf53_9 (q := 1) rfl ?_
    exact g_iret (pc := 10) C hlk hr (Nat.le_refl _) (Nat.le_refl _) dJ9_min_7cf53_10 h
  · replace h := h.2 z1
    refine g_iload_n (pc := 5) C dJ9_min_7cf53_5 (q := 0) rfl ?_
    refine g_goto (pc := 6) C dJ9_min_7cf53_6 (tgt := 10) rfl ?_
    exact g_iret (pc := 10) C hlk hr (Nat.le_refl _) (Nat.le_refl _) dJ9_min_7cf53_10 h
def w_J9_min_f86c9 (a0 : Int64) (a2 : Int64) (K : Int64 → Wd → Prop) (w : Wd) : Prop :=
  ((0 < (lg_cmp a0 a2) → K a2 w) ∧ (¬ 0 < (lg_cmp a0 a2) → K a0 w))
theorem c_J9_min_f86c9 {x : xG} {l : Launch} {a0 : Int64} {a2 : Int64} {K : Int64 → Wd → Prop} {w : Wd} (h : w_J9_min_f86c9 a0 a2 K w) : Met l yJ9_min_f86c9 (xws yJ9_min_f86c9 cJ9_min_f86c9 4 (some .long)) (rmd 0 0 0) (xPc x [.long a0, .long a2] w) (QcL x K) 0 0 (xA x) := by
  refine xMetF (by decide +kernel) (Nat.le_of_ble_eq_true rfl) (fun p e s m below meth c C hlk hr _ => ?_)
  show GW x p l e (rmd 0 0 0) s m [.long a0, .long a2].toArray below meth c 4 (QL x K below [.long a0, .long a2].toArray s 0 0) 0 [(0, .long a0), (2, .long a2)] [] w 0 0
  refine g_lload_n (pc := 0) C dJ9_min_f86c9_0 (q := 0) rfl ?_
  refine g_lload_n (pc := 1) C dJ9_min_f86c9_1 (q := 1) rfl ?_
  refine g_lcmp (pc := 2) C dJ9_min_f86c9_2 ?_
  refine g_if_gt (pc := 3) C dJ9_min_f86c9_3 (tgt := 10) rfl (fun z1 => ?_) (fun z1 => ?_)
  · replace h := h.1 z1
    refine g_lload_n (pc := 10) C dJ9_min_f86c9_10 (q := 1) rfl ?_
    exact g_lret (pc := 11) C hlk hr (Nat.le_refl _) (Nat.le_refl _) dJ9_min_f86c9_11 h
  · replace h := h.2 z1
    refine g_lload_n (pc := 6) C dJ9_min_f86c9_6 (q := 0) rfl ?_
    refine g_goto (pc := 7) C dJ9_min_f86c9_7 (tgt := 11) rfl ?_
    exact g_lret (pc := 11) C hlk hr (Nat.le_refl _) (Nat.le_refl _) dJ9_min_f86c9_11 h
def w_J13_bitCount_95d88 (a0 : Int64) (K : Int32 → Wd → Prop) (w : Wd) : Prop :=
  K ((((((((((a0 - ((x_lushr a0 1) &&& 6148914691236517205)) &&& 3689348814741910323) + ((x_lushr (a0 - ((x_lushr a0 1) &&& 6148914691236517205)) 2) &&& 3689348814741910323)) + (x_lushr (((a0 - ((x_lushr a0 1) &&& 6148914691236517205)) &&& 3689348814741910323) + ((x_lushr (a0 - ((x_lushr a0 1) &&& 6148914691236517205)) 2) &&& 3689348814741910323)) 4)) &&& 1085102592571150095) + (x_lushr (((((a0 - ((x_lushr a0 1) &&& 6148914691236517205)) &&& 3689348814741910323) + ((x_lushr (a0 - ((x_lushr a0 1) &&& 6148914691236517205)) 2) &&& 3689348814741910323)) + (x_lushr (((a0 - ((x_lushr a0 1) &&& 6148914691236517205)) &&& 3689348814741910323) + ((x_lushr (a0 - ((x_lushr a0 1) &&& 6148914691236517205)) 2) &&& 3689348814741910323)) 4)) &&& 1085102592571150095) 8)) + (x_lushr ((((((a0 - ((x_lushr a0 1) &&& 6148914691236517205)) &&& 3689348814741910323) + ((x_lushr (a0 - ((x_lushr a0 1) &&& 6148914691236517205)) 2) &&& 3689348814741910323)) + (x_lushr (((a0 - ((x_lushr a0 1) &&& 6148914691236517205)) &&& 3689348814741910323) + ((x_lushr (a0 - ((x_lushr a0 1) &&& 6148914691236517205)) 2) &&& 3689348814741910323)) 4)) &&& 1085102592571150095) + (x_lushr (((((a0 - ((x_lushr a0 1) &&& 6148914691236517205)) &&& 3689348814741910323) + ((x_lushr (a0 - ((x_lushr a0 1) &&& 6148914691236517205)) 2) &&& 3689348814741910323)) + (x_lushr (((a0 - ((x_lushr a0 1) &&& 6148914691236517205)) &&& 3689348814741910323) + ((x_lushr (a0 - ((x_lushr a0 1) &&& 6148914691236517205)) 2) &&& 3689348814741910323)) 4)) &&& 1085102592571150095) 8)) 16)) + (x_lushr (((((((a0 - ((x_lushr a0 1) &&& 6148914691236517205)) &&& 3689348814741910323) + ((x_lushr (a0 - ((x_lushr a0 1) &&& 6148914691236517205)) 2) &&& 3689348814741910323)) + (x_lushr (((a0 - ((x_lushr a0 1) &&& 6148914691236517205)) &&& 3689348814741910323) + ((x_lushr (a0 - ((x_lushr a0 1) &&& 6148914691236517205)) 2) &&& 3689348814741910323)) 4)) &&& 1085102592571150095) + (x_lushr (((((a0 - ((x_lushr a0 1) &&& 6148914691236517205)) &&& 3689348814741910323) + ((x_lushr (a0 - ((x_lushr a0 1) &&& 6148914691236517205)) 2) &&& 3689348814741910323)) + (x_lushr (((a0 - ((x_lushr a0 1) &&& 6148914691236517205)) &&& 3689348814741910323) + ((x_lushr (a0 - ((x_lushr a0 1) &&& 6148914691236517205)) 2) &&& 3689348814741910323)) 4)) &&& 1085102592571150095) 8)) + (x_lushr ((((((a0 - ((x_lushr a0 1) &&& 6148914691236517205)) &&& 3689348814741910323) + ((x_lushr (a0 - ((x_lushr a0 1) &&& 6148914691236517205)) 2) &&& 3689348814741910323)) + (x_lushr (((a0 - ((x_lushr a0 1) &&& 6148914691236517205)) &&& 3689348814741910323) + ((x_lushr (a0 - ((x_lushr a0 1) &&& 6148914691236517205)) 2) &&& 3689348814741910323)) 4)) &&& 1085102592571150095) + (x_lushr (((((a0 - ((x_lushr a0 1) &&& 6148914691236517205)) &&& 3689348814741910323) + ((x_lushr (a0 - ((x_lushr a0 1) &&& 6148914691236517205)) 2) &&& 3689348814741910323)) + (x_lushr (((a0 - ((x_lushr a0 1) &&& 6148914691236517205)) &&& 3689348814741910323) + ((x_lushr (a0 - ((x_lushr a0 1) &&& 6148914691236517205)) 2) &&& 3689348814741910323)) 4)) &&& 1085102592571150095) 8)) 16)) 32)).toInt32) &&& 127) w
theorem c_J13_bitCount_95d88 {x : xG} {l : Launch} {a0 : Int64} {K : Int32 → Wd → Prop} {w : Wd} (h : w_J13_bitCount_95d88 a0 K w) : Met l yJ13_bitCount_95d88 (xws yJ13_bitCount_95d88 cJ13_bitCount_95d88 2 (some .int)) (rmd 0 0 0) (xPc x [.long a0] w) (QcI x K) 0 0 (xA x) := by
  refine xMet (by decide) (Nat.le_of_ble_eq_true rfl) (fun p e s m below meth c C hlk hr _ => ?_)
  show GW x p l e (rmd 0 0 0) s m [.long a0].toArray below meth c 2 (QI x K below [.long a0].toArray s 0 0) 0 [(0, .long a0)] [] w 0 0
  refine g_lload_n (pc := 0) C dJ13_bitCount_95d88_0 (q := 0) rfl ?_
  refine g_lload_n (pc := 1) C dJ13_bitCount_95d88_1 (q := 0) rfl ?_
  refine g_iconst (pc := 2) C dJ13_bitCount_95d88_2 (v := 1) rfl ?_
  refine h_lushr (pc := 3) C dJ13_bitCount_95d88_3 ?_
  refine g_ldc2 (pc := 4) C LCJ13_314 dJ13_bitCount_95d88_4 ?_
  refine g_land (pc := 7) C dJ13_bitCount_95d88_7 ?_
  refine g_lsub (pc := 8) C dJ13_bitCount_95d88_8 ?_
  refine g_lstore_n (pc := 9) C dJ13_bitCount_95d88_9 (Nat.le_of_ble_eq_true rfl) (lo' := [(0, .long (a0 - ((x_lushr a0 1) &&& 6148914691236517205)))]) rfl ?_
  refine g_lload_n (pc := 10) C dJ13_bitCount_95d88_10 (q := 0) rfl ?_
  refine g_ldc2 (pc := 11) C LCJ13_316 dJ13_bitCount_95d88_11 ?_
  refine g_land (pc := 14) C dJ13_bitCount_95d88_14 ?_
  refine g_lload_n (pc := 15) C dJ13_bitCount_95d88_15 (q := 0) rfl ?_
  refine g_iconst (pc := 16) C dJ13_bitCount_95d88_16 (v := 2) rfl ?_
  refine h_lushr (pc := 17) C dJ13_bitCount_95d88_17 ?_
  refine g_ldc2 (pc := 18) C LCJ13_316 dJ13_bitCount_95d88_18 ?_
  refine g_land (pc := 21) C dJ13_bitCount_95d88_21 ?_
  refine g_ladd (pc := 22) C dJ13_bitCount_95d88_22 ?_
  refine g_lstore_n (pc := 23) C dJ13_bitCount_95d88_23 (Nat.le_of_ble_eq_true rfl) (lo' := [(0, .long (((a0 - ((x_lushr a0 1) &&& 6148914691236517205)) &&& 3689348814741910323) + ((x_lushr (a0 - ((x_lushr a0 1) &&& 6148914691236517205)) 2) &&& 3689348814741910323)))]) rfl ?_
  refine g_lload_n (pc := 24) C dJ13_bitCount_95d88_24 (q := 0) rfl ?_
  refine g_lload_n (pc := 25) C dJ13_bitCount_95d88_25 (q := 0) rfl ?_
  refine g_iconst (pc := 26) C dJ13_bitCount_95d88_26 (v := 4) rfl ?_
  refine h_lushr (pc := 27) C dJ13_bitCount_95d88_27 ?_
  refine g_ladd (pc := 28) C dJ13_bitCount_95d88_28 ?_
  refine g_ldc2 (pc := 29) C LCJ13_318 dJ13_bitCount_95d88_29 ?_
  refine g_land (pc := 32) C dJ13_bitCount_95d88_32 ?_
  refine g_lstore_n (pc := 33) C dJ13_bitCount_95d88_33 (Nat.le_of_ble_eq_true rfl) (lo' := [(0, .long (((((a0 - ((x_lushr a0 1) &&& 6148914691236517205)) &&& 3689348814741910323) + ((x_lushr (a0 - ((x_lushr a0 1) &&& 6148914691236517205)) 2) &&& 3689348814741910323)) + (x_lushr (((a0 - ((x_lushr a0 1) &&& 6148914691236517205)) &&& 3689348814741910323) + ((x_lushr (a0 - ((x_lushr a0 1) &&& 6148914691236517205)) 2) &&& 3689348814741910323)) 4)) &&& 1085102592571150095))]) rfl ?_
  refine g_lload_n (pc := 34) C dJ13_bitCount_95d88_34 (q := 0) rfl ?_
  refine g_lload_n (pc := 35) C dJ13_bitCount_95d88_35 (q := 0) rfl ?_
  refine g_bipush (pc := 36) C dJ13_bitCount_95d88_36 (v := 8) rfl ?_
  refine h_lushr (pc := 38) C dJ13_bitCount_95d88_38 ?_
  refine g_ladd (pc := 39) C dJ13_bitCount_95d88_39 ?_
  refine g_lstore_n (pc := 40) C dJ13_bitCount_95d88_40 (Nat.le_of_ble_eq_true rfl) (lo' := [(0, .long ((((((a0 - ((x_lushr a0 1) &&& 6148914691236517205)) &&& 3689348814741910323) + ((x_lushr (a0 - ((x_lushr a0 1) &&& 6148914691236517205)) 2) &&& 3689348814741910323)) + (x_lushr (((a0 - ((x_lushr a0 1) &&& 6148914691236517205)) &&& 3689348814741910323) + ((x_lushr (a0 - ((x_lushr a0 1) &&& 6148914691236517205)) 2) &&& 3689348814741910323)) 4)) &&& 1085102592571150095) + (x_lushr (((((a0 - ((x_lushr a0 1) &&& 6148914691236517205)) &&& 3689348814741910323) + ((x_lushr (a0 - ((x_lushr a0 1) &&& 6148914691236517205)) 2) &&& 3689348814741910323)) + (x_lushr (((a0 - ((x_lushr a0 1) &&& 6148914691236517205)) &&& 3689348814741910323) + ((x_lushr (a0 - ((x_lushr a0 1) &&& 6148914691236517205)) 2) &&& 3689348814741910323)) 4)) &&& 1085102592571150095) 8)))]) rfl ?_
  refine g_lload_n (pc := 41) C dJ13_bitCount_95d88_41 (q := 0) rfl ?_
  refine g_lload_n (pc := 42) C dJ13_bitCount_95d88_42 (q := 0) rfl ?_
  refine g_bipush (pc := 43) C dJ13_bitCount_95d88_43 (v := 16) rfl ?_
  refine h_lushr (pc := 45) C dJ13_bitCount_95d88_45 ?_
  refine g_ladd (pc := 46) C dJ13_bitCount_95d88_46 ?_
  refine g_lstore_n (pc := 47) C dJ13_bitCount_95d88_47 (Nat.le_of_ble_eq_true rfl) (lo' := [(0, .long (((((((a0 - ((x_lushr a0 1) &&& 6148914691236517205)) &&& 3689348814741910323) + ((x_lushr (a0 - ((x_lushr a0 1) &&& 6148914691236517205)) 2) &&& 3689348814741910323)) + (x_lushr (((a0 - ((x_lushr a0 1) &&& 6148914691236517205)) &&& 3689348814741910323) + ((x_lushr (a0 - ((x_lushr a0 1) &&& 6148914691236517205)) 2) &&& 3689348814741910323)) 4)) &&& 1085102592571150095) + (x_lushr (((((a0 - ((x_lushr a0 1) &&& 6148914691236517205)) &&& 3689348814741910323) + ((x_lushr (a0 - ((x_lushr a0 1) &&& 6148914691236517205)) 2) &&& 3689348814741910323)) + (x_lushr (((a0 - ((x_lushr a0 1) &&& 6148914691236517205)) &&& 3689348814741910323) + ((x_lushr (a0 - ((x_lushr a0 1) &&& 6148914691236517205)) 2) &&& 3689348814741910323)) 4)) &&& 1085102592571150095) 8)) + (x_lushr ((((((a0 - ((x_lushr a0 1) &&& 6148914691236517205)) &&& 3689348814741910323) + ((x_lushr (a0 - ((x_lushr a0 1) &&& 6148914691236517205)) 2) &&& 3689348814741910323)) + (x_lushr (((a0 - ((x_lushr a0 1) &&& 6148914691236517205)) &&& 3689348814741910323) + ((x_lushr (a0 - ((x_lushr a0 1) &&& 6148914691236517205)) 2) &&& 3689348814741910323)) 4)) &&& 1085102592571150095) + (x_lushr (((((a0 - ((x_lushr a0 1) &&& 6148914691236517205)) &&& 3689348814741910323) + ((x_lushr (a0 - ((x_lushr a0 1) &&& 6148914691236517205)) 2) &&& 3689348814741910323)) + (x_lushr (((a0 - ((x_lushr a0 1) &&& 6148914691236517205)) &&& 3689348814741910323) + ((x_lushr (a0 - ((x_lushr a0 1) &&& 6148914691236517205)) 2) &&& 3689348814741910323)) 4)) &&& 1085102592571150095) 8)) 16)))]) rfl ?_
  refine g_lload_n (pc := 48) C dJ13_bitCount_95d88_48 (q := 0) rfl ?_
  refine g_lload_n (pc := 49) C dJ13_bitCount_95d88_49 (q := 0) rfl ?_
  refine g_bipush (pc := 50) C dJ13_bitCount_95d88_50 (v := 32) rfl ?_
  refine h_lushr (pc := 52) C dJ13_bitCount_95d88_52 ?_
  refine g_ladd (pc := 53) C dJ13_bitCount_95d88_53 ?_
  refine g_lstore_n (pc := 54) C dJ13_bitCount_95d88_54 (Nat.le_of_ble_eq_true rfl) (lo' := [(0, .long ((((((((a0 - ((x_lushr a0 1) &&& 6148914691236517205)) &&& 3689348814741910323) + ((x_lushr (a0 - ((x_lushr a0 1) &&& 6148914691236517205)) 2) &&& 3689348814741910323)) + (x_lushr (((a0 - ((x_lushr a0 1) &&& 6148914691236517205)) &&& 3689348814741910323) + ((x_lushr (a0 - ((x_lushr a0 1) &&& 6148914691236517205)) 2) &&& 3689348814741910323)) 4)) &&& 1085102592571150095) + (x_lushr (((((a0 - ((x_lushr a0 1) &&& 6148914691236517205)) &&& 3689348814741910323) + ((x_lushr (a0 - ((x_lushr a0 1) &&& 6148914691236517205)) 2) &&& 3689348814741910323)) + (x_lushr (((a0 - ((x_lushr a0 1) &&& 6148914691236517205)) &&& 3689348814741910323) + ((x_lushr (a0 - ((x_lushr a0 1) &&& 6148914691236517205)) 2) &&& 3689348814741910323)) 4)) &&& 1085102592571150095) 8)) + (x_lushr ((((((a0 - ((x_lushr a0 1) &&& 6148914691236517205)) &&& 3689348814741910323) + ((x_lushr (a0 - ((x_lushr a0 1) &&& 6148914691236517205)) 2) &&& 3689348814741910323)) + (x_lushr (((a0 - ((x_lushr a0 1) &&& 6148914691236517205)) &&& 3689348814741910323) + ((x_lushr (a0 - ((x_lushr a0 1) &&& 6148914691236517205)) 2) &&& 3689348814741910323)) 4)) &&& 1085102592571150095) + (x_lushr (((((a0 - ((x_lushr a0 1) &&& 6148914691236517205)) &&& 3689348814741910323) + ((x_lushr (a0 - ((x_lushr a0 1) &&& 6148914691236517205)) 2) &&& 3689348814741910323)) + (x_lushr (((a0 - ((x_lushr a0 1) &&& 6148914691236517205)) &&& 3689348814741910323) + ((x_lushr (a0 - ((x_lushr a0 1) &&& 6148914691236517205)) 2) &&& 3689348814741910323)) 4)) &&& 1085102592571150095) 8)) 16)) + (x_lushr (((((((a0 - ((x_lushr a0 1) &&& 6148914691236517205)) &&& 3689348814741910323) + ((x_lushr (a0 - ((x_lushr a0 1) &&& 6148914691236517205)) 2) &&& 3689348814741910323)) + (x_lushr (((a0 - ((x_lushr a0 1) &&& 6148914691236517205)) &&& 3689348814741910323) + ((x_lushr (a0 - ((x_lushr a0 1) &&& 6148914691236517205)) 2) &&& 3689348814741910323)) 4)) &&& 1085102592571150095) + (x_lushr (((((a0 - ((x_lushr a0 1) &&& 6148914691236517205)) &&& 3689348814741910323) + ((x_lushr (a0 - ((x_lushr a0 1) &&& 6148914691236517205)) 2) &&& 3689348814741910323)) + (x_lushr (((a0 - ((x_lushr a0 1) &&& 6148914691236517205)) &&& 3689348814741910323) + ((x_lushr (a0 - ((x_lushr a0 1) &&& 6148914691236517205)) 2) &&& 3689348814741910323)) 4)) &&& 1085102592571150095) 8)) + (x_lushr ((((((a0 - ((x_lushr a0 1) &&& 6148914691236517205)) &&& 3689348814741910323) + ((x_lushr (a0 - ((x_lushr a0 1) &&& 6148914691236517205)) 2) &&& 3689348814741910323)) + (x_lushr (((a0 - ((x_lushr a0 1) &&& 6148914691236517205)) &&& 3689348814741910323) + ((x_lushr (a0 - ((x_lushr a0 1) &&& 6148914691236517205)) 2) &&& 3689348814741910323)) 4)) &&& 1085102592571150095) + (x_lushr (((((a0 - ((x_lushr a0 1) &&& 6148914691236517205)) &&& 3689348814741910323) + ((x_lushr (a0 - ((x_lushr a0 1) &&& 6148914691236517205)) 2) &&& 3689348814741910323)) + (x_lushr (((a0 - ((x_lushr a0 1) &&& 6148914691236517205)) &&& 3689348814741910323) + ((x_lushr (a0 - ((x_lushr a0 1) &&& 6148914691236517205)) 2) &&& 3689348814741910323)) 4)) &&& 1085102592571150095) 8)) 16)) 32)))]) rfl ?_
  refine g_lload_n (pc := 55) C dJ13_bitCount_95d88_55 (q := 0) rfl ?_
  refine g_l2i (pc := 56) C dJ13_bitCount_95d88_56 ?_
  refine g_bipush (pc := 57) C dJ13_bitCount_95d88_57 (v := 127) rfl ?_
  refine g_iand (pc := 59) C dJ13_bitCount_95d88_59 ?_
  exact g_iret (pc := 60) C hlk hr (Nat.le_refl _) (Nat.le_refl _) dJ13_bitCount_95d88_60 h
def w_X12_wells (a0 : Nat) (K : Int32 → Wd → Prop) (w : Wd) : Prop :=
  isK w a0 12 ∧ isK w (wR w a0 0) 20 ∧ vp_in 1 (wn w (wR w a0 0)) ∧ K (wI w (wR w a0 0) (1 : Int32).toNatClampNeg) w
theorem c_X12_wells {x : xG} {l : Launch} {a0 : Nat} {K : Int32 → Wd → Prop} {w : Wd} (h : w_X12_wells a0 K w) : Met l yX12_wells (xws yX12_wells cX12_wells 1 (some .int)) (rmd 0 0 0) (xPc x [.ref (adr x a0)] w) (QcI x K) 0 0 (xA x) := by
  refine xMet (by decide) (Nat.le_of_ble_eq_true rfl) (fun p e s m below meth c C hlk hr _ => ?_)
  show GW x p l e (rmd 0 0 0) s m [.ref (adr x a0)].toArray below meth c 1 (QI x K below [.ref (adr x a0)].toArray s 0 0) 0 [(0, .ref (adr x a0))] [] w 0 0
  refine g_aload_n (pc := 0) C dX12_wells_0 (q := 0) rfl ?_
  obtain ⟨k1, h⟩ := h
  obtain ⟨k2, h⟩ := h
  refine gfX12_9 (pc := 1) C k1 (isK_ne k2) dX12_wells_1 ?_
  refine g_iconst (pc := 4) C dX12_wells_4 (v := 1) rfl ?_
  obtain ⟨k3, h⟩ := h
  refine g_iald (pc := 5) C k2 k3 dX12_wells_5 ?_
  exact g_iret (pc := 6) C hlk hr (Nat.le_refl _) (Nat.le_refl _) dX12_wells_6 h
theorem miX12_239 (C : xC x p s m c cc nL args RX12) {a0 : Nat} {K : Int32 → Wd → Prop} {D MC MS : Nat} (hq : isK w a0 12) (h : w_X12_wells a0 K w) (hD : 0 + 1 ≤ D) (hW : (st.map fun v => v.category).sum ≤ 8) (hij : i ≤ MC ∧ j ≤ MS) (hd : decode cc pc = .ok (.invokevirtual 239, 3)) (k : ∀ (r : Int32) (u : Wd), K r u → GW x p l e (rmd D MC MS) s m args below meth c nL Q (pc + 3) lo (.int r :: st) u i j) : GW x p l e (rmd D MC MS) s m args below meth c nL Q pc lo (.ref (adr x a0) :: st) w i j := g_callVi0 C (As := []) (ci := 12) (c_X12_wells h) (x_cwV C 0 LMX12_239 ⟨rfl, by decide, by decide, rfl⟩ hD (by decide)) rfl hq (by decide) rfl rfl hW hd hij k
def w_X12_allWells (a0 : Nat) (K : Int32 → Wd → Prop) (w : Wd) : Prop :=
  isK w a0 12 ∧ w_X12_wells a0 (fun r2 w3 => K ((x_ishl 1 r2) - 1) w3) w
theorem c_X12_allWells {x : xG} {l : Launch} {a0 : Nat} {K : Int32 → Wd → Prop} {w : Wd} (h : w_X12_allWells a0 K w) : Met l yX12_allWells (xws yX12_allWells cX12_allWells 1 (some .int)) (rmd 1 0 0) (xPc x [.ref (adr x a0)] w) (QcI x K) 0 0 (xA x) := by
  refine xMet (by decide) (Nat.le_of_ble_eq_true rfl) (fun p e s m below meth c C hlk hr _ => ?_)
  show GW x p l e (rmd 1 0 0) s m [.ref (adr x a0)].toArray below meth c 1 (QI x K below [.ref (adr x a0)].toArray s 0 0) 0 [(0, .ref (adr x a0))] [] w 0 0
  refine g_iconst (pc := 0) C dX12_allWells_0 (v := 1) rfl ?_
  refine g_aload_n (pc := 1) C dX12_allWells_1 (q := 0) rfl ?_
  obtain ⟨k1, h⟩ := h
  refine miX12_239 (pc := 2) C k1 h (Nat.le_of_ble_eq_true rfl) (Nat.le_of_ble_eq_true rfl) ⟨Nat.le_refl _, Nat.le_refl _⟩ dX12_allWells_2 (fun r2 w3 h => ?_)
  refine h_ishl (pc := 5) C dX12_allWells_5 ?_
  refine g_iconst (pc := 6) C dX12_allWells_6 (v := 1) rfl ?_
  refine g_isub (pc := 7) C dX12_allWells_7 ?_
  exact g_iret (pc := 8) C hlk hr (Nat.le_refl _) (Nat.le_refl _) dX12_allWells_8 h
def w_X12_has (a0 : Int32) (a1 : Int32) (K : Int32 → Wd → Prop) (w : Wd) : Prop :=
  ((((x_ishr a0 a1) &&& 1) = 1 → K 1 w) ∧ (¬ ((x_ishr a0 a1) &&& 1) = 1 → K 0 w))
theorem c_X12_has {x : xG} {l : Launch} {a0 : Int32} {a1 : Int32} {K : Int32 → Wd → Prop} {w : Wd} (h : w_X12_has a0 a1 K w) : Met l yX12_has (xws yX12_has cX12_has 2 (some .boolean)) (rmd 0 0 0) (xPc x [.int a0, .int a1] w) (QcI x K) 0 0 (xA x) := by
  refine xMet (by decide) (Nat.le_of_ble_eq_true rfl) (fun p e s m below meth c C hlk hr _ => ?_)
  show GW x p l e (rmd 0 0 0) s m [.int a0, .int a1].toArray below meth c 2 (QI x K below [.int a0, .int a1].toArray s 0 0) 0 [(0, .int a0), (1, .int a1)] [] w 0 0
  refine g_iload_n (pc := 0) C dX12_has_0 (q := 0) rfl ?_
  refine g_iload_n (pc := 1) C dX12_has_1 (q := 1) rfl ?_
  refine h_ishr (pc := 2) C dX12_has_2 ?_
  refine g_iconst (pc := 3) C dX12_has_3 (v := 1) rfl ?_
  refine g_iand (pc := 4) C dX12_has_4 ?_
  refine g_iconst (pc := 5) C dX12_has_5 (v := 1) rfl ?_
  refine g_icmp_ne (pc := 6) C dX12_has_6 (tgt := 13) rfl (fun z1 => ?_) (fun z1 => ?_)
  · replace h := h.2 z1
    refine g_iconst (pc := 13) C dX12_has_13 (v := 0) rfl ?_
    exact g_zret (pc := 14) C hlk hr (Nat.le_refl _) (Nat.le_refl _) dX12_has_14 (Or.inl rfl) h
  · replace h := h.1 z1
    refine g_iconst (pc := 9) C dX12_has_9 (v := 1) rfl ?_
    refine g_goto (pc := 10) C dX12_has_10 (tgt := 14) rfl ?_
    exact g_zret (pc := 14) C hlk hr (Nat.le_refl _) (Nat.le_refl _) dX12_has_14 (Or.inr rfl) h
theorem miX12_268 (C : xC x p s m c cc nL args RX12) {a0 : Int32} {a1 : Int32} {K : Int32 → Wd → Prop} {D MC MS : Nat} (h : w_X12_has a0 a1 K w) (hD : 0 + 1 ≤ D) (hW : (st.map fun v => v.category).sum ≤ 8) (hij : i ≤ MC ∧ j ≤ MS) (hd : decode cc pc = .ok (.invokestatic 268, 3)) (k : ∀ (r : Int32) (u : Wd), K r u → GW x p l e (rmd D MC MS) s m args below meth c nL Q (pc + 3) lo (.int r :: st) u i j) : GW x p l e (rmd D MC MS) s m args below meth c nL Q pc lo (.int a1 :: .int a0 :: st) w i j := g_callSi0 C (As := [.int a0, .int a1]) (c_X12_has h) (x_cwS C 2 LMX12_268 ⟨by decide, by decide, rfl⟩ hD (by decide)) rfl rfl hW hd hij k
def l_X12_areWoken_5  (K : Int32 → Wd → Prop) : Nat → Nat → Int32 → Int32 → Int32 → Int32 → Wd → Prop
  | 0, _, _, _, _, _, _ => False
  | n + 1, a0, a1, a2, a3, a4, w => isK w a0 12 ∧ w_X12_wells a0 (fun r2 w3 => ((r2 ≤ a4 → (((a3 &&& a2) = a2 → K 1 w3) ∧ (¬ (a3 &&& a2) = a2 → K 0 w3))) ∧ (¬ r2 ≤ a4 → w_X12_has a1 a4 (fun r6 w7 => ((r6 = 0 → l_X12_areWoken_5 K n a0 a1 a2 (a3 ||| 0) (a4 + 1) w7) ∧ (¬ r6 = 0 → isK w7 a0 12 ∧ isK w7 (wR w7 a0 20) 20 ∧ vp_in a4 (wn w7 (wR w7 a0 20)) ∧ l_X12_areWoken_5 K n a0 a1 a2 (a3 ||| (wI w7 (wR w7 a0 20) a4.toNatClampNeg)) (a4 + 1) w7))) w3))) w
def w_X12_areWoken (a0 : Nat) (a1 : Int32) (a2 : Int32) (K : Int32 → Wd → Prop) (w : Wd) : Prop :=
  ∃ n12, l_X12_areWoken_5  K n12 a0 a1 a2 0 0 w
theorem t_X12_areWoken_5 (C : xC x p s m c cX12_areWoken 5 args RX12) (hlk : meth.locks = false) (hr : meth.sig.returnType = some .boolean) {K : Int32 → Wd → Prop}   : ∀ (n : Nat) (a0 : Nat) (a1 : Int32) (a2 : Int32) (a3 : Int32) (a4 : Int32) (w : Wd), l_X12_areWoken_5 K n a0 a1 a2 a3 a4 w → GW x p l e (rmd 1 0 0) s m args below meth c 5 (QI x K below args s 0 0) 5 [(0, .ref (adr x a0)), (1, .int a1), (2, .int a2), (3, .int a3), (4, .int a4)] [] w 0 0 := by
  intro n
  induction n with
  | zero => intro _ _ _ _ _ _ h; exact False.elim h
  | succ n ih =>
    intro a0 a1 a2 a3 a4 w h
    refine g_iload (pc := 5) C dX12_areWoken_5 (q := 4) rfl ?_
    refine g_aload_n (pc := 7) C dX12_areWoken_7 (q := 0) rfl ?_
    obtain ⟨k1, h⟩ := h
    refine miX12_239 (pc := 8) C k1 h (Nat.le_of_ble_eq_true rfl) (Nat.le_of_ble_eq_true rfl) ⟨Nat.le_refl _, Nat.le_refl _⟩ dX12_areWoken_8 (fun r2 w3 h => ?_)
    refine g_icmp_ge (pc := 11) C dX12_areWoken_11 (tgt := 43) rfl (fun z4 => ?_) (fun z4 => ?_)
    · replace h := h.1 z4
      refine g_iload_n (pc := 43) C dX12_areWoken_43 (q := 3) rfl ?_
      refine g_iload_n (pc := 44) C dX12_areWoken_44 (q := 2) rfl ?_
      refine g_iand (pc := 45) C dX12_areWoken_45 ?_
      refine g_iload_n (pc := 46) C dX12_areWoken_46 (q := 2) rfl ?_
      refine g_icmp_ne (pc := 47) C dX12_areWoken_47 (tgt := 54) rfl (fun z5 => ?_) (fun z5 => ?_)
      · replace h := h.2 z5
        refine g_iconst (pc := 54) C dX12_areWoken_54 (v := 0) rfl ?_
        exact g_zret (pc := 55) C hlk hr (Nat.le_refl _) (Nat.le_refl _) dX12_areWoken_55 (Or.inl rfl) h
      · replace h := h.1 z5
        refine g_iconst (pc := 50) C dX12_areWoken_50 (v := 1) rfl ?_
        refine g_goto (pc := 51) C dX12_areWoken_51 (tgt := 55) rfl ?_
        exact g_zret (pc := 55) C hlk hr (Nat.le_refl _) (Nat.le_refl _) dX12_areWoken_55 (Or.inr rfl) h
    · replace h := h.2 z4
      refine g_iload_n (pc := 14) C dX12_areWoken_14 (q := 3) rfl ?_
      refine g_iload_n (pc := 15) C dX12_areWoken_15 (q := 1) rfl ?_
      refine g_iload (pc := 16) C dX12_areWoken_16 (q := 4) rfl ?_
      refine miX12_268 (pc := 18) C h (Nat.le_of_ble_eq_true rfl) (Nat.le_of_ble_eq_true rfl) ⟨Nat.le_refl _, Nat.le_refl _⟩ dX12_areWoken_18 (fun r6 w7 h => ?_)
      refine g_if_eq (pc := 21) C dX12_areWoken_21 (tgt := 34) rfl (fun z8 => ?_) (fun z8 => ?_)
      · replace h := h.1 z8
        refine g_iconst (pc := 34) C dX12_areWoken_34 (v := 0) rfl ?_
        refine g_ior (pc := 35) C dX12_areWoken_35 ?_
        refine g_istore_n (pc := 36) C dX12_areWoken_36 (Nat.le_of_ble_eq_true rfl) (lo' := [(3, .int (a3 ||| 0)), (0, .ref (adr x a0)), (1, .int a1), (2, .int a2), (4, .int a4)]) rfl ?_
        refine g_iinc (pc := 37) C dX12_areWoken_37 (q := 4) rfl (v2 := a4 + 1) rfl (Nat.le_of_ble_eq_true rfl) (lo' := [(4, .int (a4 + 1)), (3, .int (a3 ||| 0)), (0, .ref (adr x a0)), (1, .int a1), (2, .int a2)]) rfl ?_
        refine g_goto (pc := 40) C dX12_areWoken_40 (tgt := 5) rfl ?_
        refine g_sub [2, 3, 4, 1, 0] rfl ?_
        exact ih _ _ _ _ _ _ h
      · replace h := h.2 z8
        refine g_aload_n (pc := 24) C dX12_areWoken_24 (q := 0) rfl ?_
        obtain ⟨k9, h⟩ := h
        obtain ⟨k10, h⟩ := h
        refine gfX12_36 (pc := 25) C k9 (isK_ne k10) dX12_areWoken_25 ?_
        refine g_iload (pc := 28) C dX12_areWoken_28 (q := 4) rfl ?_
        obtain ⟨k11, h⟩ := h
        refine g_iald (pc := 30) C k10 k11 dX12_areWoken_30 ?_
        refine g_goto (pc := 31) C dX12_areWoken_31 (tgt := 35) rfl ?_
        refine g_ior (pc := 35) C dX12_areWoken_35 ?_
        refine g_istore_n (pc := 36) C dX12_areWoken_36 (Nat.le_of_ble_eq_true rfl) (lo' := [(3, .int (a3 ||| (wI w7 (wR w7 a0 20) a4.toNatClampNeg))), (0, .ref (adr x a0)), (1, .int a1), (2, .int a2), (4, .int a4)]) rfl ?_
        refine g_iinc (pc := 37) C dX12_areWoken_37 (q := 4) rfl (v2 := a4 + 1) rfl (Nat.le_of_ble_eq_true rfl) (lo' := [(4, .int (a4 + 1)), (3, .int (a3 ||| (wI w7 (wR w7 a0 20) a4.toNatClampNeg))), (0, .ref (adr x a0)), (1, .int a1), (2, .int a2)]) rfl ?_
        refine g_goto (pc := 40) C dX12_areWoken_40 (tgt := 5) rfl ?_
        refine g_sub [2, 3, 4, 1, 0] rfl ?_
        exact ih _ _ _ _ _ _ h
theorem c_X12_areWoken {x : xG} {l : Launch} {a0 : Nat} {a1 : Int32} {a2 : Int32} {K : Int32 → Wd → Prop} {w : Wd} (h : w_X12_areWoken a0 a1 a2 K w) : Met l yX12_areWoken (xws yX12_areWoken cX12_areWoken 5 (some .boolean)) (rmd 1 0 0) (xPc x [.ref (adr x a0), .int a1, .int a2] w) (QcI x K) 0 0 (xA x) := by
  refine xMet (by decide) (Nat.le_of_ble_eq_true rfl) (fun p e s m below meth c C hlk hr _ => ?_)
  show GW x p l e (rmd 1 0 0) s m [.ref (adr x a0), .int a1, .int a2].toArray below meth c 5 (QI x K below [.ref (adr x a0), .int a1, .int a2].toArray s 0 0) 0 [(0, .ref (adr x a0)), (1, .int a1), (2, .int a2)] [] w 0 0
  refine g_iconst (pc := 0) C dX12_areWoken_0 (v := 0) rfl ?_
  refine g_istore_n (pc := 1) C dX12_areWoken_1 (Nat.le_of_ble_eq_true rfl) (lo' := [(3, .int 0), (0, .ref (adr x a0)), (1, .int a1), (2, .int a2)]) rfl ?_
  refine g_iconst (pc := 2) C dX12_areWoken_2 (v := 0) rfl ?_
  refine g_istore (pc := 3) C dX12_areWoken_3 (Nat.le_of_ble_eq_true rfl) (lo' := [(4, .int 0), (3, .int 0), (0, .ref (adr x a0)), (1, .int a1), (2, .int a2)]) rfl ?_
  obtain ⟨n12, h⟩ := h
  refine g_sub [2, 3, 4, 1, 0] rfl ?_
  refine t_X12_areWoken_5 C hlk hr n12 _ _ _ _ _ _ h
def w_X12_phaseIn (a0 : Nat) (a1 : Int32) (a2 : Int32) (K : Int32 → Wd → Prop) (w : Wd) : Prop :=
  isK w a0 12 ∧ isK w (wR w a0 0) 20 ∧ vp_in 26 (wn w (wR w a0 0)) ∧ vp_in (5 + a1) (wn w (wR w a0 0)) ∧ vp_in (27 + a1) (wn w (wR w a0 0)) ∧ ¬ (wI w (wR w a0 0) (27 + a1).toNatClampNeg) = 0 ∧ K (x_irem (((wI w (wR w a0 0) (26 : Int32).toNatClampNeg) + a2) + (wI w (wR w a0 0) (5 + a1).toNatClampNeg)) (wI w (wR w a0 0) (27 + a1).toNatClampNeg)) w
theorem c_X12_phaseIn {x : xG} {l : Launch} {a0 : Nat} {a1 : Int32} {a2 : Int32} {K : Int32 → Wd → Prop} {w : Wd} (h : w_X12_phaseIn a0 a1 a2 K w) : Met l yX12_phaseIn (xws yX12_phaseIn cX12_phaseIn 3 (some .int)) (rmd 0 0 0) (xPc x [.ref (adr x a0), .int a1, .int a2] w) (QcI x K) 0 0 (xA x) := by
  refine xMet (by decide) (Nat.le_of_ble_eq_true rfl) (fun p e s m below meth c C hlk hr _ => ?_)
  show GW x p l e (rmd 0 0 0) s m [.ref (adr x a0), .int a1, .int a2].toArray below meth c 3 (QI x K below [.ref (adr x a0), .int a1, .int a2].toArray s 0 0) 0 [(0, .ref (adr x a0)), (1, .int a1), (2, .int a2)] [] w 0 0
  refine g_aload_n (pc := 0) C dX12_phaseIn_0 (q := 0) rfl ?_
  obtain ⟨k1, h⟩ := h
  obtain ⟨k2, h⟩ := h
  refine gfX12_9 (pc := 1) C k1 (isK_ne k2) dX12_phaseIn_1 ?_
  refine g_bipush (pc := 4) C dX12_phaseIn_4 (v := 26) rfl ?_
  obtain ⟨k3, h⟩ := h
  refine g_iald (pc := 6) C k2 k3 dX12_phaseIn_6 ?_
  refine g_iload_n (pc := 7) C dX12_phaseIn_7 (q := 2) rfl ?_
  refine g_iadd (pc := 8) C dX12_phaseIn_8 ?_
  refine g_aload_n (pc := 9) C dX12_phaseIn_9 (q := 0) rfl ?_
  refine gfX12_9 (pc := 10) C k1 (isK_ne k2) dX12_phaseIn_10 ?_
  refine g_iconst (pc := 13) C dX12_phaseIn_13 (v := 5) rfl ?_
  refine g_iload_n (pc := 14) C dX12_phaseIn_14 (q := 1) rfl ?_
  refine g_iadd (pc := 15) C dX12_phaseIn_15 ?_
  obtain ⟨k4, h⟩ := h
  refine g_iald (pc := 16) C k2 k4 dX12_phaseIn_16 ?_
  refine g_iadd (pc := 17) C dX12_phaseIn_17 ?_
  refine g_aload_n (pc := 18) C dX12_phaseIn_18 (q := 0) rfl ?_
  refine gfX12_9 (pc := 19) C k1 (isK_ne k2) dX12_phaseIn_19 ?_
  refine g_bipush (pc := 22) C dX12_phaseIn_22 (v := 27) rfl ?_
  refine g_iload_n (pc := 24) C dX12_phaseIn_24 (q := 1) rfl ?_
  refine g_iadd (pc := 25) C dX12_phaseIn_25 ?_
  obtain ⟨k5, h⟩ := h
  refine g_iald (pc := 26) C k2 k5 dX12_phaseIn_26 ?_
  obtain ⟨k6, h⟩ := h
  refine h_irem (pc := 27) C dX12_phaseIn_27 k6 ?_
  exact g_iret (pc := 28) C hlk hr (Nat.le_refl _) (Nat.le_refl _) dX12_phaseIn_28 h
theorem miX12_242 (C : xC x p s m c cc nL args RX12) {a0 : Nat} {a1 : Int32} {a2 : Int32} {K : Int32 → Wd → Prop} {D MC MS : Nat} (hq : isK w a0 12) (h : w_X12_phaseIn a0 a1 a2 K w) (hD : 0 + 1 ≤ D) (hW : (st.map fun v => v.category).sum ≤ 8) (hij : i ≤ MC ∧ j ≤ MS) (hd : decode cc pc = .ok (.invokevirtual 242, 3)) (k : ∀ (r : Int32) (u : Wd), K r u → GW x p l e (rmd D MC MS) s m args below meth c nL Q (pc + 3) lo (.int r :: st) u i j) : GW x p l e (rmd D MC MS) s m args below meth c nL Q pc lo (.int a2 :: .int a1 :: .ref (adr x a0) :: st) w i j := g_callVi0 C (As := [.int a1, .int a2]) (ci := 12) (c_X12_phaseIn h) (x_cwV C 2 LMX12_242 ⟨rfl, by decide, by decide, rfl⟩ hD (by decide)) rfl hq (by decide) rfl rfl hW hd hij k
def w_X12_isUpIn (a0 : Nat) (a1 : Int32) (a2 : Int32) (K : Int32 → Wd → Prop) (w : Wd) : Prop :=
  isK w a0 12 ∧ w_X12_phaseIn a0 a1 a2 (fun r2 w3 => isK w3 a0 12 ∧ isK w3 (wR w3 a0 0) 20 ∧ vp_in (37 + a1) (wn w3 (wR w3 a0 0)) ∧ (((wI w3 (wR w3 a0 0) (37 + a1).toNatClampNeg) ≤ r2 → K 0 w3) ∧ (¬ (wI w3 (wR w3 a0 0) (37 + a1).toNatClampNeg) ≤ r2 → K 1 w3))) w
theorem c_X12_isUpIn {x : xG} {l : Launch} {a0 : Nat} {a1 : Int32} {a2 : Int32} {K : Int32 → Wd → Prop} {w : Wd} (h : w_X12_isUpIn a0 a1 a2 K w) : Met l yX12_isUpIn (xws yX12_isUpIn cX12_isUpIn 3 (some .boolean)) (rmd 1 0 0) (xPc x [.ref (adr x a0), .int a1, .int a2] w) (QcI x K) 0 0 (xA x) := by
  refine xMet (by decide) (Nat.le_of_ble_eq_true rfl) (fun p e s m below meth c C hlk hr _ => ?_)
  show GW x p l e (rmd 1 0 0) s m [.ref (adr x a0), .int a1, .int a2].toArray below meth c 3 (QI x K below [.ref (adr x a0), .int a1, .int a2].toArray s 0 0) 0 [(0, .ref (adr x a0)), (1, .int a1), (2, .int a2)] [] w 0 0
  refine g_aload_n (pc := 0) C dX12_isUpIn_0 (q := 0) rfl ?_
  refine g_iload_n (pc := 1) C dX12_isUpIn_1 (q := 1) rfl ?_
  refine g_iload_n (pc := 2) C dX12_isUpIn_2 (q := 2) rfl ?_
  obtain ⟨k1, h⟩ := h
  refine miX12_242 (pc := 3) C k1 h (Nat.le_of_ble_eq_true rfl) (Nat.le_of_ble_eq_true rfl) ⟨Nat.le_refl _, Nat.le_refl _⟩ dX12_isUpIn_3 (fun r2 w3 h => ?_)
  refine g_aload_n (pc := 6) C dX12_isUpIn_6 (q := 0) rfl ?_
  obtain ⟨k4, h⟩ := h
  obtain ⟨k5, h⟩ := h
  refine gfX12_9 (pc := 7) C k4 (isK_ne k5) dX12_isUpIn_7 ?_
  refine g_bipush (pc := 10) C dX12_isUpIn_10 (v := 37) rfl ?_
  refine g_iload_n (pc := 12) C dX12_isUpIn_12 (q := 1) rfl ?_
  refine g_iadd (pc := 13) C dX12_isUpIn_13 ?_
  obtain ⟨k6, h⟩ := h
  refine g_iald (pc := 14) C k5 k6 dX12_isUpIn_14 ?_
  refine g_icmp_ge (pc := 15) C dX12_isUpIn_15 (tgt := 22) rfl (fun z7 => ?_) (fun z7 => ?_)
  · replace h := h.1 z7
    refine g_iconst (pc := 22) C dX12_isUpIn_22 (v := 0) rfl ?_
    exact g_zret (pc := 23) C hlk hr (Nat.le_refl _) (Nat.le_refl _) dX12_isUpIn_23 (Or.inl rfl) h
  · replace h := h.2 z7
    refine g_iconst (pc := 18) C dX12_isUpIn_18 (v := 1) rfl ?_
    refine g_goto (pc := 19) C dX12_isUpIn_19 (tgt := 23) rfl ?_
    exact g_zret (pc := 23) C hlk hr (Nat.le_refl _) (Nat.le_refl _) dX12_isUpIn_23 (Or.inr rfl) h
theorem miX12_245 (C : xC x p s m c cc nL args RX12) {a0 : Nat} {a1 : Int32} {a2 : Int32} {K : Int32 → Wd → Prop} {D MC MS : Nat} (hq : isK w a0 12) (h : w_X12_isUpIn a0 a1 a2 K w) (hD : 1 + 1 ≤ D) (hW : (st.map fun v => v.category).sum ≤ 8) (hij : i ≤ MC ∧ j ≤ MS) (hd : decode cc pc = .ok (.invokevirtual 245, 3)) (k : ∀ (r : Int32) (u : Wd), K r u → GW x p l e (rmd D MC MS) s m args below meth c nL Q (pc + 3) lo (.int r :: st) u i j) : GW x p l e (rmd D MC MS) s m args below meth c nL Q pc lo (.int a2 :: .int a1 :: .ref (adr x a0) :: st) w i j := g_callVi0 C (As := [.int a1, .int a2]) (ci := 12) (c_X12_isUpIn h) (x_cwV C 2 LMX12_245 ⟨rfl, by decide, by decide, rfl⟩ hD (by decide)) rfl hq (by decide) rfl rfl hW hd hij k
def l_X12_upIn_4  (K : Int32 → Wd → Prop) : Nat → Nat → Int32 → Int32 → Int32 → Wd → Prop
  | 0, _, _, _, _, _ => False
  | n + 1, a0, a1, a2, a3, w => isK w a0 12 ∧ w_X12_wells a0 (fun r2 w3 => ((r2 ≤ a3 → K a2 w3) ∧ (¬ r2 ≤ a3 → isK w3 a0 12 ∧ w_X12_isUpIn a0 a3 a1 (fun r6 w7 => ((r6 = 0 → l_X12_upIn_4 K n a0 a1 (a2 ||| 0) (a3 + 1) w7) ∧ (¬ r6 = 0 → l_X12_upIn_4 K n a0 a1 (a2 ||| (x_ishl 1 a3)) (a3 + 1) w7))) w3))) w
def w_X12_upIn (a0 : Nat) (a1 : Int32) (K : Int32 → Wd → Prop) (w : Wd) : Prop :=
  ∃ n9, l_X12_upIn_4  K n9 a0 a1 0 0 w
theorem t_X12_upIn_4 (C : xC x p s m c cX12_upIn 4 args RX12) (hlk : meth.locks = false) (hr : meth.sig.returnType = some .int) {K : Int32 → Wd → Prop}   : ∀ (n : Nat) (a0 : Nat) (a1 : Int32) (a2 : Int32) (a3 : Int32) (w : Wd), l_X12_upIn_4 K n a0 a1 a2 a3 w → GW x p l e (rmd 2 0 0) s m args below meth c 4 (QI x K below args s 0 0) 4 [(0, .ref (adr x a0)), (1, .int a1), (2, .int a2), (3, .int a3)] [] w 0 0 := by
  intro n
  induction n with
  | zero => intro _ _ _ _ _ h; exact False.elim h
  | succ n ih =>
    intro a0 a1 a2 a3 w h
    refine g_iload_n (pc := 4) C dX12_upIn_4 (q := 3) rfl ?_
    refine g_aload_n (pc := 5) C dX12_upIn_5 (q := 0) rfl ?_
    obtain ⟨k1, h⟩ := h
    refine miX12_239 (pc := 6) C k1 h (Nat.le_of_ble_eq_true rfl) (Nat.le_of_ble_eq_true rfl) ⟨Nat.le_refl _, Nat.le_refl _⟩ dX12_upIn_6 (fun r2 w3 h => ?_)
    refine g_icmp_ge (pc := 9) C dX12_upIn_9 (tgt := 37) rfl (fun z4 => ?_) (fun z4 => ?_)
    · replace h := h.1 z4
      refine g_iload_n (pc := 37) C dX12_upIn_37 (q := 2) rfl ?_
      exact g_iret (pc := 38) C hlk hr (Nat.le_refl _) (Nat.le_refl _) dX12_upIn_38 h
    · replace h := h.2 z4
      refine g_iload_n (pc := 12) C dX12_upIn_12 (q := 2) rfl ?_
      refine g_aload_n (pc := 13) C dX12_upIn_13 (q := 0) rfl ?_
      refine g_iload_n (pc := 14) C dX12_upIn_14 (q := 3) rfl ?_
      refine g_iload_n (pc := 15) C dX12_upIn_15 (q := 1) rfl ?_
      obtain ⟨k5, h⟩ := h
      refine miX12_245 (pc := 16) C k5 h (Nat.le_of_ble_eq_true rfl) (Nat.le_of_ble_eq_true rfl) ⟨Nat.le_refl _, Nat.le_refl _⟩ dX12_upIn_16 (fun r6 w7 h => ?_)
      refine g_if_eq (pc := 19) C dX12_upIn_19 (tgt := 28) rfl (fun z8 => ?_) (fun z8 => ?_)
      · replace h := h.1 z8
        refine g_iconst (pc := 28) C dX12_upIn_28 (v := 0) rfl ?_
        refine g_ior (pc := 29) C dX12_upIn_29 ?_
        refine g_istore_n (pc := 30) C dX12_upIn_30 (Nat.le_of_ble_eq_true rfl) (lo' := [(2, .int (a2 ||| 0)), (0, .ref (adr x a0)), (1, .int a1), (3, .int a3)]) rfl ?_
        refine g_iinc (pc := 31) C dX12_upIn_31 (q := 3) rfl (v2 := a3 + 1) rfl (Nat.le_of_ble_eq_true rfl) (lo' := [(3, .int (a3 + 1)), (2, .int (a2 ||| 0)), (0, .ref (adr x a0)), (1, .int a1)]) rfl ?_
        refine g_goto (pc := 34) C dX12_upIn_34 (tgt := 4) rfl ?_
        refine g_sub [2, 3, 1, 0] rfl ?_
        exact ih _ _ _ _ _ h
      · replace h := h.2 z8
        refine g_iconst (pc := 22) C dX12_upIn_22 (v := 1) rfl ?_
        refine g_iload_n (pc := 23) C dX12_upIn_23 (q := 3) rfl ?_
        refine h_ishl (pc := 24) C dX12_upIn_24 ?_
        refine g_goto (pc := 25) C dX12_upIn_25 (tgt := 29) rfl ?_
        refine g_ior (pc := 29) C dX12_upIn_29 ?_
        refine g_istore_n (pc := 30) C dX12_upIn_30 (Nat.le_of_ble_eq_true rfl) (lo' := [(2, .int (a2 ||| (x_ishl 1 a3))), (0, .ref (adr x a0)), (1, .int a1), (3, .int a3)]) rfl ?_
        refine g_iinc (pc := 31) C dX12_upIn_31 (q := 3) rfl (v2 := a3 + 1) rfl (Nat.le_of_ble_eq_true rfl) (lo' := [(3, .int (a3 + 1)), (2, .int (a2 ||| (x_ishl 1 a3))), (0, .ref (adr x a0)), (1, .int a1)]) rfl ?_
        refine g_goto (pc := 34) C dX12_upIn_34 (tgt := 4) rfl ?_
        refine g_sub [2, 3, 1, 0] rfl ?_
        exact ih _ _ _ _ _ h
theorem c_X12_upIn {x : xG} {l : Launch} {a0 : Nat} {a1 : Int32} {K : Int32 → Wd → Prop} {w : Wd} (h : w_X12_upIn a0 a1 K w) : Met l yX12_upIn (xws yX12_upIn cX12_upIn 4 (some .int)) (rmd 2 0 0) (xPc x [.ref (adr x a0), .int a1] w) (QcI x K) 0 0 (xA x) := by
  refine xMet (by decide) (Nat.le_of_ble_eq_true rfl) (fun p e s m below meth c C hlk hr _ => ?_)
  show GW x p l e (rmd 2 0 0) s m [.ref (adr x a0), .int a1].toArray below meth c 4 (QI x K below [.ref (adr x a0), .int a1].toArray s 0 0) 0 [(0, .ref (adr x a0)), (1, .int a1)] [] w 0 0
  refine g_iconst (pc := 0) C dX12_upIn_0 (v := 0) rfl ?_
  refine g_istore_n (pc := 1) C dX12_upIn_1 (Nat.le_of_ble_eq_true rfl) (lo' := [(2, .int 0), (0, .ref (adr x a0)), (1, .int a1)]) rfl ?_
  refine g_iconst (pc := 2) C dX12_upIn_2 (v := 0) rfl ?_
  refine g_istore_n (pc := 3) C dX12_upIn_3 (Nat.le_of_ble_eq_true rfl) (lo' := [(3, .int 0), (2, .int 0), (0, .ref (adr x a0)), (1, .int a1)]) rfl ?_
  obtain ⟨n9, h⟩ := h
  refine g_sub [2, 3, 1, 0] rfl ?_
  refine t_X12_upIn_4 C hlk hr n9 _ _ _ _ _ h
theorem miX12_294 (C : xC x p s m c cc nL args RX12) {a0 : Nat} {a1 : Int32} {K : Int32 → Wd → Prop} {D MC MS : Nat} (hq : isK w a0 12) (h : w_X12_upIn a0 a1 K w) (hD : 2 + 1 ≤ D) (hW : (st.map fun v => v.category).sum ≤ 8) (hij : i ≤ MC ∧ j ≤ MS) (hd : decode cc pc = .ok (.invokevirtual 294, 3)) (k : ∀ (r : Int32) (u : Wd), K r u → GW x p l e (rmd D MC MS) s m args below meth c nL Q (pc + 3) lo (.int r :: st) u i j) : GW x p l e (rmd D MC MS) s m args below meth c nL Q pc lo (.int a1 :: .ref (adr x a0) :: st) w i j := g_callVi0 C (As := [.int a1]) (ci := 12) (c_X12_upIn h) (x_cwV C 1 LMX12_294 ⟨rfl, by decide, by decide, rfl⟩ hD (by decide)) rfl hq (by decide) rfl rfl hW hd hij k
def w_X12_awake (a0 : Nat) (K : Int32 → Wd → Prop) (w : Wd) : Prop :=
  isK w a0 12 ∧ w_X12_upIn a0 0 (fun r2 w3 => K r2 w3) (uI w a0 4 0)
theorem c_X12_awake {x : xG} {l : Launch} {a0 : Nat} {K : Int32 → Wd → Prop} {w : Wd} (h : w_X12_awake a0 K w) : Met l yX12_awake (xws yX12_awake cX12_awake 1 (some .int)) (rmd 3 0 0) (xPc x [.ref (adr x a0)] w) (QcI x K) 0 0 (xA x) := by
  refine xMet (by decide) (Nat.le_of_ble_eq_true rfl) (fun p e s m below meth c C hlk hr _ => ?_)
  show GW x p l e (rmd 3 0 0) s m [.ref (adr x a0)].toArray below meth c 1 (QI x K below [.ref (adr x a0)].toArray s 0 0) 0 [(0, .ref (adr x a0))] [] w 0 0
  refine g_aload_n (pc := 0) C dX12_awake_0 (q := 0) rfl ?_
  refine g_iconst (pc := 1) C dX12_awake_1 (v := 0) rfl ?_
  obtain ⟨k1, h⟩ := h
  refine pfX12_58 (pc := 2) C k1 dX12_awake_2 ?_
  refine g_aload_n (pc := 5) C dX12_awake_5 (q := 0) rfl ?_
  refine g_iconst (pc := 6) C dX12_awake_6 (v := 0) rfl ?_
  refine miX12_294 (pc := 7) (w := uI w a0 4 0) C k1 h (Nat.le_of_ble_eq_true rfl) (Nat.le_of_ble_eq_true rfl) ⟨Nat.le_refl _, Nat.le_refl _⟩ dX12_awake_7 (fun r2 w3 h => ?_)
  exact g_iret (pc := 10) C hlk hr (Nat.le_refl _) (Nat.le_refl _) dX12_awake_10 h
def w_X12_blames (a0 : Nat) (a1 : Int32) (K : Wd → Prop) (w : Wd) : Prop :=
  isK w a0 12 ∧ (((wI w a0 12) = 0 → (((wI w a0 10) = 3 → K (uI (uI w a0 12 1) a0 13 (wI (uI w a0 12 1) a0 9))) ∧ (¬ (wI w a0 10) = 3 → K (uI (uI w a0 12 a1) a0 13 (wI (uI w a0 12 a1) a0 9))))) ∧ (¬ (wI w a0 12) = 0 → K w))
theorem c_X12_blames {x : xG} {l : Launch} {a0 : Nat} {a1 : Int32} {K : Wd → Prop} {w : Wd} (h : w_X12_blames a0 a1 K w) : Met l yX12_blames (xws yX12_blames cX12_blames 2 none) (rmd 0 0 0) (xPc x [.ref (adr x a0), .int a1] w) (QcV x K) 0 0 (xA x) := by
  refine xMet (by decide) (Nat.le_of_ble_eq_true rfl) (fun p e s m below meth c C hlk hr _ => ?_)
  show GW x p l e (rmd 0 0 0) s m [.ref (adr x a0), .int a1].toArray below meth c 2 (QV x K below [.ref (adr x a0), .int a1].toArray s 0 0) 0 [(0, .ref (adr x a0)), (1, .int a1)] [] w 0 0
  refine g_aload_n (pc := 0) C dX12_blames_0 (q := 0) rfl ?_
  obtain ⟨k1, h⟩ := h
  refine gfX12_93 (pc := 1) C k1 dX12_blames_1 ?_
  refine g_if_eq (pc := 4) C dX12_blames_4 (tgt := 8) rfl (fun z2 => ?_) (fun z2 => ?_)
  · replace h := h.1 z2
    refine g_aload_n (pc := 8) C dX12_blames_8 (q := 0) rfl ?_
    refine g_aload_n (pc := 9) C dX12_blames_9 (q := 0) rfl ?_
    refine gfX12_73 (pc := 10) C k1 dX12_blames_10 ?_
    refine g_iconst (pc := 13) C dX12_blames_13 (v := 3) rfl ?_
    refine g_icmp_ne (pc := 14) C dX12_blames_14 (tgt := 21) rfl (fun z3 => ?_) (fun z3 => ?_)
    · replace h := h.2 z3
      refine g_iload_n (pc := 21) C dX12_blames_21 (q := 1) rfl ?_
      refine pfX12_93 (pc := 22) C k1 dX12_blames_22 ?_
      refine g_aload_n (pc := 25) C dX12_blames_25 (q := 0) rfl ?_
      refine g_aload_n (pc := 26) C dX12_blames_26 (q := 0) rfl ?_
      refine gfX12_70 (pc := 27) (w := uI w a0 12 a1) C k1 dX12_blames_27 ?_
      refine pfX12_96 (pc := 30) (w := uI w a0 12 a1) C k1 dX12_blames_30 ?_
      exact g_vret (pc := 33) C hlk hr (Nat.le_refl _) (Nat.le_refl _) dX12_blames_33 h
    · replace h := h.1 z3
      refine g_iconst (pc := 17) C dX12_blames_17 (v := 1) rfl ?_
      refine g_goto (pc := 18) C dX12_blames_18 (tgt := 22) rfl ?_
      refine pfX12_93 (pc := 22) C k1 dX12_blames_22 ?_
      refine g_aload_n (pc := 25) C dX12_blames_25 (q := 0) rfl ?_
      refine g_aload_n (pc := 26) C dX12_blames_26 (q := 0) rfl ?_
      refine gfX12_70 (pc := 27) (w := uI w a0 12 1) C k1 dX12_blames_27 ?_
      refine pfX12_96 (pc := 30) (w := uI w a0 12 1) C k1 dX12_blames_30 ?_
      exact g_vret (pc := 33) C hlk hr (Nat.le_refl _) (Nat.le_refl _) dX12_blames_33 h
  · replace h := h.2 z2
    exact g_vret (pc := 7) C hlk hr (Nat.le_refl _) (Nat.le_refl _) dX12_blames_7 h
def w_X12_isDigit (a0 : Int32) (K : Int32 → Wd → Prop) (w : Wd) : Prop :=
  ((a0 < 48 → K 0 w) ∧ (¬ a0 < 48 → ((57 < a0 → K 0 w) ∧ (¬ 57 < a0 → K 1 w))))
theorem c_X12_isDigit {x : xG} {l : Launch} {a0 : Int32} {K : Int32 → Wd → Prop} {w : Wd} (h : w_X12_isDigit a0 K w) : Met l yX12_isDigit (xws yX12_isDigit cX12_isDigit 1 (some .boolean)) (rmd 0 0 0) (xPc x [.int a0] w) (QcI x K) 0 0 (xA x) := by
  refine xMet (by decide) (Nat.le_of_ble_eq_true rfl) (fun p e s m below meth c C hlk hr _ => ?_)
  show GW x p l e (rmd 0 0 0) s m [.int a0].toArray below meth c 1 (QI x K below [.int a0].toArray s 0 0) 0 [(0, .int a0)] [] w 0 0
  refine g_iload_n (pc := 0) C dX12_isDigit_0 (q := 0) rfl ?_
  refine g_bipush (pc := 1) C dX12_isDigit_1 (v := 48) rfl ?_
  refine g_icmp_lt (pc := 3) C dX12_isDigit_3 (tgt := 16) rfl (fun z1 => ?_) (fun z1 => ?_)
  · replace h := h.1 z1
    refine g_iconst (pc := 16) C dX12_isDigit_16 (v := 0) rfl ?_
    exact g_zret (pc := 17) C hlk hr (Nat.le_refl _) (Nat.le_refl _) dX12_isDigit_17 (Or.inl rfl) h
  · replace h := h.2 z1
    refine g_iload_n (pc := 6) C dX12_isDigit_6 (q := 0) rfl ?_
    refine g_bipush (pc := 7) C dX12_isDigit_7 (v := 57) rfl ?_
    refine g_icmp_gt (pc := 9) C dX12_isDigit_9 (tgt := 16) rfl (fun z2 => ?_) (fun z2 => ?_)
    · replace h := h.1 z2
      refine g_iconst (pc := 16) C dX12_isDigit_16 (v := 0) rfl ?_
      exact g_zret (pc := 17) C hlk hr (Nat.le_refl _) (Nat.le_refl _) dX12_isDigit_17 (Or.inl rfl) h
    · replace h := h.2 z2
      refine g_iconst (pc := 12) C dX12_isDigit_12 (v := 1) rfl ?_
      refine g_goto (pc := 13) C dX12_isDigit_13 (tgt := 17) rfl ?_
      exact g_zret (pc := 17) C hlk hr (Nat.le_refl _) (Nat.le_refl _) dX12_isDigit_17 (Or.inr rfl) h
def w_X12_isLetter (a0 : Int32) (K : Int32 → Wd → Prop) (w : Wd) : Prop :=
  ((a0 < 97 → K 0 w) ∧ (¬ a0 < 97 → ((122 < a0 → K 0 w) ∧ (¬ 122 < a0 → K 1 w))))
theorem c_X12_isLetter {x : xG} {l : Launch} {a0 : Int32} {K : Int32 → Wd → Prop} {w : Wd} (h : w_X12_isLetter a0 K w) : Met l yX12_isLetter (xws yX12_isLetter cX12_isLetter 1 (some .boolean)) (rmd 0 0 0) (xPc x [.int a0] w) (QcI x K) 0 0 (xA x) := by
  refine xMet (by decide) (Nat.le_of_ble_eq_true rfl) (fun p e s m below meth c C hlk hr _ => ?_)
  show GW x p l e (rmd 0 0 0) s m [.int a0].toArray below meth c 1 (QI x K below [.int a0].toArray s 0 0) 0 [(0, .int a0)] [] w 0 0
  refine g_iload_n (pc := 0) C dX12_isLetter_0 (q := 0) rfl ?_
  refine g_bipush (pc := 1) C dX12_isLetter_1 (v := 97) rfl ?_
  refine g_icmp_lt (pc := 3) C dX12_isLetter_3 (tgt := 16) rfl (fun z1 => ?_) (fun z1 => ?_)
  · replace h := h.1 z1
    refine g_iconst (pc := 16) C dX12_isLetter_16 (v := 0) rfl ?_
    exact g_zret (pc := 17) C hlk hr (Nat.le_refl _) (Nat.le_refl _) dX12_isLetter_17 (Or.inl rfl) h
  · replace h := h.2 z1
    refine g_iload_n (pc := 6) C dX12_isLetter_6 (q := 0) rfl ?_
    refine g_bipush (pc := 7) C dX12_isLetter_7 (v := 122) rfl ?_
    refine g_icmp_gt (pc := 9) C dX12_isLetter_9 (tgt := 16) rfl (fun z2 => ?_) (fun z2 => ?_)
    · replace h := h.1 z2
      refine g_iconst (pc := 16) C dX12_isLetter_16 (v := 0) rfl ?_
      exact g_zret (pc := 17) C hlk hr (Nat.le_refl _) (Nat.le_refl _) dX12_isLetter_17 (Or.inl rfl) h
    · replace h := h.2 z2
      refine g_iconst (pc := 12) C dX12_isLetter_12 (v := 1) rfl ?_
      refine g_goto (pc := 13) C dX12_isLetter_13 (tgt := 17) rfl ?_
      exact g_zret (pc := 17) C hlk hr (Nat.le_refl _) (Nat.le_refl _) dX12_isLetter_17 (Or.inr rfl) h
def j_X12_isSignByte_35  (K : Int32 → Wd → Prop) (a0 : Int32) (s0 : Int32) (w : Wd) : Prop :=
  ((s0 = 0 → ((a0 = 59 → K 1 w) ∧ (¬ a0 = 59 → ((a0 = 43 → K 1 w) ∧ (¬ a0 = 43 → ((a0 = 45 → K 1 w) ∧ (¬ a0 = 45 → ((a0 = 42 → K 1 w) ∧ (¬ a0 = 42 → ((a0 = 40 → K 1 w) ∧ (¬ a0 = 40 → ((a0 = 41 → K 1 w) ∧ (¬ a0 = 41 → K 0 w))))))))))))) ∧ (¬ s0 = 0 → K 1 w))
def w_X12_isSignByte (a0 : Int32) (K : Int32 → Wd → Prop) (w : Wd) : Prop :=
  ((a0 = 91 → j_X12_isSignByte_35 K a0 1 w) ∧ (¬ a0 = 91 → ((a0 = 93 → j_X12_isSignByte_35 K a0 1 w) ∧ (¬ a0 = 93 → ((a0 = 61 → j_X12_isSignByte_35 K a0 1 w) ∧ (¬ a0 = 61 → ((a0 = 60 → j_X12_isSignByte_35 K a0 1 w) ∧ (¬ a0 = 60 → ((a0 = 62 → j_X12_isSignByte_35 K a0 1 w) ∧ (¬ a0 = 62 → j_X12_isSignByte_35 K a0 0 w))))))))))
theorem t_X12_isSignByte_35 (C : xC x p s m c cX12_isSignByte 2 args RX12) (hlk : meth.locks = false) (hr : meth.sig.returnType = some .boolean) {K : Int32 → Wd → Prop}   (a0 : Int32) (s0 : Int32) (w : Wd) (h : j_X12_isSignByte_35 K a0 s0 w) : GW x p l e (rmd 0 0 0) s m args below meth c 2 (QI x K below args s 0 0) 35 [(0, .int a0)] [.int s0] w 0 0 := by
  refine g_istore_n (pc := 35) C dX12_isSignByte_35 (Nat.le_of_ble_eq_true rfl) (lo' := [(1, .int s0), (0, .int a0)]) rfl ?_
  refine g_iload_n (pc := 36) C dX12_isSignByte_36 (q := 0) rfl ?_
  refine g_if_ne (pc := 37) C dX12_isSignByte_37 (tgt := 76) rfl (fun z2 => ?_) (fun z2 => ?_)
  · replace h := h.2 z2
    refine g_iconst (pc := 76) C dX12_isSignByte_76 (v := 1) rfl ?_
    refine g_goto (pc := 77) C dX12_isSignByte_77 (tgt := 81) rfl ?_
    exact g_zret (pc := 81) C hlk hr (Nat.le_refl _) (Nat.le_refl _) dX12_isSignByte_81 (Or.inr rfl) h
  · replace h := h.1 z2
    refine g_iload_n (pc := 40) C dX12_isSignByte_40 (q := 1) rfl ?_
    refine g_bipush (pc := 41) C dX12_isSignByte_41 (v := 59) rfl ?_
    refine g_icmp_eq (pc := 43) C dX12_isSignByte_43 (tgt := 76) rfl (fun z3 => ?_) (fun z3 => ?_)
    · replace h := h.1 z3
      refine g_iconst (pc := 76) C dX12_isSignByte_76 (v := 1) rfl ?_
      refine g_goto (pc := 77) C dX12_isSignByte_77 (tgt := 81) rfl ?_
      exact g_zret (pc := 81) C hlk hr (Nat.le_refl _) (Nat.le_refl _) dX12_isSignByte_81 (Or.inr rfl) h
    · replace h := h.2 z3
      refine g_iload_n (pc := 46) C dX12_isSignByte_46 (q := 1) rfl ?_
      refine g_bipush (pc := 47) C dX12_isSignByte_47 (v := 43) rfl ?_
      refine g_icmp_eq (pc := 49) C dX12_isSignByte_49 (tgt := 76) rfl (fun z4 => ?_) (fun z4 => ?_)
      · replace h := h.1 z4
        refine g_iconst (pc := 76) C dX12_isSignByte_76 (v := 1) rfl ?_
        refine g_goto (pc := 77) C dX12_isSignByte_77 (tgt := 81) rfl ?_
        exact g_zret (pc := 81) C hlk hr (Nat.le_refl _) (Nat.le_refl _) dX12_isSignByte_81 (Or.inr rfl) h
      · replace h := h.2 z4
        refine g_iload_n (pc := 52) C dX12_isSignByte_52 (q := 1) rfl ?_
        refine g_bipush (pc := 53) C dX12_isSignByte_53 (v := 45) rfl ?_
        refine g_icmp_eq (pc := 55) C dX12_isSignByte_55 (tgt := 76) rfl (fun z5 => ?_) (fun z5 => ?_)
        · replace h := h.1 z5
          refine g_iconst (pc := 76) C dX12_isSignByte_76 (v := 1) rfl ?_
          refine g_goto (pc := 77) C dX12_isSignByte_77 (tgt := 81) rfl ?_
          exact g_zret (pc := 81) C hlk hr (Nat.le_refl _) (Nat.le_refl _) dX12_isSignByte_81 (Or.inr rfl) h
        · replace h := h.2 z5
          refine g_iload_n (pc := 58) C dX12_isSignByte_58 (q := 1) rfl ?_
          refine g_bipush (pc := 59) C dX12_isSignByte_59 (v := 42) rfl ?_
          refine g_icmp_eq (pc := 61) C dX12_isSignByte_61 (tgt := 76) rfl (fun z6 => ?_) (fun z6 => ?_)
          · replace h := h.1 z6
            refine g_iconst (pc := 76) C dX12_isSignByte_76 (v := 1) rfl ?_
            refine g_goto (pc := 77) C dX12_isSignByte_77 (tgt := 81) rfl ?_
            exact g_zret (pc := 81) C hlk hr (Nat.le_refl _) (Nat.le_refl _) dX12_isSignByte_81 (Or.inr rfl) h
          · replace h := h.2 z6
            refine g_iload_n (pc := 64) C dX12_isSignByte_64 (q := 1) rfl ?_
            refine g_bipush (pc := 65) C dX12_isSignByte_65 (v := 40) rfl ?_
            refine g_icmp_eq (pc := 67) C dX12_isSignByte_67 (tgt := 76) rfl (fun z7 => ?_) (fun z7 => ?_)
            · replace h := h.1 z7
              refine g_iconst (pc := 76) C dX12_isSignByte_76 (v := 1) rfl ?_
              refine g_goto (pc := 77) C dX12_isSignByte_77 (tgt := 81) rfl ?_
              exact g_zret (pc := 81) C hlk hr (Nat.le_refl _) (Nat.le_refl _) dX12_isSignByte_81 (Or.inr rfl) h
            · replace h := h.2 z7
              refine g_iload_n (pc := 70) C dX12_isSignByte_70 (q := 1) rfl ?_
              refine g_bipush (pc := 71) C dX12_isSignByte_71 (v := 41) rfl ?_
              refine g_icmp_ne (pc := 73) C dX12_isSignByte_73 (tgt := 80) rfl (fun z8 => ?_) (fun z8 => ?_)
              · replace h := h.2 z8
                refine g_iconst (pc := 80) C dX12_isSignByte_80 (v := 0) rfl ?_
                exact g_zret (pc := 81) C hlk hr (Nat.le_refl _) (Nat.le_refl _) dX12_isSignByte_81 (Or.inl rfl) h
              · replace h := h.1 z8
                refine g_iconst (pc := 76) C dX12_isSignByte_76 (v := 1) rfl ?_
                refine g_goto (pc := 77) C dX12_isSignByte_77 (tgt := 81) rfl ?_
                exact g_zret (pc := 81) C hlk hr (Nat.le_refl _) (Nat.le_refl _) dX12_isSignByte_81 (Or.inr rfl) h
theorem c_X12_isSignByte {x : xG} {l : Launch} {a0 : Int32} {K : Int32 → Wd → Prop} {w : Wd} (h : w_X12_isSignByte a0 K w) : Met l yX12_isSignByte (xws yX12_isSignByte cX12_isSignByte 2 (some .boolean)) (rmd 0 0 0) (xPc x [.int a0] w) (QcI x K) 0 0 (xA x) := by
  refine xMet (by decide) (Nat.le_of_ble_eq_true rfl) (fun p e s m below meth c C hlk hr _ => ?_)
  show GW x p l e (rmd 0 0 0) s m [.int a0].toArray below meth c 2 (QI x K below [.int a0].toArray s 0 0) 0 [(0, .int a0)] [] w 0 0
  refine g_iload_n (pc := 0) C dX12_isSignByte_0 (q := 0) rfl ?_
  refine g_bipush (pc := 1) C dX12_isSignByte_1 (v := 91) rfl ?_
  refine g_icmp_eq (pc := 3) C dX12_isSignByte_3 (tgt := 30) rfl (fun z1 => ?_) (fun z1 => ?_)
  · replace h := h.1 z1
    refine g_iconst (pc := 30) C dX12_isSignByte_30 (v := 1) rfl ?_
    refine g_goto (pc := 31) C dX12_isSignByte_31 (tgt := 35) rfl ?_
    exact t_X12_isSignByte_35 C hlk hr  _ _ _ h
  · replace h := h.2 z1
    refine g_iload_n (pc := 6) C dX12_isSignByte_6 (q := 0) rfl ?_
    refine g_bipush (pc := 7) C dX12_isSignByte_7 (v := 93) rfl ?_
    refine g_icmp_eq (pc := 9) C dX12_isSignByte_9 (tgt := 30) rfl (fun z9 => ?_) (fun z9 => ?_)
    · replace h := h.1 z9
      refine g_iconst (pc := 30) C dX12_isSignByte_30 (v := 1) rfl ?_
      refine g_goto (pc := 31) C dX12_isSignByte_31 (tgt := 35) rfl ?_
      exact t_X12_isSignByte_35 C hlk hr  _ _ _ h
    · replace h := h.2 z9
      refine g_iload_n (pc := 12) C dX12_isSignByte_12 (q := 0) rfl ?_
      refine g_bipush (pc := 13) C dX12_isSignByte_13 (v := 61) rfl ?_
      refine g_icmp_eq (pc := 15) C dX12_isSignByte_15 (tgt := 30) rfl (fun z10 => ?_) (fun z10 => ?_)
      · replace h := h.1 z10
        refine g_iconst (pc := 30) C dX12_isSignByte_30 (v := 1) rfl ?_
        refine g_goto (pc := 31) C dX12_isSignByte_31 (tgt := 35) rfl ?_
        exact t_X12_isSignByte_35 C hlk hr  _ _ _ h
      · replace h := h.2 z10
        refine g_iload_n (pc := 18) C dX12_isSignByte_18 (q := 0) rfl ?_
        refine g_bipush (pc := 19) C dX12_isSignByte_19 (v := 60) rfl ?_
        refine g_icmp_eq (pc := 21) C dX12_isSignByte_21 (tgt := 30) rfl (fun z11 => ?_) (fun z11 => ?_)
        · replace h := h.1 z11
          refine g_iconst (pc := 30) C dX12_isSignByte_30 (v := 1) rfl ?_
          refine g_goto (pc := 31) C dX12_isSignByte_31 (tgt := 35) rfl ?_
          exact t_X12_isSignByte_35 C hlk hr  _ _ _ h
        · replace h := h.2 z11
          refine g_iload_n (pc := 24) C dX12_isSignByte_24 (q := 0) rfl ?_
          refine g_bipush (pc := 25) C dX12_isSignByte_25 (v := 62) rfl ?_
          refine g_icmp_ne (pc := 27) C dX12_isSignByte_27 (tgt := 34) rfl (fun z12 => ?_) (fun z12 => ?_)
          · replace h := h.2 z12
            refine g_iconst (pc := 34) C dX12_isSignByte_34 (v := 0) rfl ?_
            exact t_X12_isSignByte_35 C hlk hr  _ _ _ h
          · replace h := h.1 z12
            refine g_iconst (pc := 30) C dX12_isSignByte_30 (v := 1) rfl ?_
            refine g_goto (pc := 31) C dX12_isSignByte_31 (tgt := 35) rfl ?_
            exact t_X12_isSignByte_35 C hlk hr  _ _ _ h
def w_X12_see (a0 : Nat) (a1 : Int32) (K : Int32 → Wd → Prop) (w : Wd) : Prop :=
  isK w a0 12 ∧ (((wI w a0 7) ≤ a1 → K 0 w) ∧ (¬ (wI w a0 7) ≤ a1 → isK w (wR w a0 5) 20 ∧ vp_in a1 (wn w (wR w a0 5)) ∧ K (wI w (wR w a0 5) a1.toNatClampNeg) w))
theorem c_X12_see {x : xG} {l : Launch} {a0 : Nat} {a1 : Int32} {K : Int32 → Wd → Prop} {w : Wd} (h : w_X12_see a0 a1 K w) : Met l yX12_see (xws yX12_see cX12_see 2 (some .int)) (rmd 0 0 0) (xPc x [.ref (adr x a0), .int a1] w) (QcI x K) 0 0 (xA x) := by
  refine xMet (by decide) (Nat.le_of_ble_eq_true rfl) (fun p e s m below meth c C hlk hr _ => ?_)
  show GW x p l e (rmd 0 0 0) s m [.ref (adr x a0), .int a1].toArray below meth c 2 (QI x K below [.ref (adr x a0), .int a1].toArray s 0 0) 0 [(0, .ref (adr x a0)), (1, .int a1)] [] w 0 0
  refine g_iload_n (pc := 0) C dX12_see_0 (q := 1) rfl ?_
  refine g_aload_n (pc := 1) C dX12_see_1 (q := 0) rfl ?_
  obtain ⟨k1, h⟩ := h
  refine gfX12_64 (pc := 2) C k1 dX12_see_2 ?_
  refine g_icmp_ge (pc := 5) C dX12_see_5 (tgt := 17) rfl (fun z2 => ?_) (fun z2 => ?_)
  · replace h := h.1 z2
    refine g_iconst (pc := 17) C dX12_see_17 (v := 0) rfl ?_
    exact g_iret (pc := 18) C hlk hr (Nat.le_refl _) (Nat.le_refl _) dX12_see_18 h
  · replace h := h.2 z2
    refine g_aload_n (pc := 8) C dX12_see_8 (q := 0) rfl ?_
    obtain ⟨k3, h⟩ := h
    refine gfX12_23 (pc := 9) C k1 (isK_ne k3) dX12_see_9 ?_
    refine g_iload_n (pc := 12) C dX12_see_12 (q := 1) rfl ?_
    obtain ⟨k4, h⟩ := h
    refine g_iald (pc := 13) C k3 k4 dX12_see_13 ?_
    refine g_goto (pc := 14) C dX12_see_14 (tgt := 18) rfl ?_
    exact g_iret (pc := 18) C hlk hr (Nat.le_refl _) (Nat.le_refl _) dX12_see_18 h
theorem miX12_76 (C : xC x p s m c cc nL args RX12) {a0 : Int32} {K : Int32 → Wd → Prop} {D MC MS : Nat} (h : w_X12_isLetter a0 K w) (hD : 0 + 1 ≤ D) (hW : (st.map fun v => v.category).sum ≤ 8) (hij : i ≤ MC ∧ j ≤ MS) (hd : decode cc pc = .ok (.invokestatic 76, 3)) (k : ∀ (r : Int32) (u : Wd), K r u → GW x p l e (rmd D MC MS) s m args below meth c nL Q (pc + 3) lo (.int r :: st) u i j) : GW x p l e (rmd D MC MS) s m args below meth c nL Q pc lo (.int a0 :: st) w i j := g_callSi0 C (As := [.int a0]) (c_X12_isLetter h) (x_cwS C 1 LMX12_76 ⟨by decide, by decide, rfl⟩ hD (by decide)) rfl rfl hW hd hij k
theorem miX12_80 (C : xC x p s m c cc nL args RX12) {a0 : Nat} {a1 : Int32} {K : Int32 → Wd → Prop} {D MC MS : Nat} (hq : isK w a0 12) (h : w_X12_see a0 a1 K w) (hD : 0 + 1 ≤ D) (hW : (st.map fun v => v.category).sum ≤ 8) (hij : i ≤ MC ∧ j ≤ MS) (hd : decode cc pc = .ok (.invokevirtual 80, 3)) (k : ∀ (r : Int32) (u : Wd), K r u → GW x p l e (rmd D MC MS) s m args below meth c nL Q (pc + 3) lo (.int r :: st) u i j) : GW x p l e (rmd D MC MS) s m args below meth c nL Q pc lo (.int a1 :: .ref (adr x a0) :: st) w i j := g_callVi0 C (As := [.int a1]) (ci := 12) (c_X12_see h) (x_cwV C 1 LMX12_80 ⟨rfl, by decide, by decide, rfl⟩ hD (by decide)) rfl hq (by decide) rfl rfl hW hd hij k
theorem miX12_84 (C : xC x p s m c cc nL args RX12) {a0 : Int32} {K : Int32 → Wd → Prop} {D MC MS : Nat} (h : w_X12_isDigit a0 K w) (hD : 0 + 1 ≤ D) (hW : (st.map fun v => v.category).sum ≤ 8) (hij : i ≤ MC ∧ j ≤ MS) (hd : decode cc pc = .ok (.invokestatic 84, 3)) (k : ∀ (r : Int32) (u : Wd), K r u → GW x p l e (rmd D MC MS) s m args below meth c nL Q (pc + 3) lo (.int r :: st) u i j) : GW x p l e (rmd D MC MS) s m args below meth c nL Q pc lo (.int a0 :: st) w i j := g_callSi0 C (As := [.int a0]) (c_X12_isDigit h) (x_cwS C 1 LMX12_84 ⟨by decide, by decide, rfl⟩ hD (by decide)) rfl rfl hW hd hij k
theorem miX12_90 (C : xC x p s m c cc nL args RX12) {a0 : Int32} {K : Int32 → Wd → Prop} {D MC MS : Nat} (h : w_X12_isSignByte a0 K w) (hD : 0 + 1 ≤ D) (hW : (st.map fun v => v.category).sum ≤ 8) (hij : i ≤ MC ∧ j ≤ MS) (hd : decode cc pc = .ok (.invokestatic 90, 3)) (k : ∀ (r : Int32) (u : Wd), K r u → GW x p l e (rmd D MC MS) s m args below meth c nL Q (pc + 3) lo (.int r :: st) u i j) : GW x p l e (rmd D MC MS) s m args below meth c nL Q pc lo (.int a0 :: st) w i j := g_callSi0 C (As := [.int a0]) (c_X12_isSignByte h) (x_cwS C 1 LMX12_90 ⟨by decide, by decide, rfl⟩ hD (by decide)) rfl rfl hW hd hij k
def l_X12_readsOn_0 (E52 : Nat → Wd → Prop) (K : Wd → Prop) : Nat → Nat → Wd → Prop
  | 0, _, _ => False
  | n + 1, a0, w => isK w a0 12 ∧ (((wI w a0 7) ≤ (wI w a0 8) → E52 a0 w) ∧ (¬ (wI w a0 7) ≤ (wI w a0 8) → isK w (wR w a0 5) 20 ∧ vp_in (wI w a0 8) (wn w (wR w a0 5)) ∧ (((wI w (wR w a0 5) (wI w a0 8).toNatClampNeg) = 32 → l_X12_readsOn_0 E52 K n a0 (uI w a0 8 ((wI w a0 8) + 1))) ∧ (¬ (wI w (wR w a0 5) (wI w a0 8).toNatClampNeg) = 32 → vp_in (wI w a0 8) (wn w (wR w a0 5)) ∧ (((wI w (wR w a0 5) (wI w a0 8).toNatClampNeg) = 10 → l_X12_readsOn_0 E52 K n a0 (uI w a0 8 ((wI w a0 8) + 1))) ∧ (¬ (wI w (wR w a0 5) (wI w a0 8).toNatClampNeg) = 10 → E52 a0 w))))))
def l_X12_readsOn_141 (E212 : Nat → Wd → Prop) (K : Wd → Prop) : Nat → Nat → Wd → Prop
  | 0, _, _ => False
  | n + 1, a0, w => isK w a0 12 ∧ w_X12_see a0 (wI w a0 8) (fun r27 w28 => w_X12_isDigit r27 (fun r29 w30 => ((r29 = 0 → E212 a0 w30) ∧ (¬ r29 = 0 → isK w30 a0 12 ∧ ((3 ≤ ((wI w30 a0 8) - (wI w30 a0 9)) → l_X12_readsOn_141 E212 K n a0 (uI (uI w30 a0 11 (wI w30 a0 11)) a0 8 ((wI (uI w30 a0 11 (wI w30 a0 11)) a0 8) + 1))) ∧ (¬ 3 ≤ ((wI w30 a0 8) - (wI w30 a0 9)) → isK w30 (wR w30 a0 5) 20 ∧ vp_in (wI w30 a0 8) (wn w30 (wR w30 a0 5)) ∧ l_X12_readsOn_141 E212 K n a0 (uI (uI w30 a0 11 (((10 * (wI w30 a0 11)) + (wI w30 (wR w30 a0 5) (wI w30 a0 8).toNatClampNeg)) - 48)) a0 8 ((wI (uI w30 a0 11 (((10 * (wI w30 a0 11)) + (wI w30 (wR w30 a0 5) (wI w30 a0 8).toNatClampNeg)) - 48)) a0 8) + 1))))))) w28) w
def l_X12_readsOn_94  (K : Wd → Prop) : Nat → Nat → Wd → Prop
  | 0, _, _ => False
  | n + 1, a0, w => isK w a0 12 ∧ w_X12_see a0 (wI w a0 8) (fun r42 w43 => w_X12_isLetter r42 (fun r44 w45 => ((r44 = 0 → isK w45 a0 12 ∧ K (uI w45 a0 10 1)) ∧ (¬ r44 = 0 → isK w45 a0 12 ∧ l_X12_readsOn_94 K n a0 (uI w45 a0 8 ((wI w45 a0 8) + 1))))) w43) w
def j_X12_readsOn_52  (K : Wd → Prop) (a0 : Nat) (w : Wd) : Prop :=
  isK w a0 12 ∧ (((wI (uI w a0 9 (wI w a0 8)) a0 8) < (wI (uI w a0 9 (wI w a0 8)) a0 7) → isK w (wR w a0 5) 20 ∧ vp_in (wI (uI w a0 9 (wI w a0 8)) a0 8) (wn w (wR w a0 5)) ∧ w_X12_isLetter (wI (uI w a0 9 (wI w a0 8)) (wR w a0 5) (wI (uI w a0 9 (wI w a0 8)) a0 8).toNatClampNeg) (fun r14 w15 => ((r14 = 0 → w_X12_isDigit (wI (uI w a0 9 (wI w a0 8)) (wR w a0 5) (wI (uI w a0 9 (wI w a0 8)) a0 8).toNatClampNeg) (fun r17 w18 => ((r17 = 0 → w_X12_isSignByte (wI (uI w a0 9 (wI w a0 8)) (wR w a0 5) (wI (uI w a0 9 (wI w a0 8)) a0 8).toNatClampNeg) (fun r20 w21 => ((r20 = 0 → isK w21 a0 12 ∧ K (uI (uI w21 a0 10 3) a0 8 ((wI (uI w21 a0 10 3) a0 8) + 1))) ∧ (¬ r20 = 0 → isK w21 a0 12 ∧ K (uI (uI w21 a0 10 (wI (uI w a0 9 (wI w a0 8)) (wR w a0 5) (wI (uI w a0 9 (wI w a0 8)) a0 8).toNatClampNeg)) a0 8 ((wI (uI w21 a0 10 (wI (uI w a0 9 (wI w a0 8)) (wR w a0 5) (wI (uI w a0 9 (wI w a0 8)) a0 8).toNatClampNeg)) a0 8) + 1))))) w18) ∧ (¬ r17 = 0 → isK w18 a0 12 ∧ ∃ n40, l_X12_readsOn_141 (fun b36 w37 => isK w37 b36 12 ∧ ((((wI w37 b36 8) - (wI w37 b36 9)) ≤ 3 → K (uI w37 b36 10 2)) ∧ (¬ ((wI w37 b36 8) - (wI w37 b36 9)) ≤ 3 → K (uI w37 b36 10 3)))) K n40 a0 (uI w18 a0 11 0)))) w15) ∧ (¬ r14 = 0 → ∃ n49, l_X12_readsOn_94  K n49 a0 w15))) (uI w a0 9 (wI w a0 8))) ∧ (¬ (wI (uI w a0 9 (wI w a0 8)) a0 8) < (wI (uI w a0 9 (wI w a0 8)) a0 7) → K (uI (uI w a0 9 (wI w a0 8)) a0 10 0)))
def w_X12_readsOn (a0 : Nat) (K : Wd → Prop) (w : Wd) : Prop :=
  ∃ n50, l_X12_readsOn_0 (fun b8 w9 => j_X12_readsOn_52 K b8 w9) K n50 a0 w
theorem t_X12_readsOn_0 (C : xC x p s m c cX12_readsOn 2 args RX12) (hlk : meth.locks = false) (hr : meth.sig.returnType = none) {K : Wd → Prop} {E52 : Nat → Wd → Prop} (hE52 : ∀ (b0 : Nat) (w : Wd), E52 b0 w → GW x p l e (rmd 1 0 0) s m args below meth c 2 (QV x K below args s 0 0) 52 [(0, .ref (adr x b0))] [] w 0 0) : ∀ (n : Nat) (a0 : Nat) (w : Wd), l_X12_readsOn_0 E52 K n a0 w → GW x p l e (rmd 1 0 0) s m args below meth c 2 (QV x K below args s 0 0) 0 [(0, .ref (adr x a0))] [] w 0 0 := by
  intro n
  induction n with
  | zero => intro _ _ h; exact False.elim h
  | succ n ih =>
    intro a0 w h
    refine g_aload_n (pc := 0) C dX12_readsOn_0 (q := 0) rfl ?_
    obtain ⟨k1, h⟩ := h
    refine gfX12_67 (pc := 1) C k1 dX12_readsOn_1 ?_
    refine g_aload_n (pc := 4) C dX12_readsOn_4 (q := 0) rfl ?_
    refine gfX12_64 (pc := 5) C k1 dX12_readsOn_5 ?_
    refine g_icmp_ge (pc := 8) C dX12_readsOn_8 (tgt := 52) rfl (fun z2 => ?_) (fun z2 => ?_)
    · replace h := h.1 z2
      exact hE52 _ _ h
    · replace h := h.2 z2
      refine g_aload_n (pc := 11) C dX12_readsOn_11 (q := 0) rfl ?_
      obtain ⟨k3, h⟩ := h
      refine gfX12_23 (pc := 12) C k1 (isK_ne k3) dX12_readsOn_12 ?_
      refine g_aload_n (pc := 15) C dX12_readsOn_15 (q := 0) rfl ?_
      refine gfX12_67 (pc := 16) C k1 dX12_readsOn_16 ?_
      obtain ⟨k4, h⟩ := h
      refine g_iald (pc := 19) C k3 k4 dX12_readsOn_19 ?_
      refine g_bipush (pc := 20) C dX12_readsOn_20 (v := 32) rfl ?_
      refine g_icmp_eq (pc := 22) C dX12_readsOn_22 (tgt := 39) rfl (fun z5 => ?_) (fun z5 => ?_)
      · replace h := h.1 z5
        refine g_aload_n (pc := 39) C dX12_readsOn_39 (q := 0) rfl ?_
        refine g_dup (pc := 40) C dX12_readsOn_40 rfl ?_
        refine gfX12_67 (pc := 41) C k1 dX12_readsOn_41 ?_
        refine g_iconst (pc := 44) C dX12_readsOn_44 (v := 1) rfl ?_
        refine g_iadd (pc := 45) C dX12_readsOn_45 ?_
        refine pfX12_67 (pc := 46) C k1 dX12_readsOn_46 ?_
        refine g_goto (pc := 49) C dX12_readsOn_49 (tgt := 0) rfl ?_
        exact ih _ _ h
      · replace h := h.2 z5
        refine g_aload_n (pc := 25) C dX12_readsOn_25 (q := 0) rfl ?_
        refine gfX12_23 (pc := 26) C k1 (isK_ne k3) dX12_readsOn_26 ?_
        refine g_aload_n (pc := 29) C dX12_readsOn_29 (q := 0) rfl ?_
        refine gfX12_67 (pc := 30) C k1 dX12_readsOn_30 ?_
        obtain ⟨k6, h⟩ := h
        refine g_iald (pc := 33) C k3 k6 dX12_readsOn_33 ?_
        refine g_bipush (pc := 34) C dX12_readsOn_34 (v := 10) rfl ?_
        refine g_icmp_ne (pc := 36) C dX12_readsOn_36 (tgt := 52) rfl (fun z7 => ?_) (fun z7 => ?_)
        · replace h := h.2 z7
          exact hE52 _ _ h
        · replace h := h.1 z7
          refine g_aload_n (pc := 39) C dX12_readsOn_39 (q := 0) rfl ?_
          refine g_dup (pc := 40) C dX12_readsOn_40 rfl ?_
          refine gfX12_67 (pc := 41) C k1 dX12_readsOn_41 ?_
          refine g_iconst (pc := 44) C dX12_readsOn_44 (v := 1) rfl ?_
          refine g_iadd (pc := 45) C dX12_readsOn_45 ?_
          refine pfX12_67 (pc := 46) C k1 dX12_readsOn_46 ?_
          refine g_goto (pc := 49) C dX12_readsOn_49 (tgt := 0) rfl ?_
          exact ih _ _ h
theorem t_X12_readsOn_141 (C : xC x p s m c cX12_readsOn 2 args RX12) (hlk : meth.locks = false) (hr : meth.sig.returnType = none) {K : Wd → Prop} {E212 : Nat → Wd → Prop} (hE212 : ∀ (b0 : Nat) (w : Wd), E212 b0 w → GW x p l e (rmd 1 0 0) s m args below meth c 2 (QV x K below args s 0 0) 212 [(0, .ref (adr x b0))] [] w 0 0) : ∀ (n : Nat) (a0 : Nat) (w : Wd), l_X12_readsOn_141 E212 K n a0 w → GW x p l e (rmd 1 0 0) s m args below meth c 2 (QV x K below args s 0 0) 141 [(0, .ref (adr x a0))] [] w 0 0 := by
  intro n
  induction n with
  | zero => intro _ _ h; exact False.elim h
  | succ n ih =>
    intro a0 w h
    refine g_aload_n (pc := 141) C dX12_readsOn_141 (q := 0) rfl ?_
    refine g_aload_n (pc := 142) C dX12_readsOn_142 (q := 0) rfl ?_
    obtain ⟨k26, h⟩ := h
    refine gfX12_67 (pc := 143) C k26 dX12_readsOn_143 ?_
    refine miX12_80 (pc := 146) C k26 h (Nat.le_of_ble_eq_true rfl) (Nat.le_of_ble_eq_true rfl) ⟨Nat.le_refl _, Nat.le_refl _⟩ dX12_readsOn_146 (fun r27 w28 h => ?_)
    refine miX12_84 (pc := 149) C h (Nat.le_of_ble_eq_true rfl) (Nat.le_of_ble_eq_true rfl) ⟨Nat.le_refl _, Nat.le_refl _⟩ dX12_readsOn_149 (fun r29 w30 h => ?_)
    refine g_if_eq (pc := 152) C dX12_readsOn_152 (tgt := 212) rfl (fun z31 => ?_) (fun z31 => ?_)
    · replace h := h.1 z31
      exact hE212 _ _ h
    · replace h := h.2 z31
      refine g_aload_n (pc := 155) C dX12_readsOn_155 (q := 0) rfl ?_
      refine g_aload_n (pc := 156) C dX12_readsOn_156 (q := 0) rfl ?_
      obtain ⟨k32, h⟩ := h
      refine gfX12_67 (pc := 157) C k32 dX12_readsOn_157 ?_
      refine g_aload_n (pc := 160) C dX12_readsOn_160 (q := 0) rfl ?_
      refine gfX12_70 (pc := 161) C k32 dX12_readsOn_161 ?_
      refine g_isub (pc := 164) C dX12_readsOn_164 ?_
      refine g_iconst (pc := 165) C dX12_readsOn_165 (v := 3) rfl ?_
      refine g_icmp_ge (pc := 166) C dX12_readsOn_166 (tgt := 192) rfl (fun z33 => ?_) (fun z33 => ?_)
      · replace h := h.1 z33
        refine g_aload_n (pc := 192) C dX12_readsOn_192 (q := 0) rfl ?_
        refine gfX12_87 (pc := 193) C k32 dX12_readsOn_193 ?_
        refine pfX12_87 (pc := 196) C k32 dX12_readsOn_196 ?_
        refine g_aload_n (pc := 199) C dX12_readsOn_199 (q := 0) rfl ?_
        refine g_dup (pc := 200) C dX12_readsOn_200 rfl ?_
        refine gfX12_67 (pc := 201) (w := uI w30 a0 11 (wI w30 a0 11)) C k32 dX12_readsOn_201 ?_
        refine g_iconst (pc := 204) C dX12_readsOn_204 (v := 1) rfl ?_
        refine g_iadd (pc := 205) C dX12_readsOn_205 ?_
        refine pfX12_67 (pc := 206) (w := uI w30 a0 11 (wI w30 a0 11)) C k32 dX12_readsOn_206 ?_
        refine g_goto (pc := 209) C dX12_readsOn_209 (tgt := 141) rfl ?_
        exact ih _ _ h
      · replace h := h.2 z33
        refine g_bipush (pc := 169) C dX12_readsOn_169 (v := 10) rfl ?_
        refine g_aload_n (pc := 171) C dX12_readsOn_171 (q := 0) rfl ?_
        refine gfX12_87 (pc := 172) C k32 dX12_readsOn_172 ?_
        refine g_imul (pc := 175) C dX12_readsOn_175 ?_
        refine g_aload_n (pc := 176) C dX12_readsOn_176 (q := 0) rfl ?_
        obtain ⟨k34, h⟩ := h
        refine gfX12_23 (pc := 177) C k32 (isK_ne k34) dX12_readsOn_177 ?_
        refine g_aload_n (pc := 180) C dX12_readsOn_180 (q := 0) rfl ?_
        refine gfX12_67 (pc := 181) C k32 dX12_readsOn_181 ?_
        obtain ⟨k35, h⟩ := h
        refine g_iald (pc := 184) C k34 k35 dX12_readsOn_184 ?_
        refine g_iadd (pc := 185) C dX12_readsOn_185 ?_
        refine g_bipush (pc := 186) C dX12_readsOn_186 (v := 48) rfl ?_
        refine g_isub (pc := 188) C dX12_readsOn_188 ?_
        refine g_goto (pc := 189) C dX12_readsOn_189 (tgt := 196) rfl ?_
        refine pfX12_87 (pc := 196) C k32 dX12_readsOn_196 ?_
        refine g_aload_n (pc := 199) C dX12_readsOn_199 (q := 0) rfl ?_
        refine g_dup (pc := 200) C dX12_readsOn_200 rfl ?_
        refine gfX12_67 (pc := 201) (w := uI w30 a0 11 (((10 * (wI w30 a0 11)) + (wI w30 (wR w30 a0 5) (wI w30 a0 8).toNatClampNeg)) - 48)) C k32 dX12_readsOn_201 ?_
        refine g_iconst (pc := 204) C dX12_readsOn_204 (v := 1) rfl ?_
        refine g_iadd (pc := 205) C dX12_readsOn_205 ?_
        refine pfX12_67 (pc := 206) (w := uI w30 a0 11 (((10 * (wI w30 a0 11)) + (wI w30 (wR w30 a0 5) (wI w30 a0 8).toNatClampNeg)) - 48)) C k32 dX12_readsOn_206 ?_
        refine g_goto (pc := 209) C dX12_readsOn_209 (tgt := 141) rfl ?_
        exact ih _ _ h
theorem t_X12_readsOn_94 (C : xC x p s m c cX12_readsOn 2 args RX12) (hlk : meth.locks = false) (hr : meth.sig.returnType = none) {K : Wd → Prop}   : ∀ (n : Nat) (a0 : Nat) (w : Wd), l_X12_readsOn_94 K n a0 w → GW x p l e (rmd 1 0 0) s m args below meth c 2 (QV x K below args s 0 0) 94 [(0, .ref (adr x a0))] [] w 0 0 := by
  intro n
  induction n with
  | zero => intro _ _ h; exact False.elim h
  | succ n ih =>
    intro a0 w h
    refine g_aload_n (pc := 94) C dX12_readsOn_94 (q := 0) rfl ?_
    refine g_aload_n (pc := 95) C dX12_readsOn_95 (q := 0) rfl ?_
    obtain ⟨k41, h⟩ := h
    refine gfX12_67 (pc := 96) C k41 dX12_readsOn_96 ?_
    refine miX12_80 (pc := 99) C k41 h (Nat.le_of_ble_eq_true rfl) (Nat.le_of_ble_eq_true rfl) ⟨Nat.le_refl _, Nat.le_refl _⟩ dX12_readsOn_99 (fun r42 w43 h => ?_)
    refine miX12_76 (pc := 102) C h (Nat.le_of_ble_eq_true rfl) (Nat.le_of_ble_eq_true rfl) ⟨Nat.le_refl _, Nat.le_refl _⟩ dX12_readsOn_102 (fun r44 w45 h => ?_)
    refine g_if_eq (pc := 105) C dX12_readsOn_105 (tgt := 121) rfl (fun z46 => ?_) (fun z46 => ?_)
    · replace h := h.1 z46
      refine g_aload_n (pc := 121) C dX12_readsOn_121 (q := 0) rfl ?_
      refine g_iconst (pc := 122) C dX12_readsOn_122 (v := 1) rfl ?_
      obtain ⟨k47, h⟩ := h
      refine pfX12_73 (pc := 123) C k47 dX12_readsOn_123 ?_
      refine g_goto (pc := 126) C dX12_readsOn_126 (tgt := 263) rfl ?_
      exact g_vret (pc := 263) C hlk hr (Nat.le_refl _) (Nat.le_refl _) dX12_readsOn_263 h
    · replace h := h.2 z46
      refine g_aload_n (pc := 108) C dX12_readsOn_108 (q := 0) rfl ?_
      refine g_dup (pc := 109) C dX12_readsOn_109 rfl ?_
      obtain ⟨k48, h⟩ := h
      refine gfX12_67 (pc := 110) C k48 dX12_readsOn_110 ?_
      refine g_iconst (pc := 113) C dX12_readsOn_113 (v := 1) rfl ?_
      refine g_iadd (pc := 114) C dX12_readsOn_114 ?_
      refine pfX12_67 (pc := 115) C k48 dX12_readsOn_115 ?_
      refine g_goto (pc := 118) C dX12_readsOn_118 (tgt := 94) rfl ?_
      exact ih _ _ h
theorem t_X12_readsOn_52 (C : xC x p s m c cX12_readsOn 2 args RX12) (hlk : meth.locks = false) (hr : meth.sig.returnType = none) {K : Wd → Prop}   (a0 : Nat) (w : Wd) (h : j_X12_readsOn_52 K a0 w) : GW x p l e (rmd 1 0 0) s m args below meth c 2 (QV x K below args s 0 0) 52 [(0, .ref (adr x a0))] [] w 0 0 := by
  refine g_aload_n (pc := 52) C dX12_readsOn_52 (q := 0) rfl ?_
  refine g_aload_n (pc := 53) C dX12_readsOn_53 (q := 0) rfl ?_
  obtain ⟨k10, h⟩ := h
  refine gfX12_67 (pc := 54) C k10 dX12_readsOn_54 ?_
  refine pfX12_70 (pc := 57) C k10 dX12_readsOn_57 ?_
  refine g_aload_n (pc := 60) C dX12_readsOn_60 (q := 0) rfl ?_
  refine gfX12_67 (pc := 61) (w := uI w a0 9 (wI w a0 8)) C k10 dX12_readsOn_61 ?_
  refine g_aload_n (pc := 64) C dX12_readsOn_64 (q := 0) rfl ?_
  refine gfX12_64 (pc := 65) (w := uI w a0 9 (wI w a0 8)) C k10 dX12_readsOn_65 ?_
  refine g_icmp_lt (pc := 68) C dX12_readsOn_68 (tgt := 77) rfl (fun z11 => ?_) (fun z11 => ?_)
  · replace h := h.1 z11
    refine g_aload_n (pc := 77) C dX12_readsOn_77 (q := 0) rfl ?_
    obtain ⟨k12, h⟩ := h
    refine gfX12_23 (pc := 78) (w := uI w a0 9 (wI w a0 8)) C k10 (isK_ne k12) dX12_readsOn_78 ?_
    refine g_aload_n (pc := 81) C dX12_readsOn_81 (q := 0) rfl ?_
    refine gfX12_67 (pc := 82) (w := uI w a0 9 (wI w a0 8)) C k10 dX12_readsOn_82 ?_
    obtain ⟨k13, h⟩ := h
    refine g_iald (pc := 85) (w := uI w a0 9 (wI w a0 8)) C k12 k13 dX12_readsOn_85 ?_
    refine g_istore_n (pc := 86) C dX12_readsOn_86 (Nat.le_of_ble_eq_true rfl) (lo' := [(1, .int (wI (uI w a0 9 (wI w a0 8)) (wR w a0 5) (wI (uI w a0 9 (wI w a0 8)) a0 8).toNatClampNeg)), (0, .ref (adr x a0))]) rfl ?_
    refine g_iload_n (pc := 87) C dX12_readsOn_87 (q := 0) rfl ?_
    refine miX12_76 (pc := 88) (w := uI w a0 9 (wI w a0 8)) C h (Nat.le_of_ble_eq_true rfl) (Nat.le_of_ble_eq_true rfl) ⟨Nat.le_refl _, Nat.le_refl _⟩ dX12_readsOn_88 (fun r14 w15 h => ?_)
    refine g_if_eq (pc := 91) C dX12_readsOn_91 (tgt := 129) rfl (fun z16 => ?_) (fun z16 => ?_)
    · replace h := h.1 z16
      refine g_iload_n (pc := 129) C dX12_readsOn_129 (q := 0) rfl ?_
      refine miX12_84 (pc := 130) C h (Nat.le_of_ble_eq_true rfl) (Nat.le_of_ble_eq_true rfl) ⟨Nat.le_refl _, Nat.le_refl _⟩ dX12_readsOn_130 (fun r17 w18 h => ?_)
      refine g_if_eq (pc := 133) C dX12_readsOn_133 (tgt := 237) rfl (fun z19 => ?_) (fun z19 => ?_)
      · replace h := h.1 z19
        refine g_aload_n (pc := 237) C dX12_readsOn_237 (q := 1) rfl ?_
        refine g_iload_n (pc := 238) C dX12_readsOn_238 (q := 0) rfl ?_
        refine miX12_90 (pc := 239) C h (Nat.le_of_ble_eq_true rfl) (Nat.le_of_ble_eq_true rfl) ⟨Nat.le_refl _, Nat.le_refl _⟩ dX12_readsOn_239 (fun r20 w21 h => ?_)
        refine g_if_eq (pc := 242) C dX12_readsOn_242 (tgt := 249) rfl (fun z22 => ?_) (fun z22 => ?_)
        · replace h := h.1 z22
          refine g_iconst (pc := 249) C dX12_readsOn_249 (v := 3) rfl ?_
          obtain ⟨k23, h⟩ := h
          refine pfX12_73 (pc := 250) C k23 dX12_readsOn_250 ?_
          refine g_aload_n (pc := 253) C dX12_readsOn_253 (q := 1) rfl ?_
          refine g_dup (pc := 254) C dX12_readsOn_254 rfl ?_
          refine gfX12_67 (pc := 255) (w := uI w21 a0 10 3) C k23 dX12_readsOn_255 ?_
          refine g_iconst (pc := 258) C dX12_readsOn_258 (v := 1) rfl ?_
          refine g_iadd (pc := 259) C dX12_readsOn_259 ?_
          refine pfX12_67 (pc := 260) (w := uI w21 a0 10 3) C k23 dX12_readsOn_260 ?_
          exact g_vret (pc := 263) C hlk hr (Nat.le_refl _) (Nat.le_refl _) dX12_readsOn_263 h
        · replace h := h.2 z22
          refine g_iload_n (pc := 245) C dX12_readsOn_245 (q := 0) rfl ?_
          refine g_goto (pc := 246) C dX12_readsOn_246 (tgt := 250) rfl ?_
          obtain ⟨k24, h⟩ := h
          refine pfX12_73 (pc := 250) C k24 dX12_readsOn_250 ?_
          refine g_aload_n (pc := 253) C dX12_readsOn_253 (q := 1) rfl ?_
          refine g_dup (pc := 254) C dX12_readsOn_254 rfl ?_
          refine gfX12_67 (pc := 255) (w := uI w21 a0 10 (wI (uI w a0 9 (wI w a0 8)) (wR w a0 5) (wI (uI w a0 9 (wI w a0 8)) a0 8).toNatClampNeg)) C k24 dX12_readsOn_255 ?_
          refine g_iconst (pc := 258) C dX12_readsOn_258 (v := 1) rfl ?_
          refine g_iadd (pc := 259) C dX12_readsOn_259 ?_
          refine pfX12_67 (pc := 260) (w := uI w21 a0 10 (wI (uI w a0 9 (wI w a0 8)) (wR w a0 5) (wI (uI w a0 9 (wI w a0 8)) a0 8).toNatClampNeg)) C k24 dX12_readsOn_260 ?_
          exact g_vret (pc := 263) C hlk hr (Nat.le_refl _) (Nat.le_refl _) dX12_readsOn_263 h
      · replace h := h.2 z19
        refine g_aload_n (pc := 136) C dX12_readsOn_136 (q := 1) rfl ?_
        refine g_iconst (pc := 137) C dX12_readsOn_137 (v := 0) rfl ?_
        obtain ⟨k25, h⟩ := h
        refine pfX12_87 (pc := 138) C k25 dX12_readsOn_138 ?_
        obtain ⟨n40, h⟩ := h
        refine g_sub [1] rfl ?_
        refine t_X12_readsOn_141 C hlk hr ?_ n40 _ _ h
        · intro b36 w37 h
          refine g_aload_n (pc := 212) C dX12_readsOn_212 (q := 0) rfl ?_
          refine g_aload_n (pc := 213) C dX12_readsOn_213 (q := 0) rfl ?_
          obtain ⟨k38, h⟩ := h
          refine gfX12_67 (pc := 214) C k38 dX12_readsOn_214 ?_
          refine g_aload_n (pc := 217) C dX12_readsOn_217 (q := 0) rfl ?_
          refine gfX12_70 (pc := 218) C k38 dX12_readsOn_218 ?_
          refine g_isub (pc := 221) C dX12_readsOn_221 ?_
          refine g_iconst (pc := 222) C dX12_readsOn_222 (v := 3) rfl ?_
          refine g_icmp_le (pc := 223) C dX12_readsOn_223 (tgt := 230) rfl (fun z39 => ?_) (fun z39 => ?_)
          · replace h := h.1 z39
            refine g_iconst (pc := 230) C dX12_readsOn_230 (v := 2) rfl ?_
            refine pfX12_73 (pc := 231) C k38 dX12_readsOn_231 ?_
            refine g_goto (pc := 234) C dX12_readsOn_234 (tgt := 263) rfl ?_
            exact g_vret (pc := 263) C hlk hr (Nat.le_refl _) (Nat.le_refl _) dX12_readsOn_263 h
          · replace h := h.2 z39
            refine g_iconst (pc := 226) C dX12_readsOn_226 (v := 3) rfl ?_
            refine g_goto (pc := 227) C dX12_readsOn_227 (tgt := 231) rfl ?_
            refine pfX12_73 (pc := 231) C k38 dX12_readsOn_231 ?_
            refine g_goto (pc := 234) C dX12_readsOn_234 (tgt := 263) rfl ?_
            exact g_vret (pc := 263) C hlk hr (Nat.le_refl _) (Nat.le_refl _) dX12_readsOn_263 h
    · replace h := h.2 z16
      obtain ⟨n49, h⟩ := h
      refine g_sub [1] rfl ?_
      refine t_X12_readsOn_94 C hlk hr n49 _ _ h
  · replace h := h.2 z11
    refine g_aload_n (pc := 71) C dX12_readsOn_71 (q := 0) rfl ?_
    refine g_iconst (pc := 72) C dX12_readsOn_72 (v := 0) rfl ?_
    refine pfX12_73 (pc := 73) (w := uI w a0 9 (wI w a0 8)) C k10 dX12_readsOn_73 ?_
    exact g_vret (pc := 76) C hlk hr (Nat.le_refl _) (Nat.le_refl _) dX12_readsOn_76 h
theorem c_X12_readsOn {x : xG} {l : Launch} {a0 : Nat} {K : Wd → Prop} {w : Wd} (h : w_X12_readsOn a0 K w) : Met l yX12_readsOn (xws yX12_readsOn cX12_readsOn 2 none) (rmd 1 0 0) (xPc x [.ref (adr x a0)] w) (QcV x K) 0 0 (xA x) := by
  refine xMet (by decide) (Nat.le_of_ble_eq_true rfl) (fun p e s m below meth c C hlk hr _ => ?_)
  show GW x p l e (rmd 1 0 0) s m [.ref (adr x a0)].toArray below meth c 2 (QV x K below [.ref (adr x a0)].toArray s 0 0) 0 [(0, .ref (adr x a0))] [] w 0 0
  obtain ⟨n50, h⟩ := h
  refine t_X12_readsOn_0 C hlk hr ?_ n50 _ _ h
  · intro b8 w9 h
    exact t_X12_readsOn_52 C hlk hr  _ _ h
theorem miX12_112 (C : xC x p s m c cc nL args RX12) {a0 : Nat} {K : Wd → Prop} {D MC MS : Nat} (hq : isK w a0 12) (h : w_X12_readsOn a0 K w) (hD : 1 + 1 ≤ D) (hW : (st.map fun v => v.category).sum ≤ 8) (hij : i ≤ MC ∧ j ≤ MS) (hd : decode cc pc = .ok (.invokevirtual 112, 3)) (k : ∀ (u : Wd), K u → GW x p l e (rmd D MC MS) s m args below meth c nL Q (pc + 3) lo st u i j) : GW x p l e (rmd D MC MS) s m args below meth c nL Q pc lo (.ref (adr x a0) :: st) w i j := g_callVv0 C (As := []) (ci := 12) (c_X12_readsOn h) (x_cwV C 0 LMX12_112 ⟨rfl, by decide, by decide, rfl⟩ hD (by decide)) rfl hq (by decide) rfl rfl hW hd hij k
theorem miX12_115 (C : xC x p s m c cc nL args RX12) {a0 : Nat} {a1 : Int32} {K : Wd → Prop} {D MC MS : Nat} (hq : isK w a0 12) (h : w_X12_blames a0 a1 K w) (hD : 0 + 1 ≤ D) (hW : (st.map fun v => v.category).sum ≤ 8) (hij : i ≤ MC ∧ j ≤ MS) (hd : decode cc pc = .ok (.invokevirtual 115, 3)) (k : ∀ (u : Wd), K u → GW x p l e (rmd D MC MS) s m args below meth c nL Q (pc + 3) lo st u i j) : GW x p l e (rmd D MC MS) s m args below meth c nL Q pc lo (.int a1 :: .ref (adr x a0) :: st) w i j := g_callVv0 C (As := [.int a1]) (ci := 12) (c_X12_blames h) (x_cwV C 1 LMX12_115 ⟨rfl, by decide, by decide, rfl⟩ hD (by decide)) rfl hq (by decide) rfl rfl hW hd hij k
def j_X12_begins_15  (K : Int32 → Wd → Prop) (a0 : Nat) (w : Wd) : Prop :=
  isK w a0 12 ∧ (((wI w a0 12) = 0 → w_X12_readsOn a0 (fun w8 => isK w8 a0 12 ∧ (((wI w8 a0 12) = 0 → K 1 w8) ∧ (¬ (wI w8 a0 12) = 0 → K 0 w8))) w) ∧ (¬ (wI w a0 12) = 0 → (((wI w a0 12) = 0 → K 1 w) ∧ (¬ (wI w a0 12) = 0 → K 0 w))))
def w_X12_begins (a0 : Nat) (a1 : Int32) (a2 : Int32) (K : Int32 → Wd → Prop) (w : Wd) : Prop :=
  isK w a0 12 ∧ isK w (wR w a0 1) 20 ∧ vp_in a1 (wn w (wR w a0 1)) ∧ (((wI w (wR w a0 1) a1.toNatClampNeg) = a2 → w_X12_blames a0 4 (fun w11 => j_X12_begins_15 K a0 w11) w) ∧ (¬ (wI w (wR w a0 1) a1.toNatClampNeg) = a2 → j_X12_begins_15 K a0 w))
theorem t_X12_begins_15 (C : xC x p s m c cX12_begins 3 args RX12) (hlk : meth.locks = false) (hr : meth.sig.returnType = some .boolean) {K : Int32 → Wd → Prop}   (a0 : Nat) (w : Wd) (h : j_X12_begins_15 K a0 w) : GW x p l e (rmd 2 0 0) s m args below meth c 3 (QI x K below args s 0 0) 15 [(0, .ref (adr x a0))] [] w 0 0 := by
  refine g_aload_n (pc := 15) C dX12_begins_15 (q := 0) rfl ?_
  obtain ⟨k5, h⟩ := h
  refine gfX12_93 (pc := 16) C k5 dX12_begins_16 ?_
  refine g_if_ne (pc := 19) C dX12_begins_19 (tgt := 26) rfl (fun z6 => ?_) (fun z6 => ?_)
  · replace h := h.2 z6
    refine g_aload_n (pc := 26) C dX12_begins_26 (q := 0) rfl ?_
    refine gfX12_93 (pc := 27) C k5 dX12_begins_27 ?_
    refine g_if_ne (pc := 30) C dX12_begins_30 (tgt := 37) rfl (fun z7 => ?_) (fun z7 => ?_)
    · replace h := h.2 z7
      refine g_iconst (pc := 37) C dX12_begins_37 (v := 0) rfl ?_
      exact g_zret (pc := 38) C hlk hr (Nat.le_refl _) (Nat.le_refl _) dX12_begins_38 (Or.inl rfl) h
    · replace h := h.1 z7
      refine g_iconst (pc := 33) C dX12_begins_33 (v := 1) rfl ?_
      refine g_goto (pc := 34) C dX12_begins_34 (tgt := 38) rfl ?_
      exact g_zret (pc := 38) C hlk hr (Nat.le_refl _) (Nat.le_refl _) dX12_begins_38 (Or.inr rfl) h
  · replace h := h.1 z6
    refine g_aload_n (pc := 22) C dX12_begins_22 (q := 0) rfl ?_
    refine miX12_112 (pc := 23) C k5 h (Nat.le_of_ble_eq_true rfl) (Nat.le_of_ble_eq_true rfl) ⟨Nat.le_refl _, Nat.le_refl _⟩ dX12_begins_23 (fun w8 h => ?_)
    refine g_aload_n (pc := 26) C dX12_begins_26 (q := 0) rfl ?_
    obtain ⟨k9, h⟩ := h
    refine gfX12_93 (pc := 27) C k9 dX12_begins_27 ?_
    refine g_if_ne (pc := 30) C dX12_begins_30 (tgt := 37) rfl (fun z10 => ?_) (fun z10 => ?_)
    · replace h := h.2 z10
      refine g_iconst (pc := 37) C dX12_begins_37 (v := 0) rfl ?_
      exact g_zret (pc := 38) C hlk hr (Nat.le_refl _) (Nat.le_refl _) dX12_begins_38 (Or.inl rfl) h
    · replace h := h.1 z10
      refine g_iconst (pc := 33) C dX12_begins_33 (v := 1) rfl ?_
      refine g_goto (pc := 34) C dX12_begins_34 (tgt := 38) rfl ?_
      exact g_zret (pc := 38) C hlk hr (Nat.le_refl _) (Nat.le_refl _) dX12_begins_38 (Or.inr rfl) h
theorem c_X12_begins {x : xG} {l : Launch} {a0 : Nat} {a1 : Int32} {a2 : Int32} {K : Int32 → Wd → Prop} {w : Wd} (h : w_X12_begins a0 a1 a2 K w) : Met l yX12_begins (xws yX12_begins cX12_begins 3 (some .boolean)) (rmd 2 0 0) (xPc x [.ref (adr x a0), .int a1, .int a2] w) (QcI x K) 0 0 (xA x) := by
  refine xMet (by decide) (Nat.le_of_ble_eq_true rfl) (fun p e s m below meth c C hlk hr _ => ?_)
  show GW x p l e (rmd 2 0 0) s m [.ref (adr x a0), .int a1, .int a2].toArray below meth c 3 (QI x K below [.ref (adr x a0), .int a1, .int a2].toArray s 0 0) 0 [(0, .ref (adr x a0)), (1, .int a1), (2, .int a2)] [] w 0 0
  refine g_aload_n (pc := 0) C dX12_begins_0 (q := 0) rfl ?_
  obtain ⟨k1, h⟩ := h
  obtain ⟨k2, h⟩ := h
  refine gfX12_13 (pc := 1) C k1 (isK_ne k2) dX12_begins_1 ?_
  refine g_iload_n (pc := 4) C dX12_begins_4 (q := 1) rfl ?_
  obtain ⟨k3, h⟩ := h
  refine g_iald (pc := 5) C k2 k3 dX12_begins_5 ?_
  refine g_iload_n (pc := 6) C dX12_begins_6 (q := 2) rfl ?_
  refine g_icmp_ne (pc := 7) C dX12_begins_7 (tgt := 15) rfl (fun z4 => ?_) (fun z4 => ?_)
  · replace h := h.2 z4
    refine g_sub [0] rfl ?_
    exact t_X12_begins_15 C hlk hr  _ _ h
  · replace h := h.1 z4
    refine g_aload_n (pc := 10) C dX12_begins_10 (q := 0) rfl ?_
    refine g_iconst (pc := 11) C dX12_begins_11 (v := 4) rfl ?_
    refine miX12_115 (pc := 12) C k1 h (Nat.le_of_ble_eq_true rfl) (Nat.le_of_ble_eq_true rfl) ⟨Nat.le_refl _, Nat.le_refl _⟩ dX12_begins_12 (fun w11 h => ?_)
    refine g_sub [0] rfl ?_
    exact t_X12_begins_15 C hlk hr  _ _ h
theorem miX12_252 (C : xC x p s m c cc nL args RX12) {a0 : Int64} {a2 : Int64} {K : Int64 → Wd → Prop} {D MC MS : Nat} (h : w_J9_min_f86c9 a0 a2 K w) (hD : 0 + 1 ≤ D) (hW : (st.map fun v => v.category).sum ≤ 8) (hij : i ≤ MC ∧ j ≤ MS) (hd : decode cc pc = .ok (.invokestatic 252, 3)) (k : ∀ (r : Int64) (u : Wd), K r u → GW x p l e (rmd D MC MS) s m args below meth c nL Q (pc + 3) lo (.long r :: st) u i j) : GW x p l e (rmd D MC MS) s m args below meth c nL Q pc lo (.long a2 :: .long a0 :: st) w i j := g_callSl0 C (As := [.long a0, .long a2]) (c_J9_min_f86c9 h) (x_cwS C 2 LMX12_252 ⟨by decide, by decide, rfl⟩ hD (by decide)) rfl rfl hW hd hij k
theorem miX12_258 (C : xC x p s m c cc nL args RX12) {a0 : Int64} {a2 : Int64} {K : Int64 → Wd → Prop} {D MC MS : Nat} (h : w_J9_max_f86c9 a0 a2 K w) (hD : 0 + 1 ≤ D) (hW : (st.map fun v => v.category).sum ≤ 8) (hij : i ≤ MC ∧ j ≤ MS) (hd : decode cc pc = .ok (.invokestatic 258, 3)) (k : ∀ (r : Int64) (u : Wd), K r u → GW x p l e (rmd D MC MS) s m args below meth c nL Q (pc + 3) lo (.long r :: st) u i j) : GW x p l e (rmd D MC MS) s m args below meth c nL Q pc lo (.long a2 :: .long a0 :: st) w i j := g_callSl0 C (As := [.long a0, .long a2]) (c_J9_max_f86c9 h) (x_cwS C 2 LMX12_258 ⟨by decide, by decide, rfl⟩ hD (by decide)) rfl rfl hW hd hij k
def w_X12_bound (a0 : Int64) (K : Int32 → Wd → Prop) (w : Wd) : Prop :=
  w_J9_min_f86c9 1000000 a0 (fun r1 w2 => w_J9_max_f86c9 (-1000000) r1 (fun r3 w4 => K r3.toInt32 w4) w2) w
theorem c_X12_bound {x : xG} {l : Launch} {a0 : Int64} {K : Int32 → Wd → Prop} {w : Wd} (h : w_X12_bound a0 K w) : Met l yX12_bound (xws yX12_bound cX12_bound 2 (some .int)) (rmd 1 0 0) (xPc x [.long a0] w) (QcI x K) 0 0 (xA x) := by
  refine xMet (by decide) (Nat.le_of_ble_eq_true rfl) (fun p e s m below meth c C hlk hr _ => ?_)
  show GW x p l e (rmd 1 0 0) s m [.long a0].toArray below meth c 2 (QI x K below [.long a0].toArray s 0 0) 0 [(0, .long a0)] [] w 0 0
  refine g_ldc2 (pc := 0) C LCX12_248 dX12_bound_0 ?_
  refine g_ldc2 (pc := 3) C LCX12_250 dX12_bound_3 ?_
  refine g_lload_n (pc := 6) C dX12_bound_6 (q := 0) rfl ?_
  refine miX12_252 (pc := 7) C h (Nat.le_of_ble_eq_true rfl) (Nat.le_of_ble_eq_true rfl) ⟨Nat.le_refl _, Nat.le_refl _⟩ dX12_bound_7 (fun r1 w2 h => ?_)
  refine miX12_258 (pc := 10) C h (Nat.le_of_ble_eq_true rfl) (Nat.le_of_ble_eq_true rfl) ⟨Nat.le_refl _, Nat.le_refl _⟩ dX12_bound_10 (fun r3 w4 h => ?_)
  refine g_l2i (pc := 13) C dX12_bound_13 ?_
  exact g_iret (pc := 14) C hlk hr (Nat.le_refl _) (Nat.le_refl _) dX12_bound_14 h
theorem miX12_261 (C : xC x p s m c cc nL args RX12) {a0 : Int64} {K : Int32 → Wd → Prop} {D MC MS : Nat} (h : w_X12_bound a0 K w) (hD : 1 + 1 ≤ D) (hW : (st.map fun v => v.category).sum ≤ 8) (hij : i ≤ MC ∧ j ≤ MS) (hd : decode cc pc = .ok (.invokestatic 261, 3)) (k : ∀ (r : Int32) (u : Wd), K r u → GW x p l e (rmd D MC MS) s m args below meth c nL Q (pc + 3) lo (.int r :: st) u i j) : GW x p l e (rmd D MC MS) s m args below meth c nL Q pc lo (.long a0 :: st) w i j := g_callSi0 C (As := [.long a0]) (c_X12_bound h) (x_cwS C 1 LMX12_261 ⟨by decide, by decide, rfl⟩ hD (by decide)) rfl rfl hW hd hij k
def w_X12_done (a0 : Int32) (a1 : Int64) (a3 : Int64) (K : Int32 → Wd → Prop) (w : Wd) : Prop :=
  ((a0 = 10 → w_X12_bound (a1 + a3) (fun r8 w9 => K r8 w9) w) ∧ (¬ a0 = 10 → ((a0 = 11 → w_X12_bound (a1 - a3) (fun r10 w11 => K r10 w11) w) ∧ (¬ a0 = 11 → ((a0 = 12 → w_X12_bound (a1 * a3) (fun r12 w13 => K r12 w13) w) ∧ (¬ a0 = 12 → ((a0 = 13 → (((lg_cmp a1 a3) = 0 → K 1 w) ∧ (¬ (lg_cmp a1 a3) = 0 → K 0 w))) ∧ (¬ a0 = 13 → ((a0 = 14 → ((0 ≤ (lg_cmp a1 a3) → K 0 w) ∧ (¬ 0 ≤ (lg_cmp a1 a3) → K 1 w))) ∧ (¬ a0 = 14 → ((a0 = 15 → (((lg_cmp a1 a3) ≤ 0 → K 0 w) ∧ (¬ (lg_cmp a1 a3) ≤ 0 → K 1 w))) ∧ (¬ a0 = 15 → ((a0 = 16 → (((lg_cmp (a1 + a3) 1) ≤ 0 → K 0 w) ∧ (¬ (lg_cmp (a1 + a3) 1) ≤ 0 → K 1 w))) ∧ (¬ a0 = 16 → (((lg_cmp (a1 + a3) 0) ≤ 0 → K 0 w) ∧ (¬ (lg_cmp (a1 + a3) 0) ≤ 0 → K 1 w))))))))))))))))
theorem c_X12_done {x : xG} {l : Launch} {a0 : Int32} {a1 : Int64} {a3 : Int64} {K : Int32 → Wd → Prop} {w : Wd} (h : w_X12_done a0 a1 a3 K w) : Met l yX12_done (xws yX12_done cX12_done 5 (some .int)) (rmd 2 0 0) (xPc x [.int a0, .long a1, .long a3] w) (QcI x K) 0 0 (xA x) := by
  refine xMet (by decide) (Nat.le_of_ble_eq_true rfl) (fun p e s m below meth c C hlk hr _ => ?_)
  show GW x p l e (rmd 2 0 0) s m [.int a0, .long a1, .long a3].toArray below meth c 5 (QI x K below [.int a0, .long a1, .long a3].toArray s 0 0) 0 [(0, .int a0), (1, .long a1), (3, .long a3)] [] w 0 0
  refine g_iload_n (pc := 0) C dX12_done_0 (q := 0) rfl ?_
  by_cases z1 : a0 = 10
  · replace h := h.1 z1
    refine g_tabIn (pc := 1) C dX12_done_1 (by rw [z1]; decide) (by rw [z1]; decide) (off := 43) (by rw [z1]; rfl) (tgt := 44) rfl ?_
    refine g_lload_n (pc := 44) C dX12_done_44 (q := 1) rfl ?_
    refine g_lload_n (pc := 45) C dX12_done_45 (q := 2) rfl ?_
    refine g_ladd (pc := 46) C dX12_done_46 ?_
    refine miX12_261 (pc := 47) C h (Nat.le_of_ble_eq_true rfl) (Nat.le_of_ble_eq_true rfl) ⟨Nat.le_refl _, Nat.le_refl _⟩ dX12_done_47 (fun r8 w9 h => ?_)
    exact g_iret (pc := 50) C hlk hr (Nat.le_refl _) (Nat.le_refl _) dX12_done_50 h
  replace h := h.2 z1
  by_cases z2 : a0 = 11
  · replace h := h.1 z2
    refine g_tabIn (pc := 1) C dX12_done_1 (by rw [z2]; decide) (by rw [z2]; decide) (off := 50) (by rw [z2]; rfl) (tgt := 51) rfl ?_
    refine g_lload_n (pc := 51) C dX12_done_51 (q := 1) rfl ?_
    refine g_lload_n (pc := 52) C dX12_done_52 (q := 2) rfl ?_
    refine g_lsub (pc := 53) C dX12_done_53 ?_
    refine miX12_261 (pc := 54) C h (Nat.le_of_ble_eq_true rfl) (Nat.le_of_ble_eq_true rfl) ⟨Nat.le_refl _, Nat.le_refl _⟩ dX12_done_54 (fun r10 w11 h => ?_)
    exact g_iret (pc := 57) C hlk hr (Nat.le_refl _) (Nat.le_refl _) dX12_done_57 h
  replace h := h.2 z2
  by_cases z3 : a0 = 12
  · replace h := h.1 z3
    refine g_tabIn (pc := 1) C dX12_done_1 (by rw [z3]; decide) (by rw [z3]; decide) (off := 57) (by rw [z3]; rfl) (tgt := 58) rfl ?_
    refine g_lload_n (pc := 58) C dX12_done_58 (q := 1) rfl ?_
    refine g_lload_n (pc := 59) C dX12_done_59 (q := 2) rfl ?_
    refine g_lmul (pc := 60) C dX12_done_60 ?_
    refine miX12_261 (pc := 61) C h (Nat.le_of_ble_eq_true rfl) (Nat.le_of_ble_eq_true rfl) ⟨Nat.le_refl _, Nat.le_refl _⟩ dX12_done_61 (fun r12 w13 h => ?_)
    exact g_iret (pc := 64) C hlk hr (Nat.le_refl _) (Nat.le_refl _) dX12_done_64 h
  replace h := h.2 z3
  by_cases z4 : a0 = 13
  · replace h := h.1 z4
    refine g_tabIn (pc := 1) C dX12_done_1 (by rw [z4]; decide) (by rw [z4]; decide) (off := 64) (by rw [z4]; rfl) (tgt := 65) rfl ?_
    refine g_lload_n (pc := 65) C dX12_done_65 (q := 1) rfl ?_
    refine g_lload_n (pc := 66) C dX12_done_66 (q := 2) rfl ?_
    refine g_lcmp (pc := 67) C dX12_done_67 ?_
    refine g_if_ne (pc := 68) C dX12_done_68 (tgt := 75) rfl (fun z14 => ?_) (fun z14 => ?_)
    · replace h := h.2 z14
      refine g_iconst (pc := 75) C dX12_done_75 (v := 0) rfl ?_
      exact g_iret (pc := 76) C hlk hr (Nat.le_refl _) (Nat.le_refl _) dX12_done_76 h
    · replace h := h.1 z14
      refine g_iconst (pc := 71) C dX12_done_71 (v := 1) rfl ?_
      refine g_goto (pc := 72) C dX12_done_72 (tgt := 76) rfl ?_
      exact g_iret (pc := 76) C hlk hr (Nat.le_refl _) (Nat.le_refl _) dX12_done_76 h
  replace h := h.2 z4
  by_cases z5 : a0 = 14
  · replace h := h.1 z5
    refine g_tabIn (pc := 1) C dX12_done_1 (by rw [z5]; decide) (by rw [z5]; decide) (off := 76) (by rw [z5]; rfl) (tgt := 77) rfl ?_
    refine g_lload_n (pc := 77) C dX12_done_77 (q := 1) rfl ?_
    refine g_lload_n (pc := 78) C dX12_done_78 (q := 2) rfl ?_
    refine g_lcmp (pc := 79) C dX12_done_79 ?_
    refine g_if_ge (pc := 80) C dX12_done_80 (tgt := 87) rfl (fun z15 => ?_) (fun z15 => ?_)
    · replace h := h.1 z15
      refine g_iconst (pc := 87) C dX12_done_87 (v := 0) rfl ?_
      exact g_iret (pc := 88) C hlk hr (Nat.le_refl _) (Nat.le_refl _) dX12_done_88 h
    · replace h := h.2 z15
      refine g_iconst (pc := 83) C dX12_done_83 (v := 1) rfl ?_
      refine g_goto (pc := 84) C dX12_done_84 (tgt := 88) rfl ?_
      exact g_iret (pc := 88) C hlk hr (Nat.le_refl _) (Nat.le_refl _) dX12_done_88 h
  replace h := h.2 z5
  by_cases z6 : a0 = 15
  · replace h := h.1 z6
    refine g_tabIn (pc := 1) C dX12_done_1 (by rw [z6]; decide) (by rw [z6]; decide) (off := 88) (by rw [z6]; rfl) (tgt := 89) rfl ?_
    refine g_lload_n (pc := 89) C dX12_done_89 (q := 1) rfl ?_
    refine g_lload_n (pc := 90) C dX12_done_90 (q := 2) rfl ?_
    refine g_lcmp (pc := 91) C dX12_done_91 ?_
    refine g_if_le (pc := 92) C dX12_done_92 (tgt := 99) rfl (fun z16 => ?_) (fun z16 => ?_)
    · replace h := h.1 z16
      refine g_iconst (pc := 99) C dX12_done_99 (v := 0) rfl ?_
      exact g_iret (pc := 100) C hlk hr (Nat.le_refl _) (Nat.le_refl _) dX12_done_100 h
    · replace h := h.2 z16
      refine g_iconst (pc := 95) C dX12_done_95 (v := 1) rfl ?_
      refine g_goto (pc := 96) C dX12_done_96 (tgt := 100) rfl ?_
      exact g_iret (pc := 100) C hlk hr (Nat.le_refl _) (Nat.le_refl _) dX12_done_100 h
  replace h := h.2 z6
  by_cases z7 : a0 = 16
  · replace h := h.1 z7
    refine g_tabIn (pc := 1) C dX12_done_1 (by rw [z7]; decide) (by rw [z7]; decide) (off := 100) (by rw [z7]; rfl) (tgt := 101) rfl ?_
    refine g_lload_n (pc := 101) C dX12_done_101 (q := 1) rfl ?_
    refine g_lload_n (pc := 102) C dX12_done_102 (q := 2) rfl ?_
    refine g_ladd (pc := 103) C dX12_done_103 ?_
    refine g_lconst (pc := 104) C dX12_done_104 (v := 1) rfl ?_
    refine g_lcmp (pc := 105) C dX12_done_105 ?_
    refine g_if_le (pc := 106) C dX12_done_106 (tgt := 113) rfl (fun z17 => ?_) (fun z17 => ?_)
    · replace h := h.1 z17
      refine g_iconst (pc := 113) C dX12_done_113 (v := 0) rfl ?_
      exact g_iret (pc := 114) C hlk hr (Nat.le_refl _) (Nat.le_refl _) dX12_done_114 h
    · replace h := h.2 z17
      refine g_iconst (pc := 109) C dX12_done_109 (v := 1) rfl ?_
      refine g_goto (pc := 110) C dX12_done_110 (tgt := 114) rfl ?_
      exact g_iret (pc := 114) C hlk hr (Nat.le_refl _) (Nat.le_refl _) dX12_done_114 h
  replace h := h.2 z7
  have y19 := ne_toInt (n := 10) z1 (by decide)
  have y20 := ne_toInt (n := 11) z2 (by decide)
  have y21 := ne_toInt (n := 12) z3 (by decide)
  have y22 := ne_toInt (n := 13) z4 (by decide)
  have y23 := ne_toInt (n := 14) z5 (by decide)
  have y24 := ne_toInt (n := 15) z6 (by decide)
  have y25 := ne_toInt (n := 16) z7 (by decide)
  refine g_tabOut (pc := 1) C dX12_done_1 (by omega) (tgt := 115) rfl ?_
  refine g_lload_n (pc := 115) C dX12_done_115 (q := 1) rfl ?_
  refine g_lload_n (pc := 116) C dX12_done_116 (q := 2) rfl ?_
  refine g_ladd (pc := 117) C dX12_done_117 ?_
  refine g_lconst (pc := 118) C dX12_done_118 (v := 0) rfl ?_
  refine g_lcmp (pc := 119) C dX12_done_119 ?_
  refine g_if_le (pc := 120) C dX12_done_120 (tgt := 127) rfl (fun z18 => ?_) (fun z18 => ?_)
  · replace h := h.1 z18
    refine g_iconst (pc := 127) C dX12_done_127 (v := 0) rfl ?_
    exact g_iret (pc := 128) C hlk hr (Nat.le_refl _) (Nat.le_refl _) dX12_done_128 h
  · replace h := h.2 z18
    refine g_iconst (pc := 123) C dX12_done_123 (v := 1) rfl ?_
    refine g_goto (pc := 124) C dX12_done_124 (tgt := 128) rfl ?_
    exact g_iret (pc := 128) C hlk hr (Nat.le_refl _) (Nat.le_refl _) dX12_done_128 h
def w_X12_isUp (a0 : Nat) (a1 : Int32) (K : Int32 → Wd → Prop) (w : Wd) : Prop :=
  isK w a0 12 ∧ w_X12_isUpIn a0 a1 0 (fun r2 w3 => (r2 = 0 ∨ r2 = 1) ∧ K r2 w3) w
theorem c_X12_isUp {x : xG} {l : Launch} {a0 : Nat} {a1 : Int32} {K : Int32 → Wd → Prop} {w : Wd} (h : w_X12_isUp a0 a1 K w) : Met l yX12_isUp (xws yX12_isUp cX12_isUp 2 (some .boolean)) (rmd 2 0 0) (xPc x [.ref (adr x a0), .int a1] w) (QcI x K) 0 0 (xA x) := by
  refine xMet (by decide) (Nat.le_of_ble_eq_true rfl) (fun p e s m below meth c C hlk hr _ => ?_)
  show GW x p l e (rmd 2 0 0) s m [.ref (adr x a0), .int a1].toArray below meth c 2 (QI x K below [.ref (adr x a0), .int a1].toArray s 0 0) 0 [(0, .ref (adr x a0)), (1, .int a1)] [] w 0 0
  refine g_aload_n (pc := 0) C dX12_isUp_0 (q := 0) rfl ?_
  refine g_iload_n (pc := 1) C dX12_isUp_1 (q := 1) rfl ?_
  refine g_iconst (pc := 2) C dX12_isUp_2 (v := 0) rfl ?_
  obtain ⟨k1, h⟩ := h
  refine miX12_245 (pc := 3) C k1 h (Nat.le_of_ble_eq_true rfl) (Nat.le_of_ble_eq_true rfl) ⟨Nat.le_refl _, Nat.le_refl _⟩ dX12_isUp_3 (fun r2 w3 h => ?_)
  exact g_zret (pc := 6) C hlk hr (Nat.le_refl _) (Nat.le_refl _) dX12_isUp_6 h.1 h.2
def l_X12_size_4  (K : Int32 → Wd → Prop) : Nat → Int32 → Int32 → Wd → Prop
  | 0, _, _, _ => False
  | n + 1, a1, a2, w => ((a2 = 0 → K a1 w) ∧ (¬ a2 = 0 → l_X12_size_4 K n (a1 + 1) (a2 &&& (a2 - 1)) w))
def w_X12_size (a0 : Int32) (K : Int32 → Wd → Prop) (w : Wd) : Prop :=
  ∃ n2, l_X12_size_4  K n2 0 a0 w
theorem t_X12_size_4 (C : xC x p s m c cX12_size 3 args RX12) (hlk : meth.locks = false) (hr : meth.sig.returnType = some .int) {K : Int32 → Wd → Prop}   : ∀ (n : Nat) (a1 : Int32) (a2 : Int32) (w : Wd), l_X12_size_4 K n a1 a2 w → GW x p l e (rmd 0 0 0) s m args below meth c 3 (QI x K below args s 0 0) 4 [(1, .int a1), (2, .int a2)] [] w 0 0 := by
  intro n
  induction n with
  | zero => intro _ _ _ h; exact False.elim h
  | succ n ih =>
    intro a1 a2 w h
    refine g_iload_n (pc := 4) C dX12_size_4 (q := 1) rfl ?_
    refine g_if_eq (pc := 5) C dX12_size_5 (tgt := 20) rfl (fun z1 => ?_) (fun z1 => ?_)
    · replace h := h.1 z1
      refine g_iload_n (pc := 20) C dX12_size_20 (q := 0) rfl ?_
      exact g_iret (pc := 21) C hlk hr (Nat.le_refl _) (Nat.le_refl _) dX12_size_21 h
    · replace h := h.2 z1
      refine g_iinc (pc := 8) C dX12_size_8 (q := 0) rfl (v2 := a1 + 1) rfl (Nat.le_of_ble_eq_true rfl) (lo' := [(1, .int (a1 + 1)), (2, .int a2)]) rfl ?_
      refine g_iload_n (pc := 11) C dX12_size_11 (q := 1) rfl ?_
      refine g_iload_n (pc := 12) C dX12_size_12 (q := 1) rfl ?_
      refine g_iconst (pc := 13) C dX12_size_13 (v := 1) rfl ?_
      refine g_isub (pc := 14) C dX12_size_14 ?_
      refine g_iand (pc := 15) C dX12_size_15 ?_
      refine g_istore_n (pc := 16) C dX12_size_16 (Nat.le_of_ble_eq_true rfl) (lo' := [(2, .int (a2 &&& (a2 - 1))), (1, .int (a1 + 1))]) rfl ?_
      refine g_goto (pc := 17) C dX12_size_17 (tgt := 4) rfl ?_
      refine g_sub [1, 0] rfl ?_
      exact ih _ _ _ h
theorem c_X12_size {x : xG} {l : Launch} {a0 : Int32} {K : Int32 → Wd → Prop} {w : Wd} (h : w_X12_size a0 K w) : Met l yX12_size (xws yX12_size cX12_size 3 (some .int)) (rmd 0 0 0) (xPc x [.int a0] w) (QcI x K) 0 0 (xA x) := by
  refine xMet (by decide) (Nat.le_of_ble_eq_true rfl) (fun p e s m below meth c C hlk hr _ => ?_)
  show GW x p l e (rmd 0 0 0) s m [.int a0].toArray below meth c 3 (QI x K below [.int a0].toArray s 0 0) 0 [(0, .int a0)] [] w 0 0
  refine g_iconst (pc := 0) C dX12_size_0 (v := 0) rfl ?_
  refine g_istore_n (pc := 1) C dX12_size_1 (Nat.le_of_ble_eq_true rfl) (lo' := [(1, .int 0), (0, .int a0)]) rfl ?_
  refine g_iload_n (pc := 2) C dX12_size_2 (q := 1) rfl ?_
  refine g_istore_n (pc := 3) C dX12_size_3 (Nat.le_of_ble_eq_true rfl) (lo' := [(2, .int a0), (1, .int 0), (0, .int a0)]) rfl ?_
  obtain ⟨n2, h⟩ := h
  refine g_sub [1, 0] rfl ?_
  refine t_X12_size_4 C hlk hr n2 _ _ _ h
theorem miX12_265 (C : xC x p s m c cc nL args RX12) {a0 : Int32} {K : Int32 → Wd → Prop} {D MC MS : Nat} (h : w_X12_size a0 K w) (hD : 0 + 1 ≤ D) (hW : (st.map fun v => v.category).sum ≤ 8) (hij : i ≤ MC ∧ j ≤ MS) (hd : decode cc pc = .ok (.invokestatic 265, 3)) (k : ∀ (r : Int32) (u : Wd), K r u → GW x p l e (rmd D MC MS) s m args below meth c nL Q (pc + 3) lo (.int r :: st) u i j) : GW x p l e (rmd D MC MS) s m args below meth c nL Q pc lo (.int a0 :: st) w i j := g_callSi0 C (As := [.int a0]) (c_X12_size h) (x_cwS C 1 LMX12_265 ⟨by decide, by decide, rfl⟩ hD (by decide)) rfl rfl hW hd hij k
def w_X12_wordOf (a0 : Nat) (a1 : Int32) (a2 : Int32) (a3 : Int32) (a4 : Int32) (K : Int32 → Wd → Prop) (w : Wd) : Prop :=
  ((a1 = 0 → isK w a0 12 ∧ isK w (wR w a0 0) 20 ∧ vp_in (47 + a2) (wn w (wR w a0 0)) ∧ K (wI w (wR w a0 0) (47 + a2).toNatClampNeg) w) ∧ (¬ a1 = 0 → ((a1 = 1 → isK w a0 12 ∧ isK w (wR w a0 0) 20 ∧ vp_in (47 + a3) (wn w (wR w a0 0)) ∧ K (wI w (wR w a0 0) (47 + a3).toNatClampNeg) w) ∧ (¬ a1 = 1 → ((a1 = 2 → isK w a0 12 ∧ isK w (wR w a0 0) 20 ∧ vp_in (15 + a2) (wn w (wR w a0 0)) ∧ K (wI w (wR w a0 0) (15 + a2).toNatClampNeg) w) ∧ (¬ a1 = 2 → ((a1 = 3 → isK w a0 12 ∧ isK w (wR w a0 0) 20 ∧ vp_in (15 + a3) (wn w (wR w a0 0)) ∧ K (wI w (wR w a0 0) (15 + a3).toNatClampNeg) w) ∧ (¬ a1 = 3 → ((a1 = 4 → K a4 w) ∧ (¬ a1 = 4 → ((a1 = 5 → isK w a0 12 ∧ isK w (wR w a0 0) 20 ∧ vp_in 26 (wn w (wR w a0 0)) ∧ K (x_irem (wI w (wR w a0 0) (26 : Int32).toNatClampNeg) 24) w) ∧ (¬ a1 = 5 → ((a1 = 6 → isK w a0 12 ∧ w_X12_phaseIn a0 a3 0 (fun r24 w25 => K r24 w25) w) ∧ (¬ a1 = 6 → isK w a0 12 ∧ isK w (wR w a0 0) 20 ∧ vp_in (57 + a2) (wn w (wR w a0 0)) ∧ w_X12_size (wI w (wR w a0 0) (57 + a2).toNatClampNeg) (fun r29 w30 => K r29 w30) w))))))))))))))
theorem c_X12_wordOf {x : xG} {l : Launch} {a0 : Nat} {a1 : Int32} {a2 : Int32} {a3 : Int32} {a4 : Int32} {K : Int32 → Wd → Prop} {w : Wd} (h : w_X12_wordOf a0 a1 a2 a3 a4 K w) : Met l yX12_wordOf (xws yX12_wordOf cX12_wordOf 5 (some .int)) (rmd 1 0 0) (xPc x [.ref (adr x a0), .int a1, .int a2, .int a3, .int a4] w) (QcI x K) 0 0 (xA x) := by
  refine xMet (by decide) (Nat.le_of_ble_eq_true rfl) (fun p e s m below meth c C hlk hr _ => ?_)
  show GW x p l e (rmd 1 0 0) s m [.ref (adr x a0), .int a1, .int a2, .int a3, .int a4].toArray below meth c 5 (QI x K below [.ref (adr x a0), .int a1, .int a2, .int a3, .int a4].toArray s 0 0) 0 [(0, .ref (adr x a0)), (1, .int a1), (2, .int a2), (3, .int a3), (4, .int a4)] [] w 0 0
  refine g_iload_n (pc := 0) C dX12_wordOf_0 (q := 1) rfl ?_
  by_cases z1 : a1 = 0
  · replace h := h.1 z1
    refine g_tabIn (pc := 1) C dX12_wordOf_1 (by rw [z1]; decide) (by rw [z1]; decide) (off := 43) (by rw [z1]; rfl) (tgt := 44) rfl ?_
    refine g_aload_n (pc := 44) C dX12_wordOf_44 (q := 0) rfl ?_
    obtain ⟨k8, h⟩ := h
    obtain ⟨k9, h⟩ := h
    refine gfX12_9 (pc := 45) C k8 (isK_ne k9) dX12_wordOf_45 ?_
    refine g_bipush (pc := 48) C dX12_wordOf_48 (v := 47) rfl ?_
    refine g_iload_n (pc := 50) C dX12_wordOf_50 (q := 2) rfl ?_
    refine g_iadd (pc := 51) C dX12_wordOf_51 ?_
    obtain ⟨k10, h⟩ := h
    refine g_iald (pc := 52) C k9 k10 dX12_wordOf_52 ?_
    exact g_iret (pc := 53) C hlk hr (Nat.le_refl _) (Nat.le_refl _) dX12_wordOf_53 h
  replace h := h.2 z1
  by_cases z2 : a1 = 1
  · replace h := h.1 z2
    refine g_tabIn (pc := 1) C dX12_wordOf_1 (by rw [z2]; decide) (by rw [z2]; decide) (off := 53) (by rw [z2]; rfl) (tgt := 54) rfl ?_
    refine g_aload_n (pc := 54) C dX12_wordOf_54 (q := 0) rfl ?_
    obtain ⟨k11, h⟩ := h
    obtain ⟨k12, h⟩ := h
    refine gfX12_9 (pc := 55) C k11 (isK_ne k12) dX12_wordOf_55 ?_
    refine g_bipush (pc := 58) C dX12_wordOf_58 (v := 47) rfl ?_
    refine g_iload_n (pc := 60) C dX12_wordOf_60 (q := 3) rfl ?_
    refine g_iadd (pc := 61) C dX12_wordOf_61 ?_
    obtain ⟨k13, h⟩ := h
    refine g_iald (pc := 62) C k12 k13 dX12_wordOf_62 ?_
    exact g_iret (pc := 63) C hlk hr (Nat.le_refl _) (Nat.le_refl _) dX12_wordOf_63 h
  replace h := h.2 z2
  by_cases z3 : a1 = 2
  · replace h := h.1 z3
    refine g_tabIn (pc := 1) C dX12_wordOf_1 (by rw [z3]; decide) (by rw [z3]; decide) (off := 63) (by rw [z3]; rfl) (tgt := 64) rfl ?_
    refine g_aload_n (pc := 64) C dX12_wordOf_64 (q := 0) rfl ?_
    obtain ⟨k14, h⟩ := h
    obtain ⟨k15, h⟩ := h
    refine gfX12_9 (pc := 65) C k14 (isK_ne k15) dX12_wordOf_65 ?_
    refine g_bipush (pc := 68) C dX12_wordOf_68 (v := 15) rfl ?_
    refine g_iload_n (pc := 70) C dX12_wordOf_70 (q := 2) rfl ?_
    refine g_iadd (pc := 71) C dX12_wordOf_71 ?_
    obtain ⟨k16, h⟩ := h
    refine g_iald (pc := 72) C k15 k16 dX12_wordOf_72 ?_
    exact g_iret (pc := 73) C hlk hr (Nat.le_refl _) (Nat.le_refl _) dX12_wordOf_73 h
  replace h := h.2 z3
  by_cases z4 : a1 = 3
  · replace h := h.1 z4
    refine g_tabIn (pc := 1) C dX12_wordOf_1 (by rw [z4]; decide) (by rw [z4]; decide) (off := 73) (by rw [z4]; rfl) (tgt := 74) rfl ?_
    refine g_aload_n (pc := 74) C dX12_wordOf_74 (q := 0) rfl ?_
    obtain ⟨k17, h⟩ := h
    obtain ⟨k18, h⟩ := h
    refine gfX12_9 (pc := 75) C k17 (isK_ne k18) dX12_wordOf_75 ?_
    refine g_bipush (pc := 78) C dX12_wordOf_78 (v := 15) rfl ?_
    refine g_iload_n (pc := 80) C dX12_wordOf_80 (q := 3) rfl ?_
    refine g_iadd (pc := 81) C dX12_wordOf_81 ?_
    obtain ⟨k19, h⟩ := h
    refine g_iald (pc := 82) C k18 k19 dX12_wordOf_82 ?_
    exact g_iret (pc := 83) C hlk hr (Nat.le_refl _) (Nat.le_refl _) dX12_wordOf_83 h
  replace h := h.2 z4
  by_cases z5 : a1 = 4
  · replace h := h.1 z5
    refine g_tabIn (pc := 1) C dX12_wordOf_1 (by rw [z5]; decide) (by rw [z5]; decide) (off := 83) (by rw [z5]; rfl) (tgt := 84) rfl ?_
    refine g_iload (pc := 84) C dX12_wordOf_84 (q := 4) rfl ?_
    exact g_iret (pc := 86) C hlk hr (Nat.le_refl _) (Nat.le_refl _) dX12_wordOf_86 h
  replace h := h.2 z5
  by_cases z6 : a1 = 5
  · replace h := h.1 z6
    refine g_tabIn (pc := 1) C dX12_wordOf_1 (by rw [z6]; decide) (by rw [z6]; decide) (off := 86) (by rw [z6]; rfl) (tgt := 87) rfl ?_
    refine g_aload_n (pc := 87) C dX12_wordOf_87 (q := 0) rfl ?_
    obtain ⟨k20, h⟩ := h
    obtain ⟨k21, h⟩ := h
    refine gfX12_9 (pc := 88) C k20 (isK_ne k21) dX12_wordOf_88 ?_
    refine g_bipush (pc := 91) C dX12_wordOf_91 (v := 26) rfl ?_
    obtain ⟨k22, h⟩ := h
    refine g_iald (pc := 93) C k21 k22 dX12_wordOf_93 ?_
    refine g_bipush (pc := 94) C dX12_wordOf_94 (v := 24) rfl ?_
    refine h_irem (pc := 96) C dX12_wordOf_96 (by decide) ?_
    exact g_iret (pc := 97) C hlk hr (Nat.le_refl _) (Nat.le_refl _) dX12_wordOf_97 h
  replace h := h.2 z6
  by_cases z7 : a1 = 6
  · replace h := h.1 z7
    refine g_tabIn (pc := 1) C dX12_wordOf_1 (by rw [z7]; decide) (by rw [z7]; decide) (off := 97) (by rw [z7]; rfl) (tgt := 98) rfl ?_
    refine g_aload_n (pc := 98) C dX12_wordOf_98 (q := 0) rfl ?_
    refine g_iload_n (pc := 99) C dX12_wordOf_99 (q := 3) rfl ?_
    refine g_iconst (pc := 100) C dX12_wordOf_100 (v := 0) rfl ?_
    obtain ⟨k23, h⟩ := h
    refine miX12_242 (pc := 101) C k23 h (Nat.le_of_ble_eq_true rfl) (Nat.le_of_ble_eq_true rfl) ⟨Nat.le_refl _, Nat.le_refl _⟩ dX12_wordOf_101 (fun r24 w25 h => ?_)
    exact g_iret (pc := 104) C hlk hr (Nat.le_refl _) (Nat.le_refl _) dX12_wordOf_104 h
  replace h := h.2 z7
  have y31 := ne_toInt (n := 0) z1 (by decide)
  have y32 := ne_toInt (n := 1) z2 (by decide)
  have y33 := ne_toInt (n := 2) z3 (by decide)
  have y34 := ne_toInt (n := 3) z4 (by decide)
  have y35 := ne_toInt (n := 4) z5 (by decide)
  have y36 := ne_toInt (n := 5) z6 (by decide)
  have y37 := ne_toInt (n := 6) z7 (by decide)
  refine g_tabOut (pc := 1) C dX12_wordOf_1 (by omega) (tgt := 105) rfl ?_
  refine g_aload_n (pc := 105) C dX12_wordOf_105 (q := 0) rfl ?_
  obtain ⟨k26, h⟩ := h
  obtain ⟨k27, h⟩ := h
  refine gfX12_9 (pc := 106) C k26 (isK_ne k27) dX12_wordOf_106 ?_
  refine g_bipush (pc := 109) C dX12_wordOf_109 (v := 57) rfl ?_
  refine g_iload_n (pc := 111) C dX12_wordOf_111 (q := 2) rfl ?_
  refine g_iadd (pc := 112) C dX12_wordOf_112 ?_
  obtain ⟨k28, h⟩ := h
  refine g_iald (pc := 113) C k27 k28 dX12_wordOf_113 ?_
  refine miX12_265 (pc := 114) C h (Nat.le_of_ble_eq_true rfl) (Nat.le_of_ble_eq_true rfl) ⟨Nat.le_refl _, Nat.le_refl _⟩ dX12_wordOf_114 (fun r29 w30 h => ?_)
  exact g_iret (pc := 117) C hlk hr (Nat.le_refl _) (Nat.le_refl _) dX12_wordOf_117 h
theorem miX12_271 (C : xC x p s m c cc nL args RX12) {a0 : Nat} {a1 : Int32} {K : Int32 → Wd → Prop} {D MC MS : Nat} (hq : isK w a0 12) (h : w_X12_isUp a0 a1 K w) (hD : 2 + 1 ≤ D) (hW : (st.map fun v => v.category).sum ≤ 8) (hij : i ≤ MC ∧ j ≤ MS) (hd : decode cc pc = .ok (.invokevirtual 271, 3)) (k : ∀ (r : Int32) (u : Wd), K r u → GW x p l e (rmd D MC MS) s m args below meth c nL Q (pc + 3) lo (.int r :: st) u i j) : GW x p l e (rmd D MC MS) s m args below meth c nL Q pc lo (.int a1 :: .ref (adr x a0) :: st) w i j := g_callVi0 C (As := [.int a1]) (ci := 12) (c_X12_isUp h) (x_cwV C 1 LMX12_271 ⟨rfl, by decide, by decide, rfl⟩ hD (by decide)) rfl hq (by decide) rfl rfl hW hd hij k
theorem miX12_274 (C : xC x p s m c cc nL args RX12) {a0 : Nat} {a1 : Int32} {a2 : Int32} {a3 : Int32} {a4 : Int32} {K : Int32 → Wd → Prop} {D MC MS : Nat} (hq : isK w a0 12) (h : w_X12_wordOf a0 a1 a2 a3 a4 K w) (hD : 1 + 1 ≤ D) (hW : (st.map fun v => v.category).sum ≤ 8) (hij : i ≤ MC ∧ j ≤ MS) (hd : decode cc pc = .ok (.invokevirtual 274, 3)) (k : ∀ (r : Int32) (u : Wd), K r u → GW x p l e (rmd D MC MS) s m args below meth c nL Q (pc + 3) lo (.int r :: st) u i j) : GW x p l e (rmd D MC MS) s m args below meth c nL Q pc lo (.int a4 :: .int a3 :: .int a2 :: .int a1 :: .ref (adr x a0) :: st) w i j := g_callVi0 C (As := [.int a1, .int a2, .int a3, .int a4]) (ci := 12) (c_X12_wordOf h) (x_cwV C 4 LMX12_274 ⟨rfl, by decide, by decide, rfl⟩ hD (by decide)) rfl hq (by decide) rfl rfl hW hd hij k
theorem miX12_278 (C : xC x p s m c cc nL args RX12) {a0 : Int32} {a1 : Int64} {a3 : Int64} {K : Int32 → Wd → Prop} {D MC MS : Nat} (h : w_X12_done a0 a1 a3 K w) (hD : 2 + 1 ≤ D) (hW : (st.map fun v => v.category).sum ≤ 8) (hij : i ≤ MC ∧ j ≤ MS) (hd : decode cc pc = .ok (.invokestatic 278, 3)) (k : ∀ (r : Int32) (u : Wd), K r u → GW x p l e (rmd D MC MS) s m args below meth c nL Q (pc + 3) lo (.int r :: st) u i j) : GW x p l e (rmd D MC MS) s m args below meth c nL Q pc lo (.long a3 :: .long a1 :: .int a0 :: st) w i j := g_callSi0 C (As := [.int a0, .long a1, .long a3]) (c_X12_done h) (x_cwS C 3 LMX12_278 ⟨by decide, by decide, rfl⟩ hD (by decide)) rfl rfl hW hd hij k
def l_X12_isWoken_32 (E176 : Nat → Int32 → Wd → Prop) (K : Int32 → Wd → Prop) : Nat → Nat → Int32 → Int32 → Int32 → Int32 → Int32 → Wd → Prop
  | 0, _, _, _, _, _, _, _ => False
  | n + 1, a0, a1, a2, a3, a4, a5, w => isK w a0 12 ∧ isK w (wR w a0 0) 20 ∧ vp_in 3 (wn w (wR w a0 0)) ∧ (((wI w (wR w a0 0) (3 : Int32).toNatClampNeg) ≤ a5 → E176 a0 a4 w) ∧ (¬ (wI w (wR w a0 0) (3 : Int32).toNatClampNeg) ≤ a5 → vp_in (299 + a5) (wn w (wR w a0 0)) ∧ (((wI w (wR w a0 0) (299 + a5).toNatClampNeg) < 100 → (((wI w (wR w a0 0) (299 + a5).toNatClampNeg) = 18 → isK w (wR w a0 17) 20 ∧ vp_in (a4 - 1) (wn w (wR w a0 17)) ∧ vp_in (a4 - 1) (wn w (wR w a0 17)) ∧ l_X12_isWoken_32 E176 K n a0 a1 a2 a3 a4 (a5 + 1) (uI w (wR w a0 17) (a4 - 1).toNatClampNeg (1 - (wI w (wR w a0 17) (a4 - 1).toNatClampNeg)))) ∧ (¬ (wI w (wR w a0 0) (299 + a5).toNatClampNeg) = 18 → isK w (wR w a0 17) 20 ∧ vp_in ((a4 + (-1)) - 1) (wn w (wR w a0 17)) ∧ vp_in (a4 + (-1)) (wn w (wR w a0 17)) ∧ w_X12_done (wI w (wR w a0 0) (299 + a5).toNatClampNeg) ((wI w (wR w a0 17) ((a4 + (-1)) - 1).toNatClampNeg).toInt64) ((wI w (wR w a0 17) (a4 + (-1)).toNatClampNeg).toInt64) (fun r21 w22 => isK w22 (wR w a0 17) 20 ∧ vp_in ((a4 + (-1)) - 1) (wn w22 (wR w a0 17)) ∧ l_X12_isWoken_32 E176 K n a0 a1 a2 a3 (a4 + (-1)) (a5 + 1) (uI w22 (wR w a0 17) ((a4 + (-1)) - 1).toNatClampNeg r21)) w))) ∧ (¬ (wI w (wR w a0 0) (299 + a5).toNatClampNeg) < 100 → isK w (wR w a0 17) 20 ∧ (((wI w (wR w a0 0) (299 + a5).toNatClampNeg) < 1000 → w_X12_wordOf a0 ((wI w (wR w a0 0) (299 + a5).toNatClampNeg) - 100) a1 a2 a3 (fun r30 w31 => isK w31 (wR w a0 17) 20 ∧ vp_in a4 (wn w31 (wR w a0 17)) ∧ l_X12_isWoken_32 E176 K n a0 a1 a2 a3 (a4 + 1) (a5 + 1) (uI w31 (wR w a0 17) a4.toNatClampNeg r30)) w) ∧ (¬ (wI w (wR w a0 0) (299 + a5).toNatClampNeg) < 1000 → vp_in a4 (wn w (wR w a0 17)) ∧ l_X12_isWoken_32 E176 K n a0 a1 a2 a3 (a4 + 1) (a5 + 1) (uI w (wR w a0 17) a4.toNatClampNeg ((wI w (wR w a0 0) (299 + a5).toNatClampNeg) - 1000))))))))
def w_X12_isWoken (a0 : Nat) (a1 : Int32) (a2 : Int32) (a3 : Int32) (K : Int32 → Wd → Prop) (w : Wd) : Prop :=
  isK w a0 12 ∧ isK w (wR w a0 0) 20 ∧ vp_in (57 + a1) (wn w (wR w a0 0)) ∧ w_X12_has (wI w (wR w a0 0) (57 + a1).toNatClampNeg) a2 (fun r4 w5 => ((r4 = 0 → K 0 w5) ∧ (¬ r4 = 0 → isK w5 a0 12 ∧ w_X12_isUp a0 a2 (fun r8 w9 => ((r8 = 0 → ∃ n43, l_X12_isWoken_32 (fun b35 b36 w37 => ((b36 ≤ 0 → K 0 w37) ∧ (¬ b36 ≤ 0 → isK w37 b35 12 ∧ isK w37 (wR w37 b35 17) 20 ∧ vp_in 0 (wn w37 (wR w37 b35 17)) ∧ (((wI w37 (wR w37 b35 17) (0 : Int32).toNatClampNeg) = 1 → K 1 w37) ∧ (¬ (wI w37 (wR w37 b35 17) (0 : Int32).toNatClampNeg) = 1 → K 0 w37))))) K n43 a0 a1 a2 a3 0 0 w9) ∧ (¬ r8 = 0 → K 0 w9))) w5))) w
theorem t_X12_isWoken_32 (C : xC x p s m c cX12_isWoken 7 args RX12) (hlk : meth.locks = false) (hr : meth.sig.returnType = some .boolean) {K : Int32 → Wd → Prop} {E176 : Nat → Int32 → Wd → Prop} (hE176 : ∀ (b0 : Nat) (b4 : Int32) (w : Wd), E176 b0 b4 w → GW x p l e (rmd 3 0 0) s m args below meth c 7 (QI x K below args s 0 0) 176 [(0, .ref (adr x b0)), (4, .int b4)] [] w 0 0) : ∀ (n : Nat) (a0 : Nat) (a1 : Int32) (a2 : Int32) (a3 : Int32) (a4 : Int32) (a5 : Int32) (w : Wd), l_X12_isWoken_32 E176 K n a0 a1 a2 a3 a4 a5 w → GW x p l e (rmd 3 0 0) s m args below meth c 7 (QI x K below args s 0 0) 32 [(0, .ref (adr x a0)), (1, .int a1), (2, .int a2), (3, .int a3), (4, .int a4), (5, .int a5)] [] w 0 0 := by
  intro n
  induction n with
  | zero => intro _ _ _ _ _ _ _ h; exact False.elim h
  | succ n ih =>
    intro a0 a1 a2 a3 a4 a5 w h
    refine g_iload (pc := 32) C dX12_isWoken_32 (q := 5) rfl ?_
    refine g_aload_n (pc := 34) C dX12_isWoken_34 (q := 0) rfl ?_
    obtain ⟨k11, h⟩ := h
    obtain ⟨k12, h⟩ := h
    refine gfX12_9 (pc := 35) C k11 (isK_ne k12) dX12_isWoken_35 ?_
    refine g_iconst (pc := 38) C dX12_isWoken_38 (v := 3) rfl ?_
    obtain ⟨k13, h⟩ := h
    refine g_iald (pc := 39) C k12 k13 dX12_isWoken_39 ?_
    refine g_icmp_ge (pc := 40) C dX12_isWoken_40 (tgt := 176) rfl (fun z14 => ?_) (fun z14 => ?_)
    · replace h := h.1 z14
      refine g_sub [0, 4] rfl ?_
      exact hE176 _ _ _ h
    · replace h := h.2 z14
      refine g_aload_n (pc := 43) C dX12_isWoken_43 (q := 0) rfl ?_
      refine gfX12_9 (pc := 44) C k11 (isK_ne k12) dX12_isWoken_44 ?_
      refine g_sipush (pc := 47) C dX12_isWoken_47 (v := 299) rfl ?_
      refine g_iload (pc := 50) C dX12_isWoken_50 (q := 5) rfl ?_
      refine g_iadd (pc := 52) C dX12_isWoken_52 ?_
      obtain ⟨k15, h⟩ := h
      refine g_iald (pc := 53) C k12 k15 dX12_isWoken_53 ?_
      refine g_istore (pc := 54) C dX12_isWoken_54 (Nat.le_of_ble_eq_true rfl) (lo' := [(6, .int (wI w (wR w a0 0) (299 + a5).toNatClampNeg)), (0, .ref (adr x a0)), (1, .int a1), (2, .int a2), (3, .int a3), (4, .int a4), (5, .int a5)]) rfl ?_
      refine g_iload (pc := 56) C dX12_isWoken_56 (q := 0) rfl ?_
      refine g_bipush (pc := 58) C dX12_isWoken_58 (v := 100) rfl ?_
      refine g_icmp_lt (pc := 60) C dX12_isWoken_60 (tgt := 105) rfl (fun z16 => ?_) (fun z16 => ?_)
      · replace h := h.1 z16
        refine g_iload (pc := 105) C dX12_isWoken_105 (q := 0) rfl ?_
        refine g_bipush (pc := 107) C dX12_isWoken_107 (v := 18) rfl ?_
        refine g_icmp_ne (pc := 109) C dX12_isWoken_109 (tgt := 135) rfl (fun z17 => ?_) (fun z17 => ?_)
        · replace h := h.2 z17
          refine g_iinc (pc := 135) C dX12_isWoken_135 (q := 5) rfl (v2 := a4 + (-1)) rfl (Nat.le_of_ble_eq_true rfl) (lo' := [(4, .int (a4 + (-1))), (6, .int (wI w (wR w a0 0) (299 + a5).toNatClampNeg)), (0, .ref (adr x a0)), (1, .int a1), (2, .int a2), (3, .int a3), (5, .int a5)]) rfl ?_
          refine g_aload_n (pc := 138) C dX12_isWoken_138 (q := 2) rfl ?_
          obtain ⟨k18, h⟩ := h
          refine gfX12_30 (pc := 139) C k11 (isK_ne k18) dX12_isWoken_139 ?_
          refine g_iload (pc := 142) C dX12_isWoken_142 (q := 0) rfl ?_
          refine g_iconst (pc := 144) C dX12_isWoken_144 (v := 1) rfl ?_
          refine g_isub (pc := 145) C dX12_isWoken_145 ?_
          refine g_iload (pc := 146) C dX12_isWoken_146 (q := 1) rfl ?_
          refine g_aload_n (pc := 148) C dX12_isWoken_148 (q := 2) rfl ?_
          refine gfX12_30 (pc := 149) C k11 (isK_ne k18) dX12_isWoken_149 ?_
          refine g_iload (pc := 152) C dX12_isWoken_152 (q := 0) rfl ?_
          refine g_iconst (pc := 154) C dX12_isWoken_154 (v := 1) rfl ?_
          refine g_isub (pc := 155) C dX12_isWoken_155 ?_
          obtain ⟨k19, h⟩ := h
          refine g_iald (pc := 156) C k18 k19 dX12_isWoken_156 ?_
          refine g_i2l (pc := 157) C dX12_isWoken_157 ?_
          refine g_aload_n (pc := 158) C dX12_isWoken_158 (q := 2) rfl ?_
          refine gfX12_30 (pc := 159) C k11 (isK_ne k18) dX12_isWoken_159 ?_
          refine g_iload (pc := 162) C dX12_isWoken_162 (q := 0) rfl ?_
          obtain ⟨k20, h⟩ := h
          refine g_iald (pc := 164) C k18 k20 dX12_isWoken_164 ?_
          refine g_i2l (pc := 165) C dX12_isWoken_165 ?_
          refine miX12_278 (pc := 166) C h (Nat.le_of_ble_eq_true rfl) (Nat.le_of_ble_eq_true rfl) ⟨Nat.le_refl _, Nat.le_refl _⟩ dX12_isWoken_166 (fun r21 w22 h => ?_)
          obtain ⟨k23, h⟩ := h
          obtain ⟨k24, h⟩ := h
          refine g_iast (pc := 169) C k23 k24 dX12_isWoken_169 ?_
          refine g_iinc (pc := 170) C dX12_isWoken_170 (q := 6) rfl (v2 := a5 + 1) rfl (Nat.le_of_ble_eq_true rfl) (lo' := [(5, .int (a5 + 1)), (4, .int (a4 + (-1))), (6, .int (wI w (wR w a0 0) (299 + a5).toNatClampNeg)), (0, .ref (adr x a0)), (1, .int a1), (2, .int a2), (3, .int a3)]) rfl ?_
          refine g_goto (pc := 173) C dX12_isWoken_173 (tgt := 32) rfl ?_
          refine g_sub [3, 4, 5, 6, 1, 0] rfl ?_
          exact ih _ _ _ _ _ _ _ h
        · replace h := h.1 z17
          refine g_aload_n (pc := 112) C dX12_isWoken_112 (q := 1) rfl ?_
          obtain ⟨k25, h⟩ := h
          refine gfX12_30 (pc := 113) C k11 (isK_ne k25) dX12_isWoken_113 ?_
          refine g_iload (pc := 116) C dX12_isWoken_116 (q := 5) rfl ?_
          refine g_iconst (pc := 118) C dX12_isWoken_118 (v := 1) rfl ?_
          refine g_isub (pc := 119) C dX12_isWoken_119 ?_
          refine g_iconst (pc := 120) C dX12_isWoken_120 (v := 1) rfl ?_
          refine g_aload_n (pc := 121) C dX12_isWoken_121 (q := 1) rfl ?_
          refine gfX12_30 (pc := 122) C k11 (isK_ne k25) dX12_isWoken_122 ?_
          refine g_iload (pc := 125) C dX12_isWoken_125 (q := 5) rfl ?_
          refine g_iconst (pc := 127) C dX12_isWoken_127 (v := 1) rfl ?_
          refine g_isub (pc := 128) C dX12_isWoken_128 ?_
          obtain ⟨k26, h⟩ := h
          refine g_iald (pc := 129) C k25 k26 dX12_isWoken_129 ?_
          refine g_isub (pc := 130) C dX12_isWoken_130 ?_
          obtain ⟨k27, h⟩ := h
          refine g_iast (pc := 131) C k25 k27 dX12_isWoken_131 ?_
          refine g_goto (pc := 132) C dX12_isWoken_132 (tgt := 170) rfl ?_
          refine g_iinc (pc := 170) C dX12_isWoken_170 (q := 6) rfl (v2 := a5 + 1) rfl (Nat.le_of_ble_eq_true rfl) (lo' := [(5, .int (a5 + 1)), (6, .int (wI w (wR w a0 0) (299 + a5).toNatClampNeg)), (0, .ref (adr x a0)), (1, .int a1), (2, .int a2), (3, .int a3), (4, .int a4)]) rfl ?_
          refine g_goto (pc := 173) C dX12_isWoken_173 (tgt := 32) rfl ?_
          refine g_sub [2, 3, 4, 5, 6, 0] rfl ?_
          exact ih _ _ _ _ _ _ _ h
      · replace h := h.2 z16
        refine g_aload_n (pc := 63) C dX12_isWoken_63 (q := 1) rfl ?_
        obtain ⟨k28, h⟩ := h
        refine gfX12_30 (pc := 64) C k11 (isK_ne k28) dX12_isWoken_64 ?_
        refine g_iload (pc := 67) C dX12_isWoken_67 (q := 5) rfl ?_
        refine g_iload (pc := 69) C dX12_isWoken_69 (q := 0) rfl ?_
        refine g_sipush (pc := 71) C dX12_isWoken_71 (v := 1000) rfl ?_
        refine g_icmp_lt (pc := 74) C dX12_isWoken_74 (tgt := 86) rfl (fun z29 => ?_) (fun z29 => ?_)
        · replace h := h.1 z29
          refine g_aload_n (pc := 86) C dX12_isWoken_86 (q := 1) rfl ?_
          refine g_iload (pc := 87) C dX12_isWoken_87 (q := 0) rfl ?_
          refine g_bipush (pc := 89) C dX12_isWoken_89 (v := 100) rfl ?_
          refine g_isub (pc := 91) C dX12_isWoken_91 ?_
          refine g_iload_n (pc := 92) C dX12_isWoken_92 (q := 2) rfl ?_
          refine g_iload_n (pc := 93) C dX12_isWoken_93 (q := 3) rfl ?_
          refine g_iload_n (pc := 94) C dX12_isWoken_94 (q := 4) rfl ?_
          refine miX12_274 (pc := 95) C k11 h (Nat.le_of_ble_eq_true rfl) (Nat.le_of_ble_eq_true rfl) ⟨Nat.le_refl _, Nat.le_refl _⟩ dX12_isWoken_95 (fun r30 w31 h => ?_)
          obtain ⟨k32, h⟩ := h
          obtain ⟨k33, h⟩ := h
          refine g_iast (pc := 98) C k32 k33 dX12_isWoken_98 ?_
          refine g_iinc (pc := 99) C dX12_isWoken_99 (q := 5) rfl (v2 := a4 + 1) rfl (Nat.le_of_ble_eq_true rfl) (lo' := [(4, .int (a4 + 1)), (6, .int (wI w (wR w a0 0) (299 + a5).toNatClampNeg)), (0, .ref (adr x a0)), (1, .int a1), (2, .int a2), (3, .int a3), (5, .int a5)]) rfl ?_
          refine g_goto (pc := 102) C dX12_isWoken_102 (tgt := 170) rfl ?_
          refine g_iinc (pc := 170) C dX12_isWoken_170 (q := 6) rfl (v2 := a5 + 1) rfl (Nat.le_of_ble_eq_true rfl) (lo' := [(5, .int (a5 + 1)), (4, .int (a4 + 1)), (6, .int (wI w (wR w a0 0) (299 + a5).toNatClampNeg)), (0, .ref (adr x a0)), (1, .int a1), (2, .int a2), (3, .int a3)]) rfl ?_
          refine g_goto (pc := 173) C dX12_isWoken_173 (tgt := 32) rfl ?_
          refine g_sub [3, 4, 5, 6, 1, 0] rfl ?_
          exact ih _ _ _ _ _ _ _ h
        · replace h := h.2 z29
          refine g_iload (pc := 77) C dX12_isWoken_77 (q := 0) rfl ?_
          refine g_sipush (pc := 79) C dX12_isWoken_79 (v := 1000) rfl ?_
          refine g_isub (pc := 82) C dX12_isWoken_82 ?_
          refine g_goto (pc := 83) C dX12_isWoken_83 (tgt := 98) rfl ?_
          obtain ⟨k34, h⟩ := h
          refine g_iast (pc := 98) C k28 k34 dX12_isWoken_98 ?_
          refine g_iinc (pc := 99) C dX12_isWoken_99 (q := 5) rfl (v2 := a4 + 1) rfl (Nat.le_of_ble_eq_true rfl) (lo' := [(4, .int (a4 + 1)), (6, .int (wI w (wR w a0 0) (299 + a5).toNatClampNeg)), (0, .ref (adr x a0)), (1, .int a1), (2, .int a2), (3, .int a3), (5, .int a5)]) rfl ?_
          refine g_goto (pc := 102) C dX12_isWoken_102 (tgt := 170) rfl ?_
          refine g_iinc (pc := 170) C dX12_isWoken_170 (q := 6) rfl (v2 := a5 + 1) rfl (Nat.le_of_ble_eq_true rfl) (lo' := [(5, .int (a5 + 1)), (4, .int (a4 + 1)), (6, .int (wI w (wR w a0 0) (299 + a5).toNatClampNeg)), (0, .ref (adr x a0)), (1, .int a1), (2, .int a2), (3, .int a3)]) rfl ?_
          refine g_goto (pc := 173) C dX12_isWoken_173 (tgt := 32) rfl ?_
          refine g_sub [3, 4, 5, 6, 1, 0] rfl ?_
          exact ih _ _ _ _ _ _ _ h
theorem c_X12_isWoken {x : xG} {l : Launch} {a0 : Nat} {a1 : Int32} {a2 : Int32} {a3 : Int32} {K : Int32 → Wd → Prop} {w : Wd} (h : w_X12_isWoken a0 a1 a2 a3 K w) : Met l yX12_isWoken (xws yX12_isWoken cX12_isWoken 7 (some .boolean)) (rmd 3 0 0) (xPc x [.ref (adr x a0), .int a1, .int a2, .int a3] w) (QcI x K) 0 0 (xA x) := by
  refine xMet (by decide) (Nat.le_of_ble_eq_true rfl) (fun p e s m below meth c C hlk hr _ => ?_)
  show GW x p l e (rmd 3 0 0) s m [.ref (adr x a0), .int a1, .int a2, .int a3].toArray below meth c 7 (QI x K below [.ref (adr x a0), .int a1, .int a2, .int a3].toArray s 0 0) 0 [(0, .ref (adr x a0)), (1, .int a1), (2, .int a2), (3, .int a3)] [] w 0 0
  refine g_aload_n (pc := 0) C dX12_isWoken_0 (q := 0) rfl ?_
  obtain ⟨k1, h⟩ := h
  obtain ⟨k2, h⟩ := h
  refine gfX12_9 (pc := 1) C k1 (isK_ne k2) dX12_isWoken_1 ?_
  refine g_bipush (pc := 4) C dX12_isWoken_4 (v := 57) rfl ?_
  refine g_iload_n (pc := 6) C dX12_isWoken_6 (q := 1) rfl ?_
  refine g_iadd (pc := 7) C dX12_isWoken_7 ?_
  obtain ⟨k3, h⟩ := h
  refine g_iald (pc := 8) C k2 k3 dX12_isWoken_8 ?_
  refine g_iload_n (pc := 9) C dX12_isWoken_9 (q := 2) rfl ?_
  refine miX12_268 (pc := 10) C h (Nat.le_of_ble_eq_true rfl) (Nat.le_of_ble_eq_true rfl) ⟨Nat.le_refl _, Nat.le_refl _⟩ dX12_isWoken_10 (fun r4 w5 h => ?_)
  refine g_if_eq (pc := 13) C dX12_isWoken_13 (tgt := 24) rfl (fun z6 => ?_) (fun z6 => ?_)
  · replace h := h.1 z6
    refine g_iconst (pc := 24) C dX12_isWoken_24 (v := 0) rfl ?_
    exact g_zret (pc := 25) C hlk hr (Nat.le_refl _) (Nat.le_refl _) dX12_isWoken_25 (Or.inl rfl) h
  · replace h := h.2 z6
    refine g_aload_n (pc := 16) C dX12_isWoken_16 (q := 0) rfl ?_
    refine g_iload_n (pc := 17) C dX12_isWoken_17 (q := 2) rfl ?_
    obtain ⟨k7, h⟩ := h
    refine miX12_271 (pc := 18) C k7 h (Nat.le_of_ble_eq_true rfl) (Nat.le_of_ble_eq_true rfl) ⟨Nat.le_refl _, Nat.le_refl _⟩ dX12_isWoken_18 (fun r8 w9 h => ?_)
    refine g_if_eq (pc := 21) C dX12_isWoken_21 (tgt := 26) rfl (fun z10 => ?_) (fun z10 => ?_)
    · replace h := h.1 z10
      refine g_iconst (pc := 26) C dX12_isWoken_26 (v := 0) rfl ?_
      refine g_istore (pc := 27) C dX12_isWoken_27 (Nat.le_of_ble_eq_true rfl) (lo' := [(4, .int 0), (0, .ref (adr x a0)), (1, .int a1), (2, .int a2), (3, .int a3)]) rfl ?_
      refine g_iconst (pc := 29) C dX12_isWoken_29 (v := 0) rfl ?_
      refine g_istore (pc := 30) C dX12_isWoken_30 (Nat.le_of_ble_eq_true rfl) (lo' := [(5, .int 0), (4, .int 0), (0, .ref (adr x a0)), (1, .int a1), (2, .int a2), (3, .int a3)]) rfl ?_
      obtain ⟨n43, h⟩ := h
      refine g_sub [2, 3, 4, 5, 1, 0] rfl ?_
      refine t_X12_isWoken_32 C hlk hr ?_ n43 _ _ _ _ _ _ _ h
      · intro b35 b36 w37 h
        refine g_iload (pc := 176) C dX12_isWoken_176 (q := 1) rfl ?_
        refine g_if_le (pc := 178) C dX12_isWoken_178 (tgt := 195) rfl (fun z38 => ?_) (fun z38 => ?_)
        · replace h := h.1 z38
          refine g_iconst (pc := 195) C dX12_isWoken_195 (v := 0) rfl ?_
          exact g_zret (pc := 196) C hlk hr (Nat.le_refl _) (Nat.le_refl _) dX12_isWoken_196 (Or.inl rfl) h
        · replace h := h.2 z38
          refine g_aload_n (pc := 181) C dX12_isWoken_181 (q := 0) rfl ?_
          obtain ⟨k39, h⟩ := h
          obtain ⟨k40, h⟩ := h
          refine gfX12_30 (pc := 182) C k39 (isK_ne k40) dX12_isWoken_182 ?_
          refine g_iconst (pc := 185) C dX12_isWoken_185 (v := 0) rfl ?_
          obtain ⟨k41, h⟩ := h
          refine g_iald (pc := 186) C k40 k41 dX12_isWoken_186 ?_
          refine g_iconst (pc := 187) C dX12_isWoken_187 (v := 1) rfl ?_
          refine g_icmp_ne (pc := 188) C dX12_isWoken_188 (tgt := 195) rfl (fun z42 => ?_) (fun z42 => ?_)
          · replace h := h.2 z42
            refine g_iconst (pc := 195) C dX12_isWoken_195 (v := 0) rfl ?_
            exact g_zret (pc := 196) C hlk hr (Nat.le_refl _) (Nat.le_refl _) dX12_isWoken_196 (Or.inl rfl) h
          · replace h := h.1 z42
            refine g_iconst (pc := 191) C dX12_isWoken_191 (v := 1) rfl ?_
            refine g_goto (pc := 192) C dX12_isWoken_192 (tgt := 196) rfl ?_
            exact g_zret (pc := 196) C hlk hr (Nat.le_refl _) (Nat.le_refl _) dX12_isWoken_196 (Or.inr rfl) h
    · replace h := h.2 z10
      refine g_iconst (pc := 24) C dX12_isWoken_24 (v := 0) rfl ?_
      exact g_zret (pc := 25) C hlk hr (Nat.le_refl _) (Nat.le_refl _) dX12_isWoken_25 (Or.inl rfl) h
theorem miX12_282 (C : xC x p s m c cc nL args RX12) {a0 : Nat} {a1 : Int32} {a2 : Int32} {a3 : Int32} {K : Int32 → Wd → Prop} {D MC MS : Nat} (hq : isK w a0 12) (h : w_X12_isWoken a0 a1 a2 a3 K w) (hD : 3 + 1 ≤ D) (hW : (st.map fun v => v.category).sum ≤ 8) (hij : i ≤ MC ∧ j ≤ MS) (hd : decode cc pc = .ok (.invokevirtual 282, 3)) (k : ∀ (r : Int32) (u : Wd), K r u → GW x p l e (rmd D MC MS) s m args below meth c nL Q (pc + 3) lo (.int r :: st) u i j) : GW x p l e (rmd D MC MS) s m args below meth c nL Q pc lo (.int a3 :: .int a2 :: .int a1 :: .ref (adr x a0) :: st) w i j := g_callVi0 C (As := [.int a1, .int a2, .int a3]) (ci := 12) (c_X12_isWoken h) (x_cwV C 3 LMX12_282 ⟨rfl, by decide, by decide, rfl⟩ hD (by decide)) rfl hq (by decide) rfl rfl hW hd hij k
def l_X12_wokenBy_6 (E60 : Nat → Int32 → Int32 → Int32 → Wd → Prop) (K : Int32 → Wd → Prop) : Nat → Nat → Int32 → Int32 → Int32 → Int32 → Int32 → Wd → Prop
  | 0, _, _, _, _, _, _, _ => False
  | n + 1, a0, a1, a2, a3, a4, a5, w => isK w a0 12 ∧ w_X12_wells a0 (fun r2 w3 => ((r2 ≤ a5 → E60 a0 a1 a3 a4 w3) ∧ (¬ r2 ≤ a5 → ((a5 = a1 → l_X12_wokenBy_6 E60 K n a0 a1 a2 a3 (a4 ||| 0) (a5 + 1) w3) ∧ (¬ a5 = a1 → w_X12_has a3 a5 (fun r6 w7 => ((r6 = 0 → isK w7 a0 12 ∧ w_X12_isWoken a0 a1 a5 a2 (fun r10 w11 => ((r10 = 0 → l_X12_wokenBy_6 E60 K n a0 a1 a2 a3 (a4 ||| 0) (a5 + 1) w11) ∧ (¬ r10 = 0 → l_X12_wokenBy_6 E60 K n a0 a1 a2 a3 (a4 ||| (x_ishl 1 a5)) (a5 + 1) w11))) w7) ∧ (¬ r6 = 0 → l_X12_wokenBy_6 E60 K n a0 a1 a2 a3 (a4 ||| 0) (a5 + 1) w7))) w3))))) w
def l_X12_wokenBy_89 (E157 : Nat → Int32 → Int32 → Int32 → Int32 → Int32 → Wd → Prop) (K : Int32 → Wd → Prop) : Nat → Nat → Int32 → Int32 → Int32 → Int32 → Int32 → Int32 → Wd → Prop
  | 0, _, _, _, _, _, _, _, _ => False
  | n + 1, a0, a1, a3, a4, a5, a6, a7, w => isK w a0 12 ∧ w_X12_wells a0 (fun r24 w25 => ((r24 ≤ a7 → E157 a0 a1 a3 a4 a5 a6 w25) ∧ (¬ r24 ≤ a7 → w_X12_has a5 a6 (fun r27 w28 => ((r27 = 0 → E157 a0 a1 a3 a4 a5 a6 w28) ∧ (¬ r27 = 0 → ((a7 = a1 → l_X12_wokenBy_89 E157 K n a0 a1 a3 (a4 ||| 0) a5 a6 (a7 + 1) w28) ∧ (¬ a7 = a1 → w_X12_has (a3 ||| a4) a7 (fun r31 w32 => ((r31 = 0 → isK w32 a0 12 ∧ w_X12_isWoken a0 a6 a7 0 (fun r35 w36 => ((r35 = 0 → l_X12_wokenBy_89 E157 K n a0 a1 a3 (a4 ||| 0) a5 a6 (a7 + 1) w36) ∧ (¬ r35 = 0 → l_X12_wokenBy_89 E157 K n a0 a1 a3 (a4 ||| (x_ishl 1 a7)) a5 a6 (a7 + 1) w36))) w32) ∧ (¬ r31 = 0 → l_X12_wokenBy_89 E157 K n a0 a1 a3 (a4 ||| 0) a5 a6 (a7 + 1) w32))) w28))))) w25))) w
def l_X12_wokenBy_77 (E163 : Nat → Int32 → Int32 → Int32 → Int32 → Wd → Prop) (K : Int32 → Wd → Prop) : Nat → Nat → Int32 → Int32 → Int32 → Int32 → Int32 → Wd → Prop
  | 0, _, _, _, _, _, _, _ => False
  | n + 1, a0, a1, a3, a4, a5, a6, w => isK w a0 12 ∧ w_X12_wells a0 (fun r20 w21 => ((r20 ≤ a6 → E163 a0 a1 a3 a4 a5 w21) ∧ (¬ r20 ≤ a6 → ∃ n45, l_X12_wokenBy_89 (fun b38 b39 b40 b41 b42 b43 w44 => l_X12_wokenBy_77 E163 K n b38 b39 b40 b41 b42 (b43 + 1) w44) K n45 a0 a1 a3 a4 a5 a6 0 w21))) w
def l_X12_wokenBy_63  (K : Int32 → Wd → Prop) : Nat → Nat → Int32 → Int32 → Int32 → Int32 → Wd → Prop
  | 0, _, _, _, _, _, _ => False
  | n + 1, a0, a1, a3, a4, a5, w => ((a5 = a4 → K a4 w) ∧ (¬ a5 = a4 → ∃ n52, l_X12_wokenBy_77 (fun b46 b47 b48 b49 b50 w51 => l_X12_wokenBy_63 K n b46 b47 b48 b49 b50 w51) K n52 a0 a1 a3 a4 a4 0 w))
def w_X12_wokenBy (a0 : Nat) (a1 : Int32) (a2 : Int32) (a3 : Int32) (K : Int32 → Wd → Prop) (w : Wd) : Prop :=
  ∃ n54, l_X12_wokenBy_6 (fun b13 b14 b15 b16 w17 => ∃ n53, l_X12_wokenBy_63  K n53 b13 b14 b15 b16 (-1) w17) K n54 a0 a1 a2 a3 0 0 w
theorem t_X12_wokenBy_6 (C : xC x p s m c cX12_wokenBy 8 args RX12) (hlk : meth.locks = false) (hr : meth.sig.returnType = some .int) {K : Int32 → Wd → Prop} {E60 : Nat → Int32 → Int32 → Int32 → Wd → Prop} (hE60 : ∀ (b0 : Nat) (b1 : Int32) (b3 : Int32) (b4 : Int32) (w : Wd), E60 b0 b1 b3 b4 w → GW x p l e (rmd 4 0 0) s m args below meth c 8 (QI x K below args s 0 0) 60 [(0, .ref (adr x b0)), (1, .int b1), (3, .int b3), (4, .int b4)] [] w 0 0) : ∀ (n : Nat) (a0 : Nat) (a1 : Int32) (a2 : Int32) (a3 : Int32) (a4 : Int32) (a5 : Int32) (w : Wd), l_X12_wokenBy_6 E60 K n a0 a1 a2 a3 a4 a5 w → GW x p l e (rmd 4 0 0) s m args below meth c 8 (QI x K below args s 0 0) 6 [(0, .ref (adr x a0)), (1, .int a1), (2, .int a2), (3, .int a3), (4, .int a4), (5, .int a5)] [] w 0 0 := by
  intro n
  induction n with
  | zero => intro _ _ _ _ _ _ _ h; exact False.elim h
  | succ n ih =>
    intro a0 a1 a2 a3 a4 a5 w h
    refine g_iload (pc := 6) C dX12_wokenBy_6 (q := 5) rfl ?_
    refine g_aload_n (pc := 8) C dX12_wokenBy_8 (q := 0) rfl ?_
    obtain ⟨k1, h⟩ := h
    refine miX12_239 (pc := 9) C k1 h (Nat.le_of_ble_eq_true rfl) (Nat.le_of_ble_eq_true rfl) ⟨Nat.le_refl _, Nat.le_refl _⟩ dX12_wokenBy_9 (fun r2 w3 h => ?_)
    refine g_icmp_ge (pc := 12) C dX12_wokenBy_12 (tgt := 60) rfl (fun z4 => ?_) (fun z4 => ?_)
    · replace h := h.1 z4
      refine g_sub [0, 1, 3, 4] rfl ?_
      exact hE60 _ _ _ _ _ h
    · replace h := h.2 z4
      refine g_iload (pc := 15) C dX12_wokenBy_15 (q := 4) rfl ?_
      refine g_iload (pc := 17) C dX12_wokenBy_17 (q := 5) rfl ?_
      refine g_iload_n (pc := 19) C dX12_wokenBy_19 (q := 1) rfl ?_
      refine g_icmp_eq (pc := 20) C dX12_wokenBy_20 (tgt := 50) rfl (fun z5 => ?_) (fun z5 => ?_)
      · replace h := h.1 z5
        refine g_iconst (pc := 50) C dX12_wokenBy_50 (v := 0) rfl ?_
        refine g_ior (pc := 51) C dX12_wokenBy_51 ?_
        refine g_istore (pc := 52) C dX12_wokenBy_52 (Nat.le_of_ble_eq_true rfl) (lo' := [(4, .int (a4 ||| 0)), (0, .ref (adr x a0)), (1, .int a1), (2, .int a2), (3, .int a3), (5, .int a5)]) rfl ?_
        refine g_iinc (pc := 54) C dX12_wokenBy_54 (q := 5) rfl (v2 := a5 + 1) rfl (Nat.le_of_ble_eq_true rfl) (lo' := [(5, .int (a5 + 1)), (4, .int (a4 ||| 0)), (0, .ref (adr x a0)), (1, .int a1), (2, .int a2), (3, .int a3)]) rfl ?_
        refine g_goto (pc := 57) C dX12_wokenBy_57 (tgt := 6) rfl ?_
        refine g_sub [2, 3, 4, 5, 1, 0] rfl ?_
        exact ih _ _ _ _ _ _ _ h
      · replace h := h.2 z5
        refine g_iload_n (pc := 23) C dX12_wokenBy_23 (q := 3) rfl ?_
        refine g_iload (pc := 24) C dX12_wokenBy_24 (q := 5) rfl ?_
        refine miX12_268 (pc := 26) C h (Nat.le_of_ble_eq_true rfl) (Nat.le_of_ble_eq_true rfl) ⟨Nat.le_refl _, Nat.le_refl _⟩ dX12_wokenBy_26 (fun r6 w7 h => ?_)
        refine g_if_ne (pc := 29) C dX12_wokenBy_29 (tgt := 50) rfl (fun z8 => ?_) (fun z8 => ?_)
        · replace h := h.2 z8
          refine g_iconst (pc := 50) C dX12_wokenBy_50 (v := 0) rfl ?_
          refine g_ior (pc := 51) C dX12_wokenBy_51 ?_
          refine g_istore (pc := 52) C dX12_wokenBy_52 (Nat.le_of_ble_eq_true rfl) (lo' := [(4, .int (a4 ||| 0)), (0, .ref (adr x a0)), (1, .int a1), (2, .int a2), (3, .int a3), (5, .int a5)]) rfl ?_
          refine g_iinc (pc := 54) C dX12_wokenBy_54 (q := 5) rfl (v2 := a5 + 1) rfl (Nat.le_of_ble_eq_true rfl) (lo' := [(5, .int (a5 + 1)), (4, .int (a4 ||| 0)), (0, .ref (adr x a0)), (1, .int a1), (2, .int a2), (3, .int a3)]) rfl ?_
          refine g_goto (pc := 57) C dX12_wokenBy_57 (tgt := 6) rfl ?_
          refine g_sub [2, 3, 4, 5, 1, 0] rfl ?_
          exact ih _ _ _ _ _ _ _ h
        · replace h := h.1 z8
          refine g_aload_n (pc := 32) C dX12_wokenBy_32 (q := 0) rfl ?_
          refine g_iload_n (pc := 33) C dX12_wokenBy_33 (q := 1) rfl ?_
          refine g_iload (pc := 34) C dX12_wokenBy_34 (q := 5) rfl ?_
          refine g_iload_n (pc := 36) C dX12_wokenBy_36 (q := 2) rfl ?_
          obtain ⟨k9, h⟩ := h
          refine miX12_282 (pc := 37) C k9 h (Nat.le_of_ble_eq_true rfl) (Nat.le_of_ble_eq_true rfl) ⟨Nat.le_refl _, Nat.le_refl _⟩ dX12_wokenBy_37 (fun r10 w11 h => ?_)
          refine g_if_eq (pc := 40) C dX12_wokenBy_40 (tgt := 50) rfl (fun z12 => ?_) (fun z12 => ?_)
          · replace h := h.1 z12
            refine g_iconst (pc := 50) C dX12_wokenBy_50 (v := 0) rfl ?_
            refine g_ior (pc := 51) C dX12_wokenBy_51 ?_
            refine g_istore (pc := 52) C dX12_wokenBy_52 (Nat.le_of_ble_eq_true rfl) (lo' := [(4, .int (a4 ||| 0)), (0, .ref (adr x a0)), (1, .int a1), (2, .int a2), (3, .int a3), (5, .int a5)]) rfl ?_
            refine g_iinc (pc := 54) C dX12_wokenBy_54 (q := 5) rfl (v2 := a5 + 1) rfl (Nat.le_of_ble_eq_true rfl) (lo' := [(5, .int (a5 + 1)), (4, .int (a4 ||| 0)), (0, .ref (adr x a0)), (1, .int a1), (2, .int a2), (3, .int a3)]) rfl ?_
            refine g_goto (pc := 57) C dX12_wokenBy_57 (tgt := 6) rfl ?_
            refine g_sub [2, 3, 4, 5, 1, 0] rfl ?_
            exact ih _ _ _ _ _ _ _ h
          · replace h := h.2 z12
            refine g_iconst (pc := 43) C dX12_wokenBy_43 (v := 1) rfl ?_
            refine g_iload (pc := 44) C dX12_wokenBy_44 (q := 5) rfl ?_
            refine h_ishl (pc := 46) C dX12_wokenBy_46 ?_
            refine g_goto (pc := 47) C dX12_wokenBy_47 (tgt := 51) rfl ?_
            refine g_ior (pc := 51) C dX12_wokenBy_51 ?_
            refine g_istore (pc := 52) C dX12_wokenBy_52 (Nat.le_of_ble_eq_true rfl) (lo' := [(4, .int (a4 ||| (x_ishl 1 a5))), (0, .ref (adr x a0)), (1, .int a1), (2, .int a2), (3, .int a3), (5, .int a5)]) rfl ?_
            refine g_iinc (pc := 54) C dX12_wokenBy_54 (q := 5) rfl (v2 := a5 + 1) rfl (Nat.le_of_ble_eq_true rfl) (lo' := [(5, .int (a5 + 1)), (4, .int (a4 ||| (x_ishl 1 a5))), (0, .ref (adr x a0)), (1, .int a1), (2, .int a2), (3, .int a3)]) rfl ?_
            refine g_goto (pc := 57) C dX12_wokenBy_57 (tgt := 6) rfl ?_
            refine g_sub [2, 3, 4, 5, 1, 0] rfl ?_
            exact ih _ _ _ _ _ _ _ h
theorem t_X12_wokenBy_89 (C : xC x p s m c cX12_wokenBy 8 args RX12) (hlk : meth.locks = false) (hr : meth.sig.returnType = some .int) {K : Int32 → Wd → Prop} {E157 : Nat → Int32 → Int32 → Int32 → Int32 → Int32 → Wd → Prop} (hE157 : ∀ (b0 : Nat) (b1 : Int32) (b3 : Int32) (b4 : Int32) (b5 : Int32) (b6 : Int32) (w : Wd), E157 b0 b1 b3 b4 b5 b6 w → GW x p l e (rmd 4 0 0) s m args below meth c 8 (QI x K below args s 0 0) 157 [(0, .ref (adr x b0)), (1, .int b1), (3, .int b3), (4, .int b4), (5, .int b5), (6, .int b6)] [] w 0 0) : ∀ (n : Nat) (a0 : Nat) (a1 : Int32) (a3 : Int32) (a4 : Int32) (a5 : Int32) (a6 : Int32) (a7 : Int32) (w : Wd), l_X12_wokenBy_89 E157 K n a0 a1 a3 a4 a5 a6 a7 w → GW x p l e (rmd 4 0 0) s m args below meth c 8 (QI x K below args s 0 0) 89 [(0, .ref (adr x a0)), (1, .int a1), (3, .int a3), (4, .int a4), (5, .int a5), (6, .int a6), (7, .int a7)] [] w 0 0 := by
  intro n
  induction n with
  | zero => intro _ _ _ _ _ _ _ _ h; exact False.elim h
  | succ n ih =>
    intro a0 a1 a3 a4 a5 a6 a7 w h
    refine g_iload (pc := 89) C dX12_wokenBy_89 (q := 6) rfl ?_
    refine g_aload_n (pc := 91) C dX12_wokenBy_91 (q := 0) rfl ?_
    obtain ⟨k23, h⟩ := h
    refine miX12_239 (pc := 92) C k23 h (Nat.le_of_ble_eq_true rfl) (Nat.le_of_ble_eq_true rfl) ⟨Nat.le_refl _, Nat.le_refl _⟩ dX12_wokenBy_92 (fun r24 w25 h => ?_)
    refine g_icmp_ge (pc := 95) C dX12_wokenBy_95 (tgt := 157) rfl (fun z26 => ?_) (fun z26 => ?_)
    · replace h := h.1 z26
      refine g_sub [0, 1, 2, 3, 4, 5] rfl ?_
      exact hE157 _ _ _ _ _ _ _ h
    · replace h := h.2 z26
      refine g_iload (pc := 98) C dX12_wokenBy_98 (q := 4) rfl ?_
      refine g_iload (pc := 100) C dX12_wokenBy_100 (q := 5) rfl ?_
      refine miX12_268 (pc := 102) C h (Nat.le_of_ble_eq_true rfl) (Nat.le_of_ble_eq_true rfl) ⟨Nat.le_refl _, Nat.le_refl _⟩ dX12_wokenBy_102 (fun r27 w28 h => ?_)
      refine g_if_eq (pc := 105) C dX12_wokenBy_105 (tgt := 157) rfl (fun z29 => ?_) (fun z29 => ?_)
      · replace h := h.1 z29
        refine g_sub [0, 1, 2, 3, 4, 5] rfl ?_
        exact hE157 _ _ _ _ _ _ _ h
      · replace h := h.2 z29
        refine g_iload (pc := 108) C dX12_wokenBy_108 (q := 3) rfl ?_
        refine g_iload (pc := 110) C dX12_wokenBy_110 (q := 6) rfl ?_
        refine g_iload_n (pc := 112) C dX12_wokenBy_112 (q := 1) rfl ?_
        refine g_icmp_eq (pc := 113) C dX12_wokenBy_113 (tgt := 147) rfl (fun z30 => ?_) (fun z30 => ?_)
        · replace h := h.1 z30
          refine g_iconst (pc := 147) C dX12_wokenBy_147 (v := 0) rfl ?_
          refine g_ior (pc := 148) C dX12_wokenBy_148 ?_
          refine g_istore (pc := 149) C dX12_wokenBy_149 (Nat.le_of_ble_eq_true rfl) (lo' := [(4, .int (a4 ||| 0)), (0, .ref (adr x a0)), (1, .int a1), (3, .int a3), (5, .int a5), (6, .int a6), (7, .int a7)]) rfl ?_
          refine g_iinc (pc := 151) C dX12_wokenBy_151 (q := 6) rfl (v2 := a7 + 1) rfl (Nat.le_of_ble_eq_true rfl) (lo' := [(7, .int (a7 + 1)), (4, .int (a4 ||| 0)), (0, .ref (adr x a0)), (1, .int a1), (3, .int a3), (5, .int a5), (6, .int a6)]) rfl ?_
          refine g_goto (pc := 154) C dX12_wokenBy_154 (tgt := 89) rfl ?_
          refine g_sub [2, 3, 4, 1, 5, 6, 0] rfl ?_
          exact ih _ _ _ _ _ _ _ _ h
        · replace h := h.2 z30
          refine g_iload_n (pc := 116) C dX12_wokenBy_116 (q := 2) rfl ?_
          refine g_iload (pc := 117) C dX12_wokenBy_117 (q := 3) rfl ?_
          refine g_ior (pc := 119) C dX12_wokenBy_119 ?_
          refine g_iload (pc := 120) C dX12_wokenBy_120 (q := 6) rfl ?_
          refine miX12_268 (pc := 122) C h (Nat.le_of_ble_eq_true rfl) (Nat.le_of_ble_eq_true rfl) ⟨Nat.le_refl _, Nat.le_refl _⟩ dX12_wokenBy_122 (fun r31 w32 h => ?_)
          refine g_if_ne (pc := 125) C dX12_wokenBy_125 (tgt := 147) rfl (fun z33 => ?_) (fun z33 => ?_)
          · replace h := h.2 z33
            refine g_iconst (pc := 147) C dX12_wokenBy_147 (v := 0) rfl ?_
            refine g_ior (pc := 148) C dX12_wokenBy_148 ?_
            refine g_istore (pc := 149) C dX12_wokenBy_149 (Nat.le_of_ble_eq_true rfl) (lo' := [(4, .int (a4 ||| 0)), (0, .ref (adr x a0)), (1, .int a1), (3, .int a3), (5, .int a5), (6, .int a6), (7, .int a7)]) rfl ?_
            refine g_iinc (pc := 151) C dX12_wokenBy_151 (q := 6) rfl (v2 := a7 + 1) rfl (Nat.le_of_ble_eq_true rfl) (lo' := [(7, .int (a7 + 1)), (4, .int (a4 ||| 0)), (0, .ref (adr x a0)), (1, .int a1), (3, .int a3), (5, .int a5), (6, .int a6)]) rfl ?_
            refine g_goto (pc := 154) C dX12_wokenBy_154 (tgt := 89) rfl ?_
            refine g_sub [2, 3, 4, 1, 5, 6, 0] rfl ?_
            exact ih _ _ _ _ _ _ _ _ h
          · replace h := h.1 z33
            refine g_aload_n (pc := 128) C dX12_wokenBy_128 (q := 0) rfl ?_
            refine g_iload (pc := 129) C dX12_wokenBy_129 (q := 5) rfl ?_
            refine g_iload (pc := 131) C dX12_wokenBy_131 (q := 6) rfl ?_
            refine g_iconst (pc := 133) C dX12_wokenBy_133 (v := 0) rfl ?_
            obtain ⟨k34, h⟩ := h
            refine miX12_282 (pc := 134) C k34 h (Nat.le_of_ble_eq_true rfl) (Nat.le_of_ble_eq_true rfl) ⟨Nat.le_refl _, Nat.le_refl _⟩ dX12_wokenBy_134 (fun r35 w36 h => ?_)
            refine g_if_eq (pc := 137) C dX12_wokenBy_137 (tgt := 147) rfl (fun z37 => ?_) (fun z37 => ?_)
            · replace h := h.1 z37
              refine g_iconst (pc := 147) C dX12_wokenBy_147 (v := 0) rfl ?_
              refine g_ior (pc := 148) C dX12_wokenBy_148 ?_
              refine g_istore (pc := 149) C dX12_wokenBy_149 (Nat.le_of_ble_eq_true rfl) (lo' := [(4, .int (a4 ||| 0)), (0, .ref (adr x a0)), (1, .int a1), (3, .int a3), (5, .int a5), (6, .int a6), (7, .int a7)]) rfl ?_
              refine g_iinc (pc := 151) C dX12_wokenBy_151 (q := 6) rfl (v2 := a7 + 1) rfl (Nat.le_of_ble_eq_true rfl) (lo' := [(7, .int (a7 + 1)), (4, .int (a4 ||| 0)), (0, .ref (adr x a0)), (1, .int a1), (3, .int a3), (5, .int a5), (6, .int a6)]) rfl ?_
              refine g_goto (pc := 154) C dX12_wokenBy_154 (tgt := 89) rfl ?_
              refine g_sub [2, 3, 4, 1, 5, 6, 0] rfl ?_
              exact ih _ _ _ _ _ _ _ _ h
            · replace h := h.2 z37
              refine g_iconst (pc := 140) C dX12_wokenBy_140 (v := 1) rfl ?_
              refine g_iload (pc := 141) C dX12_wokenBy_141 (q := 6) rfl ?_
              refine h_ishl (pc := 143) C dX12_wokenBy_143 ?_
              refine g_goto (pc := 144) C dX12_wokenBy_144 (tgt := 148) rfl ?_
              refine g_ior (pc := 148) C dX12_wokenBy_148 ?_
              refine g_istore (pc := 149) C dX12_wokenBy_149 (Nat.le_of_ble_eq_true rfl) (lo' := [(4, .int (a4 ||| (x_ishl 1 a7))), (0, .ref (adr x a0)), (1, .int a1), (3, .int a3), (5, .int a5), (6, .int a6), (7, .int a7)]) rfl ?_
              refine g_iinc (pc := 151) C dX12_wokenBy_151 (q := 6) rfl (v2 := a7 + 1) rfl (Nat.le_of_ble_eq_true rfl) (lo' := [(7, .int (a7 + 1)), (4, .int (a4 ||| (x_ishl 1 a7))), (0, .ref (adr x a0)), (1, .int a1), (3, .int a3), (5, .int a5), (6, .int a6)]) rfl ?_
              refine g_goto (pc := 154) C dX12_wokenBy_154 (tgt := 89) rfl ?_
              refine g_sub [2, 3, 4, 1, 5, 6, 0] rfl ?_
              exact ih _ _ _ _ _ _ _ _ h
theorem t_X12_wokenBy_77 (C : xC x p s m c cX12_wokenBy 8 args RX12) (hlk : meth.locks = false) (hr : meth.sig.returnType = some .int) {K : Int32 → Wd → Prop} {E163 : Nat → Int32 → Int32 → Int32 → Int32 → Wd → Prop} (hE163 : ∀ (b0 : Nat) (b1 : Int32) (b3 : Int32) (b4 : Int32) (b5 : Int32) (w : Wd), E163 b0 b1 b3 b4 b5 w → GW x p l e (rmd 4 0 0) s m args below meth c 8 (QI x K below args s 0 0) 163 [(0, .ref (adr x b0)), (1, .int b1), (3, .int b3), (4, .int b4), (5, .int b5)] [] w 0 0) : ∀ (n : Nat) (a0 : Nat) (a1 : Int32) (a3 : Int32) (a4 : Int32) (a5 : Int32) (a6 : Int32) (w : Wd), l_X12_wokenBy_77 E163 K n a0 a1 a3 a4 a5 a6 w → GW x p l e (rmd 4 0 0) s m args below meth c 8 (QI x K below args s 0 0) 77 [(0, .ref (adr x a0)), (1, .int a1), (3, .int a3), (4, .int a4), (5, .int a5), (6, .int a6)] [] w 0 0 := by
  intro n
  induction n with
  | zero => intro _ _ _ _ _ _ _ h; exact False.elim h
  | succ n ih =>
    intro a0 a1 a3 a4 a5 a6 w h
    refine g_iload (pc := 77) C dX12_wokenBy_77 (q := 5) rfl ?_
    refine g_aload_n (pc := 79) C dX12_wokenBy_79 (q := 0) rfl ?_
    obtain ⟨k19, h⟩ := h
    refine miX12_239 (pc := 80) C k19 h (Nat.le_of_ble_eq_true rfl) (Nat.le_of_ble_eq_true rfl) ⟨Nat.le_refl _, Nat.le_refl _⟩ dX12_wokenBy_80 (fun r20 w21 h => ?_)
    refine g_icmp_ge (pc := 83) C dX12_wokenBy_83 (tgt := 163) rfl (fun z22 => ?_) (fun z22 => ?_)
    · replace h := h.1 z22
      refine g_sub [0, 1, 2, 3, 4] rfl ?_
      exact hE163 _ _ _ _ _ _ h
    · replace h := h.2 z22
      refine g_iconst (pc := 86) C dX12_wokenBy_86 (v := 0) rfl ?_
      refine g_istore (pc := 87) C dX12_wokenBy_87 (Nat.le_of_ble_eq_true rfl) (lo' := [(7, .int 0), (0, .ref (adr x a0)), (1, .int a1), (3, .int a3), (4, .int a4), (5, .int a5), (6, .int a6)]) rfl ?_
      obtain ⟨n45, h⟩ := h
      refine g_sub [1, 2, 3, 4, 5, 6, 0] rfl ?_
      refine t_X12_wokenBy_89 C hlk hr ?_ n45 _ _ _ _ _ _ _ _ h
      · intro b38 b39 b40 b41 b42 b43 w44 h
        refine g_iinc (pc := 157) C dX12_wokenBy_157 (q := 5) rfl (v2 := b43 + 1) rfl (Nat.le_of_ble_eq_true rfl) (lo' := [(6, .int (b43 + 1)), (0, .ref (adr x b38)), (1, .int b39), (3, .int b40), (4, .int b41), (5, .int b42)]) rfl ?_
        refine g_goto (pc := 160) C dX12_wokenBy_160 (tgt := 77) rfl ?_
        refine g_sub [1, 2, 3, 4, 5, 0] rfl ?_
        exact ih _ _ _ _ _ _ _ h
theorem t_X12_wokenBy_63 (C : xC x p s m c cX12_wokenBy 8 args RX12) (hlk : meth.locks = false) (hr : meth.sig.returnType = some .int) {K : Int32 → Wd → Prop}   : ∀ (n : Nat) (a0 : Nat) (a1 : Int32) (a3 : Int32) (a4 : Int32) (a5 : Int32) (w : Wd), l_X12_wokenBy_63 K n a0 a1 a3 a4 a5 w → GW x p l e (rmd 4 0 0) s m args below meth c 8 (QI x K below args s 0 0) 63 [(0, .ref (adr x a0)), (1, .int a1), (3, .int a3), (4, .int a4), (5, .int a5)] [] w 0 0 := by
  intro n
  induction n with
  | zero => intro _ _ _ _ _ _ h; exact False.elim h
  | succ n ih =>
    intro a0 a1 a3 a4 a5 w h
    refine g_iload (pc := 63) C dX12_wokenBy_63 (q := 4) rfl ?_
    refine g_iload (pc := 65) C dX12_wokenBy_65 (q := 3) rfl ?_
    refine g_icmp_eq (pc := 67) C dX12_wokenBy_67 (tgt := 166) rfl (fun z18 => ?_) (fun z18 => ?_)
    · replace h := h.1 z18
      refine g_iload (pc := 166) C dX12_wokenBy_166 (q := 3) rfl ?_
      exact g_iret (pc := 168) C hlk hr (Nat.le_refl _) (Nat.le_refl _) dX12_wokenBy_168 h
    · replace h := h.2 z18
      refine g_iload (pc := 70) C dX12_wokenBy_70 (q := 3) rfl ?_
      refine g_istore (pc := 72) C dX12_wokenBy_72 (Nat.le_of_ble_eq_true rfl) (lo' := [(5, .int a4), (0, .ref (adr x a0)), (1, .int a1), (3, .int a3), (4, .int a4)]) rfl ?_
      refine g_iconst (pc := 74) C dX12_wokenBy_74 (v := 0) rfl ?_
      refine g_istore (pc := 75) C dX12_wokenBy_75 (Nat.le_of_ble_eq_true rfl) (lo' := [(6, .int 0), (5, .int a4), (0, .ref (adr x a0)), (1, .int a1), (3, .int a3), (4, .int a4)]) rfl ?_
      obtain ⟨n52, h⟩ := h
      refine g_sub [2, 3, 4, 5, 1, 0] rfl ?_
      refine t_X12_wokenBy_77 C hlk hr ?_ n52 _ _ _ _ _ _ _ h
      · intro b46 b47 b48 b49 b50 w51 h
        refine g_goto (pc := 163) C dX12_wokenBy_163 (tgt := 63) rfl ?_
        exact ih _ _ _ _ _ _ h
theorem c_X12_wokenBy {x : xG} {l : Launch} {a0 : Nat} {a1 : Int32} {a2 : Int32} {a3 : Int32} {K : Int32 → Wd → Prop} {w : Wd} (h : w_X12_wokenBy a0 a1 a2 a3 K w) : Met l yX12_wokenBy (xws yX12_wokenBy cX12_wokenBy 8 (some .int)) (rmd 4 0 0) (xPc x [.ref (adr x a0), .int a1, .int a2, .int a3] w) (QcI x K) 0 0 (xA x) := by
  refine xMet (by decide) (Nat.le_of_ble_eq_true rfl) (fun p e s m below meth c C hlk hr _ => ?_)
  show GW x p l e (rmd 4 0 0) s m [.ref (adr x a0), .int a1, .int a2, .int a3].toArray below meth c 8 (QI x K below [.ref (adr x a0), .int a1, .int a2, .int a3].toArray s 0 0) 0 [(0, .ref (adr x a0)), (1, .int a1), (2, .int a2), (3, .int a3)] [] w 0 0
  refine g_iconst (pc := 0) C dX12_wokenBy_0 (v := 0) rfl ?_
  refine g_istore (pc := 1) C dX12_wokenBy_1 (Nat.le_of_ble_eq_true rfl) (lo' := [(4, .int 0), (0, .ref (adr x a0)), (1, .int a1), (2, .int a2), (3, .int a3)]) rfl ?_
  refine g_iconst (pc := 3) C dX12_wokenBy_3 (v := 0) rfl ?_
  refine g_istore (pc := 4) C dX12_wokenBy_4 (Nat.le_of_ble_eq_true rfl) (lo' := [(5, .int 0), (4, .int 0), (0, .ref (adr x a0)), (1, .int a1), (2, .int a2), (3, .int a3)]) rfl ?_
  obtain ⟨n54, h⟩ := h
  refine g_sub [2, 3, 4, 5, 1, 0] rfl ?_
  refine t_X12_wokenBy_6 C hlk hr ?_ n54 _ _ _ _ _ _ _ h
  · intro b13 b14 b15 b16 w17 h
    refine g_iconst (pc := 60) C dX12_wokenBy_60 (v := (-1)) rfl ?_
    refine g_istore (pc := 61) C dX12_wokenBy_61 (Nat.le_of_ble_eq_true rfl) (lo' := [(5, .int (-1)), (0, .ref (adr x b13)), (1, .int b14), (3, .int b15), (4, .int b16)]) rfl ?_
    obtain ⟨n53, h⟩ := h
    refine g_sub [1, 2, 3, 4, 0] rfl ?_
    refine t_X12_wokenBy_63 C hlk hr n53 _ _ _ _ _ _ h
theorem miX12_286 (C : xC x p s m c cc nL args RX12) {a0 : Nat} {a1 : Int32} {a2 : Int32} {a3 : Int32} {K : Int32 → Wd → Prop} {D MC MS : Nat} (hq : isK w a0 12) (h : w_X12_wokenBy a0 a1 a2 a3 K w) (hD : 4 + 1 ≤ D) (hW : (st.map fun v => v.category).sum ≤ 8) (hij : i ≤ MC ∧ j ≤ MS) (hd : decode cc pc = .ok (.invokevirtual 286, 3)) (k : ∀ (r : Int32) (u : Wd), K r u → GW x p l e (rmd D MC MS) s m args below meth c nL Q (pc + 3) lo (.int r :: st) u i j) : GW x p l e (rmd D MC MS) s m args below meth c nL Q pc lo (.int a3 :: .int a2 :: .int a1 :: .ref (adr x a0) :: st) w i j := g_callVi0 C (As := [.int a1, .int a2, .int a3]) (ci := 12) (c_X12_wokenBy h) (x_cwV C 3 LMX12_286 ⟨rfl, by decide, by decide, rfl⟩ hD (by decide)) rfl hq (by decide) rfl rfl hW hd hij k
def w_X12_chainOf (a0 : Nat) (a1 : Int32) (a2 : Int32) (K : Int32 → Wd → Prop) (w : Wd) : Prop :=
  isK w a0 12 ∧ w_X12_wokenBy a0 a1 a2 0 (fun r2 w3 => K r2 w3) w
theorem c_X12_chainOf {x : xG} {l : Launch} {a0 : Nat} {a1 : Int32} {a2 : Int32} {K : Int32 → Wd → Prop} {w : Wd} (h : w_X12_chainOf a0 a1 a2 K w) : Met l yX12_chainOf (xws yX12_chainOf cX12_chainOf 3 (some .int)) (rmd 5 0 0) (xPc x [.ref (adr x a0), .int a1, .int a2] w) (QcI x K) 0 0 (xA x) := by
  refine xMet (by decide) (Nat.le_of_ble_eq_true rfl) (fun p e s m below meth c C hlk hr _ => ?_)
  show GW x p l e (rmd 5 0 0) s m [.ref (adr x a0), .int a1, .int a2].toArray below meth c 3 (QI x K below [.ref (adr x a0), .int a1, .int a2].toArray s 0 0) 0 [(0, .ref (adr x a0)), (1, .int a1), (2, .int a2)] [] w 0 0
  refine g_aload_n (pc := 0) C dX12_chainOf_0 (q := 0) rfl ?_
  refine g_iload_n (pc := 1) C dX12_chainOf_1 (q := 1) rfl ?_
  refine g_iload_n (pc := 2) C dX12_chainOf_2 (q := 2) rfl ?_
  refine g_iconst (pc := 3) C dX12_chainOf_3 (v := 0) rfl ?_
  obtain ⟨k1, h⟩ := h
  refine miX12_286 (pc := 4) C k1 h (Nat.le_of_ble_eq_true rfl) (Nat.le_of_ble_eq_true rfl) ⟨Nat.le_refl _, Nat.le_refl _⟩ dX12_chainOf_4 (fun r2 w3 h => ?_)
  exact g_iret (pc := 7) C hlk hr (Nat.le_refl _) (Nat.le_refl _) dX12_chainOf_7 h
end ME
