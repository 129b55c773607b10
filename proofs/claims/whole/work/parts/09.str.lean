/-! texts: String.length, String.charAt -/
theorem dJ0_length_8abf5_0 : decode cJ0_length_8abf5 0 = .ok (.aload_n 0, 1) := by decide +kernel
theorem dJ0_length_8abf5_1 : decode cJ0_length_8abf5 1 = .ok (.getfield 9, 3) := by decide +kernel
theorem dJ0_length_8abf5_4 : decode cJ0_length_8abf5 4 = .ok (.arraylength, 1) := by decide +kernel
theorem dJ0_length_8abf5_5 : decode cJ0_length_8abf5 5 = .ok (.aload_n 0, 1) := by decide +kernel
theorem dJ0_length_8abf5_6 : decode cJ0_length_8abf5 6 = .ok (.invokevirtual 335, 3) := by decide +kernel
theorem dJ0_length_8abf5_9 : decode cJ0_length_8abf5 9 = .ok (.ishr, 1) := by decide +kernel
theorem dJ0_length_8abf5_10 : decode cJ0_length_8abf5 10 = .ok (.ireturn, 1) := by decide +kernel
theorem dJ0_charAt_5068e_0 : decode cJ0_charAt_5068e 0 = .ok (.aload_n 0, 1) := by decide +kernel
theorem dJ0_charAt_5068e_1 : decode cJ0_charAt_5068e 1 = .ok (.invokevirtual 492, 3) := by decide +kernel
theorem dJ0_charAt_5068e_4 : decode cJ0_charAt_5068e 4 = .ok (.ifCond .eq 12, 3) := by decide +kernel
theorem dJ0_charAt_5068e_7 : decode cJ0_charAt_5068e 7 = .ok (.aload_n 0, 1) := by decide +kernel
theorem dJ0_charAt_5068e_8 : decode cJ0_charAt_5068e 8 = .ok (.getfield 9, 3) := by decide +kernel
theorem dJ0_charAt_5068e_11 : decode cJ0_charAt_5068e 11 = .ok (.iload_n 1, 1) := by decide +kernel
theorem dJ0_charAt_5068e_12 : decode cJ0_charAt_5068e 12 = .ok (.invokestatic 495, 3) := by decide +kernel
theorem dJ0_charAt_5068e_15 : decode cJ0_charAt_5068e 15 = .ok (.ireturn, 1) := by decide +kernel
theorem dJ0_charAt_5068e_16 : decode cJ0_charAt_5068e 16 = .ok (.aload_n 0, 1) := by decide +kernel
theorem dJ0_charAt_5068e_17 : decode cJ0_charAt_5068e 17 = .ok (.getfield 9, 3) := by decide +kernel
theorem dJ0_charAt_5068e_20 : decode cJ0_charAt_5068e 20 = .ok (.iload_n 1, 1) := by decide +kernel
theorem dJ0_charAt_5068e_21 : decode cJ0_charAt_5068e 21 = .ok (.invokestatic 498, 3) := by decide +kernel
theorem dJ0_charAt_5068e_24 : decode cJ0_charAt_5068e 24 = .ok (.ireturn, 1) := by decide +kernel
theorem dJ0_coder_7d493_0 : decode cJ0_coder_7d493 0 = .ok (.getstatic 38, 3) := by decide +kernel
theorem dJ0_coder_7d493_3 : decode cJ0_coder_7d493 3 = .ok (.ifCond .eq 10, 3) := by decide +kernel
theorem dJ0_coder_7d493_6 : decode cJ0_coder_7d493 6 = .ok (.aload_n 0, 1) := by decide +kernel
theorem dJ0_coder_7d493_7 : decode cJ0_coder_7d493 7 = .ok (.getfield 15, 3) := by decide +kernel
theorem dJ0_coder_7d493_10 : decode cJ0_coder_7d493 10 = .ok (.goto 4, 3) := by decide +kernel
theorem dJ0_coder_7d493_13 : decode cJ0_coder_7d493 13 = .ok (.iconst 1, 1) := by decide +kernel
theorem dJ0_coder_7d493_14 : decode cJ0_coder_7d493 14 = .ok (.ireturn, 1) := by decide +kernel
theorem dJ0_isLatin1_aae02_0 : decode cJ0_isLatin1_aae02 0 = .ok (.getstatic 38, 3) := by decide +kernel
theorem dJ0_isLatin1_aae02_3 : decode cJ0_isLatin1_aae02 3 = .ok (.ifCond .eq 14, 3) := by decide +kernel
theorem dJ0_isLatin1_aae02_6 : decode cJ0_isLatin1_aae02 6 = .ok (.aload_n 0, 1) := by decide +kernel
theorem dJ0_isLatin1_aae02_7 : decode cJ0_isLatin1_aae02 7 = .ok (.getfield 15, 3) := by decide +kernel
theorem dJ0_isLatin1_aae02_10 : decode cJ0_isLatin1_aae02 10 = .ok (.ifCond .ne 7, 3) := by decide +kernel
theorem dJ0_isLatin1_aae02_13 : decode cJ0_isLatin1_aae02 13 = .ok (.iconst 1, 1) := by decide +kernel
theorem dJ0_isLatin1_aae02_14 : decode cJ0_isLatin1_aae02 14 = .ok (.goto 4, 3) := by decide +kernel
theorem dJ0_isLatin1_aae02_17 : decode cJ0_isLatin1_aae02 17 = .ok (.iconst 0, 1) := by decide +kernel
theorem dJ0_isLatin1_aae02_18 : decode cJ0_isLatin1_aae02 18 = .ok (.ireturn, 1) := by decide +kernel
theorem dJ0_checkIndex_df160_0 : decode cJ0_checkIndex_df160 0 = .ok (.iload_n 0, 1) := by decide +kernel
theorem dJ0_checkIndex_df160_1 : decode cJ0_checkIndex_df160 1 = .ok (.iload_n 1, 1) := by decide +kernel
theorem dJ0_checkIndex_df160_2 : decode cJ0_checkIndex_df160 2 = .ok (.getstatic 1053, 3) := by decide +kernel
theorem dJ0_checkIndex_df160_5 : decode cJ0_checkIndex_df160 5 = .ok (.invokestatic 1059, 3) := by decide +kernel
theorem dJ0_checkIndex_df160_8 : decode cJ0_checkIndex_df160 8 = .ok (.pop, 1) := by decide +kernel
theorem dJ0_checkIndex_df160_9 : decode cJ0_checkIndex_df160 9 = .ok (.return_, 1) := by decide +kernel
theorem dJ1_charAt_3b067_0 : decode cJ1_charAt_3b067 0 = .ok (.iload_n 1, 1) := by decide +kernel
theorem dJ1_charAt_3b067_1 : decode cJ1_charAt_3b067 1 = .ok (.aload_n 0, 1) := by decide +kernel
theorem dJ1_charAt_3b067_2 : decode cJ1_charAt_3b067 2 = .ok (.arraylength, 1) := by decide +kernel
theorem dJ1_charAt_3b067_3 : decode cJ1_charAt_3b067 3 = .ok (.invokestatic 9, 3) := by decide +kernel
theorem dJ1_charAt_3b067_6 : decode cJ1_charAt_3b067 6 = .ok (.aload_n 0, 1) := by decide +kernel
theorem dJ1_charAt_3b067_7 : decode cJ1_charAt_3b067 7 = .ok (.iload_n 1, 1) := by decide +kernel
theorem dJ1_charAt_3b067_8 : decode cJ1_charAt_3b067 8 = .ok (.baload, 1) := by decide +kernel
theorem dJ1_charAt_3b067_9 : decode cJ1_charAt_3b067 9 = .ok (.sipush 255, 3) := by decide +kernel
theorem dJ1_charAt_3b067_12 : decode cJ1_charAt_3b067 12 = .ok (.iand, 1) := by decide +kernel
theorem dJ1_charAt_3b067_13 : decode cJ1_charAt_3b067 13 = .ok (.i2c, 1) := by decide +kernel
theorem dJ1_charAt_3b067_14 : decode cJ1_charAt_3b067 14 = .ok (.ireturn, 1) := by decide +kernel
theorem dJ3_checkIndex_8e157_0 : decode cJ3_checkIndex_8e157 0 = .ok (.iload_n 0, 1) := by decide +kernel
theorem dJ3_checkIndex_8e157_1 : decode cJ3_checkIndex_8e157 1 = .ok (.ifCond .lt 8, 3) := by decide +kernel
theorem dJ3_checkIndex_8e157_4 : decode cJ3_checkIndex_8e157 4 = .ok (.iload_n 0, 1) := by decide +kernel
theorem dJ3_checkIndex_8e157_5 : decode cJ3_checkIndex_8e157 5 = .ok (.iload_n 1, 1) := by decide +kernel
theorem dJ3_checkIndex_8e157_6 : decode cJ3_checkIndex_8e157 6 = .ok (.if_icmp .lt 10, 3) := by decide +kernel
theorem dJ3_checkIndex_8e157_9 : decode cJ3_checkIndex_8e157 9 = .ok (.aload_n 2, 1) := by decide +kernel
theorem dJ3_checkIndex_8e157_10 : decode cJ3_checkIndex_8e157 10 = .ok (.iload_n 0, 1) := by decide +kernel
theorem dJ3_checkIndex_8e157_11 : decode cJ3_checkIndex_8e157 11 = .ok (.iload_n 1, 1) := by decide +kernel
theorem dJ3_checkIndex_8e157_12 : decode cJ3_checkIndex_8e157 12 = .ok (.invokestatic 95, 3) := by decide +kernel
theorem dJ3_checkIndex_8e157_15 : decode cJ3_checkIndex_8e157 15 = .ok (.athrow, 1) := by decide +kernel
theorem dJ3_checkIndex_8e157_16 : decode cJ3_checkIndex_8e157 16 = .ok (.iload_n 0, 1) := by decide +kernel
theorem dJ3_checkIndex_8e157_17 : decode cJ3_checkIndex_8e157 17 = .ok (.ireturn, 1) := by decide +kernel

theorem LMJ0_335 : GoodIn gT (wsV RJ0 335 RJ0 yJ0_coder_7d493 (xws yJ0_coder_7d493 cJ0_coder_7d493 1 (some .byte))) := xws_V (gT_at 913 (by decide +kernel) rfl) (gT_at 914 (by decide +kernel) rfl) (gT_at 915 (by decide +kernel) rfl) (gT_at 143 (by decide +kernel) rfl) (gT_at 916 (by decide +kernel) rfl)
theorem LMJ0_492 : GoodIn gT (wsV RJ0 492 RJ0 yJ0_isLatin1_aae02 (xws yJ0_isLatin1_aae02 cJ0_isLatin1_aae02 1 (some .boolean))) := xws_V (gT_at 923 (by decide +kernel) rfl) (gT_at 924 (by decide +kernel) rfl) (gT_at 925 (by decide +kernel) rfl) (gT_at 143 (by decide +kernel) rfl) (gT_at 926 (by decide +kernel) rfl)
theorem LMJ0_495 : GoodIn gT (va_wsS RJ0 495 yJ1_charAt_3b067 (xws yJ1_charAt_3b067 cJ1_charAt_3b067 2 (some .char))) := xws_S (gT_at 927 (by decide +kernel) rfl) (gT_at 928 (by decide +kernel) rfl) (gT_at 144 (by decide +kernel) rfl) (gT_at 929 (by decide +kernel) rfl)
theorem LMJ1_9 : GoodIn gT (va_wsS RJ1 9 yJ0_checkIndex_df160 (xws yJ0_checkIndex_df160 cJ0_checkIndex_df160 2 none)) := xws_S (gT_at 930 (by decide +kernel) rfl) (gT_at 931 (by decide +kernel) rfl) (gT_at 143 (by decide +kernel) rfl) (gT_at 932 (by decide +kernel) rfl)
theorem LMJ0_1059 : GoodIn gT (va_wsS RJ0 1059 yJ3_checkIndex_8e157 (xws yJ3_checkIndex_8e157 cJ3_checkIndex_8e157 3 (some .int))) := xws_S (gT_at 935 (by decide +kernel) rfl) (gT_at 936 (by decide +kernel) rfl) (gT_at 145 (by decide +kernel) rfl) (gT_at 937 (by decide +kernel) rfl)
theorem LFJ0_9 : Cond.fieldLink RJ0 9 "java/lang/String" "value" "[B" ∈ gT := gT_at 2376 (by decide +kernel) rfl
theorem LFJ0_15 : Cond.fieldLink RJ0 15 "java/lang/String" "coder" "B" ∈ gT := gT_at 2377 (by decide +kernel) rfl
theorem LFJ0_38 : Cond.fieldLink RJ0 38 "java/lang/String" "COMPACT_STRINGS" "Z" ∈ gT := gT_at 917 (by decide +kernel) rfl
theorem LFJ0_1053 : Cond.fieldLink RJ0 1053 "jdk/internal/util/Preconditions" "SIOOBE_FORMATTER" "Ljava/util/function/BiFunction;" ∈ gT := gT_at 933 (by decide +kernel) rfl
section ST
variable {x : xG} {p : Program} {l : Launch} {e : Env} {R : Room} {s : State} {m : MethodId} {args : Array Value} {below : List Frame} {meth : Method} {c : Code} {Q : State → Prop} {cc : ByteArray} {nL : Nat} {pc : Nat} {lo : List (Nat × Value)} {st : List Value} {w : Wd} {i j : Nat}
variable {own : String}
theorem g_gets (C : xC x p s m c cc nL args own) {Cn n d : String} {v : Value} {index : Nat} (hZ : va_Z Cn n d v (xA x) s s.heap) (hl : Cond.fieldLink own index Cn n d ∈ gT) (hd : decode cc pc = .ok (.getstatic index, 3)) (k : GW x p l e R s m args below meth c nL Q (pc + 3) lo (v :: st) w i j) : GW x p l e R s m args below meth c nL Q pc lo st w i j := fun H locs ls h1 h2 h3 => va_gets C.1.1 C.1.2.1 hZ h2 C.1.2.2.2.1 (C.1.2.2.2.2 _ hl) (fun _ hz => hz) hd (k H locs ls h1 h2 h3)
theorem g_strf (C : xC x p s m c cc nL args own) {o n d : String} {v : Value} {index q : Nat} (hE : va_OF o n d v q (xA x) s s.heap) (hl : Cond.fieldLink own index o n d ∈ gT) (hd : decode cc pc = .ok (.getfield index, 3)) (k : GW x p l e R s m args below meth c nL Q (pc + 3) lo (v :: st) w i j) : GW x p l e R s m args below meth c nL Q pc lo (.ref q :: st) w i j := fun H locs ls h1 h2 h3 => vk_getf C.1.1 C.1.2.1 hE h2 C.1.2.2.2.1 (C.1.2.2.2.2 _ hl) (fun _ hz => hz) hd (k H locs ls h1 h2 h3)
theorem g_tlen (C : xC x p s m c cc nL args own) {ty : FieldType} {q n : Nat} {f : Nat → Value} (hT : va_T ty q n f (xA x) s s.heap) (hd : decode cc pc = .ok (.arraylength, 1)) (k : GW x p l e R s m args below meth c nL Q (pc + 1) lo (.int (Int32.ofNat n) :: st) w i j) : GW x p l e R s m args below meth c nL Q pc lo (.ref q :: st) w i j := fun H locs ls h1 h2 h3 => va_tlen C.1.1 C.1.2.1 hT h2 rfl hd (k H locs ls h1 h2 h3)
theorem g_tb (C : xC x p s m c cc nL args own) {q n : Nat} {f : Nat → Value} {a : Int32} (hT : va_T .byte q n f (xA x) s s.heap) (ha : vp_in a n) (hd : decode cc pc = .ok (.baload, 1)) (k : GW x p l e R s m args below meth c nL Q (pc + 1) lo (f a.toNatClampNeg :: st) w i j) : GW x p l e R s m args below meth c nL Q pc lo (.int a :: .ref q :: st) w i j := fun H locs ls h1 h2 h3 => va_tb C.1.1 C.1.2.1 hT h2 ha rfl hd (k H locs ls h1 h2 h3)
theorem g_i2c (C : xC x p s m c cc nL args own) {a v : Int32} (hd : decode cc pc = .ok (.i2c, 1)) (hv : (a.toUInt32 % 65536).toInt32 = v) (k : GW x p l e R s m args below meth c nL Q (pc + 1) lo (.int v :: st) w i j) : GW x p l e R s m args below meth c nL Q pc lo (.int a :: st) w i j := fun H locs ls h1 h2 h3 => lv_i2c C.1.1 C.1.2.1 hd hv (k H locs ls h1 h2 h3)
theorem g_nret (C : xC x p s m c cc nL args own) {K : Int32 → Wd → Prop} {mc ms : Nat} {v : Int32} {ty : FieldType} (hlk : meth.locks = false) (hr : meth.sig.returnType = some ty) (hn : narrow ty (.int v) = .int v) (hi : i ≤ mc) (hj : j ≤ ms) (hd : decode cc pc = .ok (.ireturn, 1)) (hK : K v w) : GW x p l e R s m args below meth c nL (QI x K below args s mc ms) pc lo [.int v] w i j := fun H locs ls h1 h2 h3 => W.widen hi hj (W.zret C.1.1 C.1.2.1 hr hn (fun t ht hw => ⟨⟨v, w, rfl, hK, by show xh x w t.heap; rw [ht]; exact h1⟩, h2.F ht⟩) h2.2.2 hd hlk)
theorem g_callVs0 (C : xC x p s m c cc nL args own) {b : Nat} {C2 : String} {y : MethodName} {bytes : ByteArray} {maxL n d index : Nat} {ret : Option FieldType} {As rest : List Value} {K : Int32 → Wd → Prop} (hO : va_O C2 b (xA x) s s.heap) (hM : Met l y (xws y bytes maxL ret) (rmd d 0 0) (xPc x (.ref b :: As) w) (QcI x K) 0 0 (xA x)) (cw : CallW R s args own C2 index y bytes maxL ret (xws y bytes maxL ret) (rmd d 0 0) 0 0 n) (hst : st = As.reverse ++ .ref b :: rest) (hn : As.length = n) (hW : (rest.map fun v => v.category).sum ≤ 8) (hd : decode cc pc = .ok (.invokevirtual index, 3)) (hR : i ≤ R.cells ∧ j ≤ R.slots)
    (k : ∀ (r : Int32) (u : Wd), K r u → GW x p l e R s m args below meth c nL Q (pc + 3) lo (.int r :: rest) u i j) : GW x p l e R s m args below meth c nL Q pc lo st w i j := by
  intro H locs ls h1 h2 h3
  subst hst
  obtain ⟨cell, e1, e2, e3, -⟩ := hO.kept h2.2.1
  exact va_calli (va_runV (As := As) (rest := rest) C.1 hM cw ⟨xPc.blind, ⟨cell, e1, e2, e3⟩, fun U hU hW => xPc.go C h1 h2 U hU hW⟩ rfl hn h3.1 rfl (lv_room hW) hd ⟨hR.1, hR.2⟩) h2 (fun _ _ h => h) (fun _ h => h) (fun r u t H1 locs1 ht hvm hw hB hz1 hk1 hS1 => k r u hw H1 locs1 ls (by rw [← ht]; exact hB) hS1 h3)
theorem c_coder {K : Int32 → Wd → Prop} {i : Nat} (hi : i < nJS) (h : K 0 w) : Met l yJ0_coder_7d493 (xws yJ0_coder_7d493 cJ0_coder_7d493 1 (some .byte)) (rmd 0 0 0) (xPc x [.ref (x.2.2.2.1 i)] w) (QcI x K) 0 0 (xA x) := by
  refine xMet (by decide) (Nat.le_of_ble_eq_true rfl) (fun p e s m below meth c C hlk hr _ => ?_)
  show GW x p l e (rmd 0 0 0) s m [.ref (x.2.2.2.1 i)].toArray below meth c 1 (QI x K below [.ref (x.2.2.2.1 i)].toArray s 0 0) 0 [(0, .ref (x.2.2.2.1 i))] [] w 0 0
  refine g_gets (pc := 0) C C.2.2.1.2.2.2.2.1 LFJ0_38 dJ0_coder_7d493_0 ?_
  refine g_if_eq (pc := 3) C dJ0_coder_7d493_3 (tgt := 13) rfl (fun z => absurd z (by decide)) (fun z => ?_)
  refine g_aload_n (pc := 6) C dJ0_coder_7d493_6 (q := 0) rfl ?_
  refine g_strf (pc := 7) C (C.2.2.1.1 i hi).2.1 LFJ0_15 dJ0_coder_7d493_7 ?_
  refine g_goto (pc := 10) C dJ0_coder_7d493_10 (tgt := 14) rfl ?_
  exact g_nret (pc := 14) C hlk hr rfl (Nat.le_refl _) (Nat.le_refl _) dJ0_coder_7d493_14 h
theorem c_isLatin1 {K : Int32 → Wd → Prop} {i : Nat} (hi : i < nJS) (h : K 1 w) : Met l yJ0_isLatin1_aae02 (xws yJ0_isLatin1_aae02 cJ0_isLatin1_aae02 1 (some .boolean)) (rmd 0 0 0) (xPc x [.ref (x.2.2.2.1 i)] w) (QcI x K) 0 0 (xA x) := by
  refine xMet (by decide) (Nat.le_of_ble_eq_true rfl) (fun p e s m below meth c C hlk hr _ => ?_)
  show GW x p l e (rmd 0 0 0) s m [.ref (x.2.2.2.1 i)].toArray below meth c 1 (QI x K below [.ref (x.2.2.2.1 i)].toArray s 0 0) 0 [(0, .ref (x.2.2.2.1 i))] [] w 0 0
  refine g_gets (pc := 0) C C.2.2.1.2.2.2.2.1 LFJ0_38 dJ0_isLatin1_aae02_0 ?_
  refine g_if_eq (pc := 3) C dJ0_isLatin1_aae02_3 (tgt := 17) rfl (fun z => absurd z (by decide)) (fun z => ?_)
  refine g_aload_n (pc := 6) C dJ0_isLatin1_aae02_6 (q := 0) rfl ?_
  refine g_strf (pc := 7) C (C.2.2.1.1 i hi).2.1 LFJ0_15 dJ0_isLatin1_aae02_7 ?_
  refine g_if_ne (pc := 10) C dJ0_isLatin1_aae02_10 (tgt := 17) rfl (fun z => absurd rfl z) (fun z => ?_)
  refine g_iconst (pc := 13) C dJ0_isLatin1_aae02_13 (v := 1) rfl ?_
  refine g_goto (pc := 14) C dJ0_isLatin1_aae02_14 (tgt := 18) rfl ?_
  exact g_nret (pc := 18) C hlk hr rfl (Nat.le_refl _) (Nat.le_refl _) dJ0_isLatin1_aae02_18 h
theorem c_J3 {K : Int32 → Wd → Prop} {a b : Int32} {o : Option Nat} (h1 : ¬ a < 0) (h2 : a < b) (h : K a w) : Met l yJ3_checkIndex_8e157 (xws yJ3_checkIndex_8e157 cJ3_checkIndex_8e157 3 (some .int)) (rmd 0 0 0) (xPc x [.int a, .int b, va_rf o] w) (QcI x K) 0 0 (xA x) := by
  refine xMet (by decide) (by cases o <;> exact (Nat.le_of_ble_eq_true rfl)) (fun p e s m below meth c C hlk hr _ => ?_)
  show GW x p l e (rmd 0 0 0) s m [.int a, .int b, va_rf o].toArray below meth c 3 (QI x K below [.int a, .int b, va_rf o].toArray s 0 0) 0 [(0, .int a), (1, .int b), (2, va_rf o)] [] w 0 0
  refine g_iload_n (pc := 0) C dJ3_checkIndex_8e157_0 (q := 0) rfl ?_
  refine g_if_lt (pc := 1) C dJ3_checkIndex_8e157_1 (tgt := 9) rfl (fun z => absurd z h1) (fun z => ?_)
  refine g_iload_n (pc := 4) C dJ3_checkIndex_8e157_4 (q := 0) rfl ?_
  refine g_iload_n (pc := 5) C dJ3_checkIndex_8e157_5 (q := 1) rfl ?_
  refine g_icmp_lt (pc := 6) C dJ3_checkIndex_8e157_6 (tgt := 16) rfl (fun z => ?_) (fun z => absurd h2 z)
  refine g_iload_n (pc := 16) C dJ3_checkIndex_8e157_16 (q := 0) rfl ?_
  exact g_iret (pc := 17) C hlk hr (Nat.le_refl _) (Nat.le_refl _) dJ3_checkIndex_8e157_17 h
theorem c_J0check {K : Wd → Prop} {a b : Int32} (h1 : ¬ a < 0) (h2 : a < b) (h : K w) : Met l yJ0_checkIndex_df160 (xws yJ0_checkIndex_df160 cJ0_checkIndex_df160 2 none) (rmd 1 0 0) (xPc x [.int a, .int b] w) (QcV x K) 0 0 (xA x) := by
  refine xMet (by decide) (Nat.le_of_ble_eq_true rfl) (fun p e s m below meth c C hlk hr _ => ?_)
  show GW x p l e (rmd 1 0 0) s m [.int a, .int b].toArray below meth c 2 (QV x K below [.int a, .int b].toArray s 0 0) 0 [(0, .int a), (1, .int b)] [] w 0 0
  refine g_iload_n (pc := 0) C dJ0_checkIndex_df160_0 (q := 0) rfl ?_
  refine g_iload_n (pc := 1) C dJ0_checkIndex_df160_1 (q := 1) rfl ?_
  have key : ∀ o : Option Nat, GW x p l e (rmd 1 0 0) s m [.int a, .int b].toArray below meth c 2 (QV x K below [.int a, .int b].toArray s 0 0) 5 [(0, .int a), (1, .int b)] [va_rf o, .int b, .int a] w 0 0 := by
    intro o
    refine g_callSi0 (pc := 5) C (As := [.int a, .int b, va_rf o]) (rest := []) (K := fun r u => u = w) (c_J3 h1 h2 rfl) (x_cwS C 3 LMJ0_1059 ⟨by decide, by decide, rfl⟩ (Nat.le_of_ble_eq_true rfl) (by decide)) rfl rfl (by decide) dJ0_checkIndex_df160_5 ⟨Nat.le_refl _, Nat.le_refl _⟩ (fun r u hu => ?_)
    subst hu
    refine g_pop (pc := 8) C dJ0_checkIndex_df160_8 rfl ?_
    exact g_vret (pc := 9) C hlk hr (Nat.le_refl _) (Nat.le_refl _) dJ0_checkIndex_df160_9 h
  rcases C.2.2.1.2.2.2.2.2.2.1 with hz | ⟨t, hz⟩
  · exact g_gets (pc := 2) C hz LFJ0_1053 dJ0_checkIndex_df160_2 (key none)
  · exact g_gets (pc := 2) C hz LFJ0_1053 dJ0_checkIndex_df160_2 (key (some t))
theorem len_ofNat {i : Nat} {a : Int32} (hi : i < nJS) (ha : vp_in a (lenJS.getD i 0)) : ¬ a < 0 ∧ a < Int32.ofNat (lenJS.getD i 0) := by
  have hlen : ∀ i, i < nJS → lenJS.getD i 0 < 1000 := by decide +kernel
  have h0 : ¬ a < 0 := fun z => ha (Or.inl z)
  have h1 : a.toNatClampNeg < lenJS.getD i 0 := Nat.not_le.mp fun z => ha (Or.inr z)
  have h2 := hlen i hi
  refine ⟨h0, ?_⟩
  rw [Int32.lt_iff_toInt_lt] at h0 ⊢
  have h3 : (Int32.ofNat (lenJS.getD i 0)).toInt = (lenJS.getD i 0 : Int) := Int32.toInt_ofNat_of_lt (by omega)
  rw [h3]
  have h4 : a.toNatClampNeg = a.toInt.toNat := rfl
  have h5 : ¬ a.toInt < 0 := h0
  omega
theorem byt_ok : ∀ i, i < nJS → ∀ k, k < lenJS.getD i 0 → ((((bytJS.getD i []).getD k 0) &&& 255).toUInt32 % 65536).toInt32 = (bytJS.getD i []).getD k 0 ∧ narrow .char (.int ((bytJS.getD i []).getD k 0)) = .int ((bytJS.getD i []).getD k 0) := by decide +kernel
theorem c_J1char {K : Int32 → Wd → Prop} {a : Int32} {i : Nat} (hi : i < nJS) (ha : vp_in a (lenJS.getD i 0)) (h : K ((bytJS.getD i []).getD a.toNatClampNeg 0) w) : Met l yJ1_charAt_3b067 (xws yJ1_charAt_3b067 cJ1_charAt_3b067 2 (some .char)) (rmd 2 0 0) (xPc x [.ref (x.2.2.2.2.1 i), .int a] w) (QcI x K) 0 0 (xA x) := by
  refine xMet (by decide) (Nat.le_of_ble_eq_true rfl) (fun p e s m below meth c C hlk hr _ => ?_)
  show GW x p l e (rmd 2 0 0) s m [.ref (x.2.2.2.2.1 i), .int a].toArray below meth c 2 (QI x K below [.ref (x.2.2.2.2.1 i), .int a].toArray s 0 0) 0 [(0, .ref (x.2.2.2.2.1 i)), (1, .int a)] [] w 0 0
  have hl := len_ofNat hi ha
  have hb := byt_ok i hi a.toNatClampNeg (Nat.not_le.mp fun z => ha (Or.inr z))
  refine g_iload_n (pc := 0) C dJ1_charAt_3b067_0 (q := 1) rfl ?_
  refine g_aload_n (pc := 1) C dJ1_charAt_3b067_1 (q := 0) rfl ?_
  refine g_tlen (pc := 2) C (C.2.2.1.1 i hi).2.2.2 dJ1_charAt_3b067_2 ?_
  refine g_callSv0 (pc := 3) C (As := [.int a, .int (Int32.ofNat (lenJS.getD i 0))]) (rest := []) (K := fun u => u = w) (c_J0check hl.1 hl.2 rfl) (x_cwS C 2 LMJ1_9 ⟨by decide, by decide, rfl⟩ (Nat.le_of_ble_eq_true rfl) (by decide)) rfl rfl (by decide) dJ1_charAt_3b067_3 ⟨Nat.le_refl _, Nat.le_refl _⟩ (fun u hu => ?_)
  subst hu
  refine g_aload_n (pc := 6) C dJ1_charAt_3b067_6 (q := 0) rfl ?_
  refine g_iload_n (pc := 7) C dJ1_charAt_3b067_7 (q := 1) rfl ?_
  refine g_tb (pc := 8) C (C.2.2.1.1 i hi).2.2.2 ha dJ1_charAt_3b067_8 ?_
  refine g_sipush (pc := 9) C dJ1_charAt_3b067_9 (v := 255) rfl ?_
  refine g_iand (pc := 12) C dJ1_charAt_3b067_12 ?_
  refine g_i2c (pc := 13) C dJ1_charAt_3b067_13 hb.1 ?_
  exact g_nret (pc := 14) C hlk hr hb.2 (Nat.le_refl _) (Nat.le_refl _) dJ1_charAt_3b067_14 h
def w_J0_length_8abf5 (a0 : Nat) (K : Int32 → Wd → Prop) (w : Wd) : Prop := (2 ≤ a0 ∧ a0 < 2 + nJS) ∧ K (Int32.ofNat (lenJS.getD (a0 - 2) 0)) w
def w_J0_charAt_5068e (a0 : Nat) (a1 : Int32) (K : Int32 → Wd → Prop) (w : Wd) : Prop := (2 ≤ a0 ∧ a0 < 2 + nJS) ∧ vp_in a1 (lenJS.getD (a0 - 2) 0) ∧ K ((bytJS.getD (a0 - 2) []).getD a1.toNatClampNeg 0) w
theorem adr_tx {a0 : Nat} (h : 2 ≤ a0 ∧ a0 < 2 + nJS) : adr x a0 = x.2.2.2.1 (a0 - 2) := by
  unfold adr
  have h2 : a0 < 64 := Nat.lt_of_lt_of_le h.2 (by decide)
  rw [if_neg (by omega), if_pos h2]
theorem c_J0_length_8abf5 {a0 : Nat} {K : Int32 → Wd → Prop} (h : w_J0_length_8abf5 a0 K w) : Met l yJ0_length_8abf5 (xws yJ0_length_8abf5 cJ0_length_8abf5 1 (some .int)) (rmd 6 0 0) (xPc x [.ref (adr x a0)] w) (QcI x K) 0 0 (xA x) := by
  obtain ⟨h0, h⟩ := h
  rw [adr_tx h0]
  have hi : a0 - 2 < nJS := by omega
  refine xMet (by decide) (Nat.le_of_ble_eq_true rfl) (fun p e s m below meth c C hlk hr _ => ?_)
  show GW x p l e (rmd 6 0 0) s m [.ref (x.2.2.2.1 (a0 - 2))].toArray below meth c 1 (QI x K below [.ref (x.2.2.2.1 (a0 - 2))].toArray s 0 0) 0 [(0, .ref (x.2.2.2.1 (a0 - 2)))] [] w 0 0
  refine g_aload_n (pc := 0) C dJ0_length_8abf5_0 (q := 0) rfl ?_
  refine g_strf (pc := 1) C (C.2.2.1.1 _ hi).2.2.1 LFJ0_9 dJ0_length_8abf5_1 ?_
  refine g_tlen (pc := 4) C (C.2.2.1.1 _ hi).2.2.2 dJ0_length_8abf5_4 ?_
  refine g_aload_n (pc := 5) C dJ0_length_8abf5_5 (q := 0) rfl ?_
  refine g_callVs0 (pc := 6) C (As := []) (K := fun r u => r = 0 ∧ u = w) (C.2.2.1.1 _ hi).1 (c_coder hi ⟨rfl, rfl⟩) (x_cwV C 0 LMJ0_335 ⟨rfl, by decide, by decide, rfl⟩ (Nat.le_of_ble_eq_true rfl) (by decide)) rfl rfl (Nat.le_of_ble_eq_true rfl) dJ0_length_8abf5_6 ⟨Nat.le_refl _, Nat.le_refl _⟩ (fun r u hu => ?_)
  obtain ⟨rfl, rfl⟩ := hu
  refine g_ishr (pc := 9) C dJ0_length_8abf5_9 ?_
  have hz : Int32.ofNat (lenJS.getD (a0 - 2) 0) >>> ((0 : Int32) &&& 31) = Int32.ofNat (lenJS.getD (a0 - 2) 0) := (show ∀ i, i < nJS → Int32.ofNat (lenJS.getD i 0) >>> ((0 : Int32) &&& 31) = Int32.ofNat (lenJS.getD i 0) by decide +kernel) _ hi
  rw [hz]
  exact g_iret (pc := 10) C hlk hr (Nat.le_refl _) (Nat.le_refl _) dJ0_length_8abf5_10 h
theorem c_J0_charAt_5068e {a0 : Nat} {a1 : Int32} {K : Int32 → Wd → Prop} (h : w_J0_charAt_5068e a0 a1 K w) : Met l yJ0_charAt_5068e (xws yJ0_charAt_5068e cJ0_charAt_5068e 2 (some .char)) (rmd 6 0 0) (xPc x [.ref (adr x a0), .int a1] w) (QcI x K) 0 0 (xA x) := by
  obtain ⟨h0, ha, h⟩ := h
  rw [adr_tx h0]
  have hi : a0 - 2 < nJS := by omega
  have hb := byt_ok _ hi a1.toNatClampNeg (Nat.not_le.mp fun z => ha (Or.inr z))
  refine xMet (by decide) (Nat.le_of_ble_eq_true rfl) (fun p e s m below meth c C hlk hr _ => ?_)
  show GW x p l e (rmd 6 0 0) s m [.ref (x.2.2.2.1 (a0 - 2)), .int a1].toArray below meth c 2 (QI x K below [.ref (x.2.2.2.1 (a0 - 2)), .int a1].toArray s 0 0) 0 [(0, .ref (x.2.2.2.1 (a0 - 2))), (1, .int a1)] [] w 0 0
  refine g_aload_n (pc := 0) C dJ0_charAt_5068e_0 (q := 0) rfl ?_
  refine g_callVs0 (pc := 1) C (As := []) (K := fun r u => r = 1 ∧ u = w) (C.2.2.1.1 _ hi).1 (c_isLatin1 hi ⟨rfl, rfl⟩) (x_cwV C 0 LMJ0_492 ⟨rfl, by decide, by decide, rfl⟩ (Nat.le_of_ble_eq_true rfl) (by decide)) rfl rfl (Nat.le_of_ble_eq_true rfl) dJ0_charAt_5068e_1 ⟨Nat.le_refl _, Nat.le_refl _⟩ (fun r u hu => ?_)
  obtain ⟨rfl, rfl⟩ := hu
  refine g_if_eq (pc := 4) C dJ0_charAt_5068e_4 (tgt := 16) rfl (fun z => absurd z (by decide)) (fun z => ?_)
  refine g_aload_n (pc := 7) C dJ0_charAt_5068e_7 (q := 0) rfl ?_
  refine g_strf (pc := 8) C (C.2.2.1.1 _ hi).2.2.1 LFJ0_9 dJ0_charAt_5068e_8 ?_
  refine g_iload_n (pc := 11) C dJ0_charAt_5068e_11 (q := 1) rfl ?_
  refine g_callSi0 (pc := 12) C (As := [.ref (x.2.2.2.2.1 (a0 - 2)), .int a1]) (rest := []) (K := fun r v => r = (bytJS.getD (a0 - 2) []).getD a1.toNatClampNeg 0 ∧ v = u) (c_J1char hi ha ⟨rfl, rfl⟩) (x_cwS C 2 LMJ0_495 ⟨by decide, by decide, rfl⟩ (Nat.le_of_ble_eq_true rfl) (by decide)) rfl rfl (by decide) dJ0_charAt_5068e_12 ⟨Nat.le_refl _, Nat.le_refl _⟩ (fun r v hu => ?_)
  obtain ⟨rfl, rfl⟩ := hu
  exact g_nret (pc := 15) C hlk hr hb.2 (Nat.le_refl _) (Nat.le_refl _) dJ0_charAt_5068e_15 h
theorem g_callT0 (C : xC x p s m c cc nL args own) {a0 : Nat} {y : MethodName} {bytes : ByteArray} {maxL n d index : Nat} {ret : Option FieldType} {As rest : List Value} {K : Int32 → Wd → Prop} (h0 : 2 ≤ a0 ∧ a0 < 2 + nJS) (hM : Met l y (xws y bytes maxL ret) (rmd d 0 0) (xPc x (.ref (adr x a0) :: As) w) (QcI x K) 0 0 (xA x)) (cw : CallW R s args own RJ0 index y bytes maxL ret (xws y bytes maxL ret) (rmd d 0 0) 0 0 n) (hst : st = As.reverse ++ .ref (adr x a0) :: rest) (hn : As.length = n) (hW : (rest.map fun v => v.category).sum ≤ 8) (hd : decode cc pc = .ok (.invokevirtual index, 3)) (hR : i ≤ R.cells ∧ j ≤ R.slots)
    (k : ∀ (r : Int32) (u : Wd), K r u → GW x p l e R s m args below meth c nL Q (pc + 3) lo (.int r :: rest) u i j) : GW x p l e R s m args below meth c nL Q pc lo st w i j := g_callVs0 C (by rw [adr_tx h0]; exact (C.2.2.1.1 _ (by omega)).1) hM cw hst hn hW hd hR k
end ST
