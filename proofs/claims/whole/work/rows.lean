section
-- ===== PART A: goes FIRST, ahead of the names: the tables' words, and 'selects' of the private methods out of them =====
/-- a private method of a class that the tables say can be made, by its rows of tables_1 -/
def lw_okq (q : MethodName × Nat) : Prop := (q.1.cls ≠ "java/lang/invoke/MethodHandle" ∧ q.1.cls ≠ "java/lang/invoke/VarHandle") ∧ Cond.instantiable q.1.cls q.2 ∈ tables_1 ∧ Cond.privateMethod q.1 ∈ tables_1 ∧ Cond.instanceMethod q.1 ∈ tables_1
theorem lw_p0 : lw_okq (⟨"SnoringWells$Page", "slot", "(I)I"⟩, 5) := ⟨⟨by decide +kernel, by decide +kernel⟩, List.mem_of_getElem? (i := 207) (by decide +kernel), List.mem_of_getElem? (i := 443) (by decide +kernel), List.mem_of_getElem? (i := 444) (by decide +kernel)⟩
theorem lw_p1 : lw_okq (⟨"SnoringWells$Noise", "lawHolds", "(III)Z"⟩, 6) := ⟨⟨by decide +kernel, by decide +kernel⟩, List.mem_of_getElem? (i := 183) (by decide +kernel), List.mem_of_getElem? (i := 475) (by decide +kernel), List.mem_of_getElem? (i := 476) (by decide +kernel)⟩
theorem lw_p2 : lw_okq (⟨"SnoringWells$Noise", "valueOf", "(I)I"⟩, 6) := ⟨⟨by decide +kernel, by decide +kernel⟩, List.mem_of_getElem? (i := 183) (by decide +kernel), List.mem_of_getElem? (i := 494) (by decide +kernel), List.mem_of_getElem? (i := 495) (by decide +kernel)⟩
theorem lw_p3 : lw_okq (⟨"SnoringWells$Noise", "spread", "(II)I"⟩, 6) := ⟨⟨by decide +kernel, by decide +kernel⟩, List.mem_of_getElem? (i := 183) (by decide +kernel), List.mem_of_getElem? (i := 507) (by decide +kernel), List.mem_of_getElem? (i := 508) (by decide +kernel)⟩
theorem lw_p4 : lw_okq (⟨"SnoringWells$Noise", "wokenByYawns", "(I)I"⟩, 6) := ⟨⟨by decide +kernel, by decide +kernel⟩, List.mem_of_getElem? (i := 183) (by decide +kernel), List.mem_of_getElem? (i := 511) (by decide +kernel), List.mem_of_getElem? (i := 512) (by decide +kernel)⟩
theorem lw_p5 : lw_okq (⟨"SnoringWells$Land", "turnTo", "(II)V"⟩, 5) := ⟨⟨by decide +kernel, by decide +kernel⟩, List.mem_of_getElem? (i := 152) (by decide +kernel), List.mem_of_getElem? (i := 523) (by decide +kernel), List.mem_of_getElem? (i := 524) (by decide +kernel)⟩
theorem lw_p6 : lw_okq (⟨"SnoringWells$Rounds", "widen", "(I)V"⟩, 6) := ⟨⟨by decide +kernel, by decide +kernel⟩, List.mem_of_getElem? (i := 41) (by decide +kernel), List.mem_of_getElem? (i := 585) (by decide +kernel), List.mem_of_getElem? (i := 586) (by decide +kernel)⟩
theorem lw_p7 : lw_okq (⟨"SnoringWells$Rounds", "addWell", "(LSnoringWells$Land;I)V"⟩, 6) := ⟨⟨by decide +kernel, by decide +kernel⟩, List.mem_of_getElem? (i := 41) (by decide +kernel), List.mem_of_getElem? (i := 595) (by decide +kernel), List.mem_of_getElem? (i := 596) (by decide +kernel)⟩
theorem lw_p8 : lw_okq (⟨"SnoringWells$Land", "dreamLevel", "(II)V"⟩, 5) := ⟨⟨by decide +kernel, by decide +kernel⟩, List.mem_of_getElem? (i := 152) (by decide +kernel), List.mem_of_getElem? (i := 643) (by decide +kernel), List.mem_of_getElem? (i := 644) (by decide +kernel)⟩
theorem lw_p9 : lw_okq (⟨"SnoringWells$Land", "pass", "(II)V"⟩, 5) := ⟨⟨by decide +kernel, by decide +kernel⟩, List.mem_of_getElem? (i := 152) (by decide +kernel), List.mem_of_getElem? (i := 647) (by decide +kernel), List.mem_of_getElem? (i := 648) (by decide +kernel)⟩
theorem lw_p10 : lw_okq (⟨"java/lang/Throwable", "fillInStackTrace", "(I)Ljava/lang/Throwable;"⟩, 6) := ⟨⟨by decide +kernel, by decide +kernel⟩, List.mem_of_getElem? (i := 722) (by decide +kernel), List.mem_of_getElem? (i := 720) (by decide +kernel), List.mem_of_getElem? (i := 721) (by decide +kernel)⟩
theorem lw_p11 : lw_okq (⟨"SnoringWells$Reader", "advance", "()Z"⟩, 13) := ⟨⟨by decide +kernel, by decide +kernel⟩, List.mem_of_getElem? (i := 257) (by decide +kernel), List.mem_of_getElem? (i := 757) (by decide +kernel), List.mem_of_getElem? (i := 758) (by decide +kernel)⟩
theorem lw_p12 : lw_okq (⟨"SnoringWells$Reader", "byteAt", "(I)I"⟩, 13) := ⟨⟨by decide +kernel, by decide +kernel⟩, List.mem_of_getElem? (i := 257) (by decide +kernel), List.mem_of_getElem? (i := 761) (by decide +kernel), List.mem_of_getElem? (i := 762) (by decide +kernel)⟩
theorem lw_p13 : lw_okq (⟨"SnoringWells$Reader", "refuse", "(I)Z"⟩, 13) := ⟨⟨by decide +kernel, by decide +kernel⟩, List.mem_of_getElem? (i := 257) (by decide +kernel), List.mem_of_getElem? (i := 771) (by decide +kernel), List.mem_of_getElem? (i := 772) (by decide +kernel)⟩
theorem lw_p14 : lw_okq (⟨"SnoringWells$Reader", "readLine", "()Z"⟩, 13) := ⟨⟨by decide +kernel, by decide +kernel⟩, List.mem_of_getElem? (i := 257) (by decide +kernel), List.mem_of_getElem? (i := 775) (by decide +kernel), List.mem_of_getElem? (i := 776) (by decide +kernel)⟩
theorem lw_p15 : lw_okq (⟨"SnoringWells$Reader", "isWord", "(Ljava/lang/String;)Z"⟩, 13) := ⟨⟨by decide +kernel, by decide +kernel⟩, List.mem_of_getElem? (i := 257) (by decide +kernel), List.mem_of_getElem? (i := 780) (by decide +kernel), List.mem_of_getElem? (i := 781) (by decide +kernel)⟩
def lw_privs_1 : List (MethodName × Nat) := [(⟨"SnoringWells$Page", "slot", "(I)I"⟩, 5), (⟨"SnoringWells$Noise", "lawHolds", "(III)Z"⟩, 6), (⟨"SnoringWells$Noise", "valueOf", "(I)I"⟩, 6), (⟨"SnoringWells$Noise", "spread", "(II)I"⟩, 6), (⟨"SnoringWells$Noise", "wokenByYawns", "(I)I"⟩, 6), (⟨"SnoringWells$Land", "turnTo", "(II)V"⟩, 5), (⟨"SnoringWells$Rounds", "widen", "(I)V"⟩, 6), (⟨"SnoringWells$Rounds", "addWell", "(LSnoringWells$Land;I)V"⟩, 6), (⟨"SnoringWells$Land", "dreamLevel", "(II)V"⟩, 5), (⟨"SnoringWells$Land", "pass", "(II)V"⟩, 5), (⟨"java/lang/Throwable", "fillInStackTrace", "(I)Ljava/lang/Throwable;"⟩, 6), (⟨"SnoringWells$Reader", "advance", "()Z"⟩, 13), (⟨"SnoringWells$Reader", "byteAt", "(I)I"⟩, 13), (⟨"SnoringWells$Reader", "refuse", "(I)Z"⟩, 13), (⟨"SnoringWells$Reader", "readLine", "()Z"⟩, 13), (⟨"SnoringWells$Reader", "isWord", "(Ljava/lang/String;)Z"⟩, 13)]
theorem lw_r1 : ∀ q ∈ lw_privs_1, lw_okq q := List.forall_mem_cons.mpr ⟨lw_p0, List.forall_mem_cons.mpr ⟨lw_p1, List.forall_mem_cons.mpr ⟨lw_p2, List.forall_mem_cons.mpr ⟨lw_p3, List.forall_mem_cons.mpr ⟨lw_p4, List.forall_mem_cons.mpr ⟨lw_p5, List.forall_mem_cons.mpr ⟨lw_p6, List.forall_mem_cons.mpr ⟨lw_p7, List.forall_mem_cons.mpr ⟨lw_p8, List.forall_mem_cons.mpr ⟨lw_p9, List.forall_mem_cons.mpr ⟨lw_p10, List.forall_mem_cons.mpr ⟨lw_p11, List.forall_mem_cons.mpr ⟨lw_p12, List.forall_mem_cons.mpr ⟨lw_p13, List.forall_mem_cons.mpr ⟨lw_p14, List.forall_mem_cons.mpr ⟨lw_p15, fun _ h => absurd h List.not_mem_nil⟩⟩⟩⟩⟩⟩⟩⟩⟩⟩⟩⟩⟩⟩⟩⟩
theorem lw_p16 : lw_okq (⟨"SnoringWells$Reader", "readWell", "()Z"⟩, 13) := ⟨⟨by decide +kernel, by decide +kernel⟩, List.mem_of_getElem? (i := 257) (by decide +kernel), List.mem_of_getElem? (i := 832) (by decide +kernel), List.mem_of_getElem? (i := 833) (by decide +kernel)⟩
theorem lw_p17 : lw_okq (⟨"SnoringWells$Reader", "expectWord", "(Ljava/lang/String;)Z"⟩, 13) := ⟨⟨by decide +kernel, by decide +kernel⟩, List.mem_of_getElem? (i := 257) (by decide +kernel), List.mem_of_getElem? (i := 837) (by decide +kernel), List.mem_of_getElem? (i := 838) (by decide +kernel)⟩
theorem lw_p18 : lw_okq (⟨"SnoringWells$Reader", "expectNumber", "(II)Z"⟩, 13) := ⟨⟨by decide +kernel, by decide +kernel⟩, List.mem_of_getElem? (i := 257) (by decide +kernel), List.mem_of_getElem? (i := 841) (by decide +kernel), List.mem_of_getElem? (i := 842) (by decide +kernel)⟩
theorem lw_p19 : lw_okq (⟨"SnoringWells$Reader", "readChoice", "(Ljava/lang/String;III)Z"⟩, 13) := ⟨⟨by decide +kernel, by decide +kernel⟩, List.mem_of_getElem? (i := 257) (by decide +kernel), List.mem_of_getElem? (i := 847) (by decide +kernel), List.mem_of_getElem? (i := 848) (by decide +kernel)⟩
theorem lw_p20 : lw_okq (⟨"SnoringWells$Reader", "readBeside", "()Z"⟩, 13) := ⟨⟨by decide +kernel, by decide +kernel⟩, List.mem_of_getElem? (i := 257) (by decide +kernel), List.mem_of_getElem? (i := 858) (by decide +kernel), List.mem_of_getElem? (i := 859) (by decide +kernel)⟩
theorem lw_p21 : lw_okq (⟨"SnoringWells$Reader", "expectToldWell", "(I)Z"⟩, 13) := ⟨⟨by decide +kernel, by decide +kernel⟩, List.mem_of_getElem? (i := 257) (by decide +kernel), List.mem_of_getElem? (i := 862) (by decide +kernel), List.mem_of_getElem? (i := 863) (by decide +kernel)⟩
theorem lw_p22 : lw_okq (⟨"SnoringWells$Reader", "readHouse", "()Z"⟩, 13) := ⟨⟨by decide +kernel, by decide +kernel⟩, List.mem_of_getElem? (i := 257) (by decide +kernel), List.mem_of_getElem? (i := 873) (by decide +kernel), List.mem_of_getElem? (i := 874) (by decide +kernel)⟩
theorem lw_p23 : lw_okq (⟨"SnoringWells$Reader", "readLaw", "()Z"⟩, 13) := ⟨⟨by decide +kernel, by decide +kernel⟩, List.mem_of_getElem? (i := 257) (by decide +kernel), List.mem_of_getElem? (i := 883) (by decide +kernel), List.mem_of_getElem? (i := 884) (by decide +kernel)⟩
theorem lw_p24 : lw_okq (⟨"SnoringWells$Reader", "readTruth", "(I)Z"⟩, 13) := ⟨⟨by decide +kernel, by decide +kernel⟩, List.mem_of_getElem? (i := 257) (by decide +kernel), List.mem_of_getElem? (i := 887) (by decide +kernel), List.mem_of_getElem? (i := 888) (by decide +kernel)⟩
theorem lw_p25 : lw_okq (⟨"SnoringWells$Reader", "readBoth", "(I)Z"⟩, 13) := ⟨⟨by decide +kernel, by decide +kernel⟩, List.mem_of_getElem? (i := 257) (by decide +kernel), List.mem_of_getElem? (i := 891) (by decide +kernel), List.mem_of_getElem? (i := 892) (by decide +kernel)⟩
theorem lw_p26 : lw_okq (⟨"SnoringWells$Reader", "readUnit", "(I)Z"⟩, 13) := ⟨⟨by decide +kernel, by decide +kernel⟩, List.mem_of_getElem? (i := 257) (by decide +kernel), List.mem_of_getElem? (i := 895) (by decide +kernel), List.mem_of_getElem? (i := 896) (by decide +kernel)⟩
theorem lw_p27 : lw_okq (⟨"SnoringWells$Reader", "mayNest", "(I)Z"⟩, 13) := ⟨⟨by decide +kernel, by decide +kernel⟩, List.mem_of_getElem? (i := 257) (by decide +kernel), List.mem_of_getElem? (i := 900) (by decide +kernel), List.mem_of_getElem? (i := 901) (by decide +kernel)⟩
theorem lw_p28 : lw_okq (⟨"SnoringWells$Reader", "emit", "(I)V"⟩, 13) := ⟨⟨by decide +kernel, by decide +kernel⟩, List.mem_of_getElem? (i := 257) (by decide +kernel), List.mem_of_getElem? (i := 904) (by decide +kernel), List.mem_of_getElem? (i := 905) (by decide +kernel)⟩
theorem lw_p29 : lw_okq (⟨"SnoringWells$Reader", "isSign", "(C)Z"⟩, 13) := ⟨⟨by decide +kernel, by decide +kernel⟩, List.mem_of_getElem? (i := 257) (by decide +kernel), List.mem_of_getElem? (i := 908) (by decide +kernel), List.mem_of_getElem? (i := 909) (by decide +kernel)⟩
theorem lw_p30 : lw_okq (⟨"SnoringWells$Reader", "expectSign", "(C)Z"⟩, 13) := ⟨⟨by decide +kernel, by decide +kernel⟩, List.mem_of_getElem? (i := 257) (by decide +kernel), List.mem_of_getElem? (i := 912) (by decide +kernel), List.mem_of_getElem? (i := 913) (by decide +kernel)⟩
theorem lw_p31 : lw_okq (⟨"SnoringWells$Reader", "readSum", "(I)Z"⟩, 13) := ⟨⟨by decide +kernel, by decide +kernel⟩, List.mem_of_getElem? (i := 257) (by decide +kernel), List.mem_of_getElem? (i := 916) (by decide +kernel), List.mem_of_getElem? (i := 917) (by decide +kernel)⟩
def lw_privs_2 : List (MethodName × Nat) := [(⟨"SnoringWells$Reader", "readWell", "()Z"⟩, 13), (⟨"SnoringWells$Reader", "expectWord", "(Ljava/lang/String;)Z"⟩, 13), (⟨"SnoringWells$Reader", "expectNumber", "(II)Z"⟩, 13), (⟨"SnoringWells$Reader", "readChoice", "(Ljava/lang/String;III)Z"⟩, 13), (⟨"SnoringWells$Reader", "readBeside", "()Z"⟩, 13), (⟨"SnoringWells$Reader", "expectToldWell", "(I)Z"⟩, 13), (⟨"SnoringWells$Reader", "readHouse", "()Z"⟩, 13), (⟨"SnoringWells$Reader", "readLaw", "()Z"⟩, 13), (⟨"SnoringWells$Reader", "readTruth", "(I)Z"⟩, 13), (⟨"SnoringWells$Reader", "readBoth", "(I)Z"⟩, 13), (⟨"SnoringWells$Reader", "readUnit", "(I)Z"⟩, 13), (⟨"SnoringWells$Reader", "mayNest", "(I)Z"⟩, 13), (⟨"SnoringWells$Reader", "emit", "(I)V"⟩, 13), (⟨"SnoringWells$Reader", "isSign", "(C)Z"⟩, 13), (⟨"SnoringWells$Reader", "expectSign", "(C)Z"⟩, 13), (⟨"SnoringWells$Reader", "readSum", "(I)Z"⟩, 13)]
theorem lw_r2 : ∀ q ∈ lw_privs_2, lw_okq q := List.forall_mem_cons.mpr ⟨lw_p16, List.forall_mem_cons.mpr ⟨lw_p17, List.forall_mem_cons.mpr ⟨lw_p18, List.forall_mem_cons.mpr ⟨lw_p19, List.forall_mem_cons.mpr ⟨lw_p20, List.forall_mem_cons.mpr ⟨lw_p21, List.forall_mem_cons.mpr ⟨lw_p22, List.forall_mem_cons.mpr ⟨lw_p23, List.forall_mem_cons.mpr ⟨lw_p24, List.forall_mem_cons.mpr ⟨lw_p25, List.forall_mem_cons.mpr ⟨lw_p26, List.forall_mem_cons.mpr ⟨lw_p27, List.forall_mem_cons.mpr ⟨lw_p28, List.forall_mem_cons.mpr ⟨lw_p29, List.forall_mem_cons.mpr ⟨lw_p30, List.forall_mem_cons.mpr ⟨lw_p31, fun _ h => absurd h List.not_mem_nil⟩⟩⟩⟩⟩⟩⟩⟩⟩⟩⟩⟩⟩⟩⟩⟩
theorem lw_p32 : lw_okq (⟨"SnoringWells$Reader", "readTerm", "(I)Z"⟩, 13) := ⟨⟨by decide +kernel, by decide +kernel⟩, List.mem_of_getElem? (i := 257) (by decide +kernel), List.mem_of_getElem? (i := 920) (by decide +kernel), List.mem_of_getElem? (i := 921) (by decide +kernel)⟩
theorem lw_p33 : lw_okq (⟨"SnoringWells$Reader", "readAtom", "(I)Z"⟩, 13) := ⟨⟨by decide +kernel, by decide +kernel⟩, List.mem_of_getElem? (i := 257) (by decide +kernel), List.mem_of_getElem? (i := 924) (by decide +kernel), List.mem_of_getElem? (i := 925) (by decide +kernel)⟩
theorem lw_p34 : lw_okq (⟨"SnoringWells$Reader", "nameHere", "()I"⟩, 13) := ⟨⟨by decide +kernel, by decide +kernel⟩, List.mem_of_getElem? (i := 257) (by decide +kernel), List.mem_of_getElem? (i := 928) (by decide +kernel), List.mem_of_getElem? (i := 929) (by decide +kernel)⟩
theorem lw_p35 : lw_okq (⟨"SnoringWells$Reader", "comparisonHere", "()I"⟩, 13) := ⟨⟨by decide +kernel, by decide +kernel⟩, List.mem_of_getElem? (i := 257) (by decide +kernel), List.mem_of_getElem? (i := 940) (by decide +kernel), List.mem_of_getElem? (i := 941) (by decide +kernel)⟩
theorem lw_p36 : lw_okq (⟨"SnoringWells$Reader", "readHour", "()Z"⟩, 13) := ⟨⟨by decide +kernel, by decide +kernel⟩, List.mem_of_getElem? (i := 257) (by decide +kernel), List.mem_of_getElem? (i := 949) (by decide +kernel), List.mem_of_getElem? (i := 950) (by decide +kernel)⟩
theorem lw_p37 : lw_okq (⟨"SnoringWells", "needWell", "(I)V"⟩, 10) := ⟨⟨by decide +kernel, by decide +kernel⟩, List.mem_of_getElem? (i := 29) (by decide +kernel), List.mem_of_getElem? (i := 977) (by decide +kernel), List.mem_of_getElem? (i := 978) (by decide +kernel)⟩
theorem lw_p38 : lw_okq (⟨"SnoringWells", "needHouse", "(I)V"⟩, 10) := ⟨⟨by decide +kernel, by decide +kernel⟩, List.mem_of_getElem? (i := 29) (by decide +kernel), List.mem_of_getElem? (i := 1013) (by decide +kernel), List.mem_of_getElem? (i := 1014) (by decide +kernel)⟩
theorem lw_p39 : lw_okq (⟨"SnoringWells", "presentTray", "(I)LSnoringWells$Tray;"⟩, 10) := ⟨⟨by decide +kernel, by decide +kernel⟩, List.mem_of_getElem? (i := 29) (by decide +kernel), List.mem_of_getElem? (i := 1050) (by decide +kernel), List.mem_of_getElem? (i := 1051) (by decide +kernel)⟩
theorem lw_p40 : lw_okq (⟨"SnoringWells", "anyTray", "(I)LSnoringWells$Tray;"⟩, 10) := ⟨⟨by decide +kernel, by decide +kernel⟩, List.mem_of_getElem? (i := 29) (by decide +kernel), List.mem_of_getElem? (i := 1054) (by decide +kernel), List.mem_of_getElem? (i := 1055) (by decide +kernel)⟩
theorem lw_p41 : lw_okq (⟨"SnoringWells", "carryOutIfCan", "(J)Z"⟩, 10) := ⟨⟨by decide +kernel, by decide +kernel⟩, List.mem_of_getElem? (i := 29) (by decide +kernel), List.mem_of_getElem? (i := 1104) (by decide +kernel), List.mem_of_getElem? (i := 1105) (by decide +kernel)⟩
theorem lw_p42 : lw_okq (⟨"SnoringWells$Lots", "next", "()I"⟩, 1) := ⟨⟨by decide +kernel, by decide +kernel⟩, List.mem_of_getElem? (i := 1115) (by decide +kernel), List.mem_of_getElem? (i := 1129) (by decide +kernel), List.mem_of_getElem? (i := 1130) (by decide +kernel)⟩
theorem lw_p43 : lw_okq (⟨"SnoringWells", "needSet", "(I)V"⟩, 10) := ⟨⟨by decide +kernel, by decide +kernel⟩, List.mem_of_getElem? (i := 29) (by decide +kernel), List.mem_of_getElem? (i := 1141) (by decide +kernel), List.mem_of_getElem? (i := 1142) (by decide +kernel)⟩
theorem lw_p44 : lw_okq (⟨"SnoringWells$Rounds", "awakeIn", "(I)I"⟩, 6) := ⟨⟨by decide +kernel, by decide +kernel⟩, List.mem_of_getElem? (i := 41) (by decide +kernel), List.mem_of_getElem? (i := 1151) (by decide +kernel), List.mem_of_getElem? (i := 1152) (by decide +kernel)⟩
theorem lw_p45 : lw_okq (⟨"SnoringWells$Noise", "reachOf", "(I)I"⟩, 6) := ⟨⟨by decide +kernel, by decide +kernel⟩, List.mem_of_getElem? (i := 183) (by decide +kernel), List.mem_of_getElem? (i := 1290) (by decide +kernel), List.mem_of_getElem? (i := 1291) (by decide +kernel)⟩
theorem lw_p46 : lw_okq (⟨"SnoringWells", "lookAhead", "(I)V"⟩, 10) := ⟨⟨by decide +kernel, by decide +kernel⟩, List.mem_of_getElem? (i := 29) (by decide +kernel), List.mem_of_getElem? (i := 1326) (by decide +kernel), List.mem_of_getElem? (i := 1327) (by decide +kernel)⟩
theorem lw_p47 : lw_okq (⟨"SnoringWells$Plans", "lacking", "(JI)I"⟩, 4) := ⟨⟨by decide +kernel, by decide +kernel⟩, List.mem_of_getElem? (i := 318) (by decide +kernel), List.mem_of_getElem? (i := 1345) (by decide +kernel), List.mem_of_getElem? (i := 1346) (by decide +kernel)⟩
def lw_privs_3 : List (MethodName × Nat) := [(⟨"SnoringWells$Reader", "readTerm", "(I)Z"⟩, 13), (⟨"SnoringWells$Reader", "readAtom", "(I)Z"⟩, 13), (⟨"SnoringWells$Reader", "nameHere", "()I"⟩, 13), (⟨"SnoringWells$Reader", "comparisonHere", "()I"⟩, 13), (⟨"SnoringWells$Reader", "readHour", "()Z"⟩, 13), (⟨"SnoringWells", "needWell", "(I)V"⟩, 10), (⟨"SnoringWells", "needHouse", "(I)V"⟩, 10), (⟨"SnoringWells", "presentTray", "(I)LSnoringWells$Tray;"⟩, 10), (⟨"SnoringWells", "anyTray", "(I)LSnoringWells$Tray;"⟩, 10), (⟨"SnoringWells", "carryOutIfCan", "(J)Z"⟩, 10), (⟨"SnoringWells$Lots", "next", "()I"⟩, 1), (⟨"SnoringWells", "needSet", "(I)V"⟩, 10), (⟨"SnoringWells$Rounds", "awakeIn", "(I)I"⟩, 6), (⟨"SnoringWells$Noise", "reachOf", "(I)I"⟩, 6), (⟨"SnoringWells", "lookAhead", "(I)V"⟩, 10), (⟨"SnoringWells$Plans", "lacking", "(JI)I"⟩, 4)]
theorem lw_r3 : ∀ q ∈ lw_privs_3, lw_okq q := List.forall_mem_cons.mpr ⟨lw_p32, List.forall_mem_cons.mpr ⟨lw_p33, List.forall_mem_cons.mpr ⟨lw_p34, List.forall_mem_cons.mpr ⟨lw_p35, List.forall_mem_cons.mpr ⟨lw_p36, List.forall_mem_cons.mpr ⟨lw_p37, List.forall_mem_cons.mpr ⟨lw_p38, List.forall_mem_cons.mpr ⟨lw_p39, List.forall_mem_cons.mpr ⟨lw_p40, List.forall_mem_cons.mpr ⟨lw_p41, List.forall_mem_cons.mpr ⟨lw_p42, List.forall_mem_cons.mpr ⟨lw_p43, List.forall_mem_cons.mpr ⟨lw_p44, List.forall_mem_cons.mpr ⟨lw_p45, List.forall_mem_cons.mpr ⟨lw_p46, List.forall_mem_cons.mpr ⟨lw_p47, fun _ h => absurd h List.not_mem_nil⟩⟩⟩⟩⟩⟩⟩⟩⟩⟩⟩⟩⟩⟩⟩⟩
theorem lw_p48 : lw_okq (⟨"SnoringWells$Plans", "firstHourFor", "(IJ)I"⟩, 4) := ⟨⟨by decide +kernel, by decide +kernel⟩, List.mem_of_getElem? (i := 318) (by decide +kernel), List.mem_of_getElem? (i := 1363) (by decide +kernel), List.mem_of_getElem? (i := 1364) (by decide +kernel)⟩
theorem lw_p49 : lw_okq (⟨"SnoringWells", "needBeside", "(II)V"⟩, 10) := ⟨⟨by decide +kernel, by decide +kernel⟩, List.mem_of_getElem? (i := 29) (by decide +kernel), List.mem_of_getElem? (i := 1401) (by decide +kernel), List.mem_of_getElem? (i := 1402) (by decide +kernel)⟩
theorem lw_p50 : lw_okq (⟨"SnoringWells", "heardTray", "(I)LSnoringWells$Tray;"⟩, 10) := ⟨⟨by decide +kernel, by decide +kernel⟩, List.mem_of_getElem? (i := 29) (by decide +kernel), List.mem_of_getElem? (i := 1413) (by decide +kernel), List.mem_of_getElem? (i := 1414) (by decide +kernel)⟩
theorem lw_p51 : lw_okq (⟨"SnoringWells$Snores", "findFitting", "()V"⟩, 5) := ⟨⟨by decide +kernel, by decide +kernel⟩, List.mem_of_getElem? (i := 67) (by decide +kernel), List.mem_of_getElem? (i := 1431) (by decide +kernel), List.mem_of_getElem? (i := 1432) (by decide +kernel)⟩
theorem lw_p52 : lw_okq (⟨"SnoringWells$Snores", "awakeAmongFitting", "(I)I"⟩, 5) := ⟨⟨by decide +kernel, by decide +kernel⟩, List.mem_of_getElem? (i := 67) (by decide +kernel), List.mem_of_getElem? (i := 1465) (by decide +kernel), List.mem_of_getElem? (i := 1466) (by decide +kernel)⟩
theorem lw_p53 : lw_okq (⟨"SnoringWells$Tray", "cut", "(J)J"⟩, 4) := ⟨⟨by decide +kernel, by decide +kernel⟩, List.mem_of_getElem? (i := 234) (by decide +kernel), List.mem_of_getElem? (i := 1517) (by decide +kernel), List.mem_of_getElem? (i := 1518) (by decide +kernel)⟩
theorem lw_p54 : lw_okq (⟨"SnoringWells", "anyImage", "(I)LSnoringWells$Page;"⟩, 10) := ⟨⟨by decide +kernel, by decide +kernel⟩, List.mem_of_getElem? (i := 29) (by decide +kernel), List.mem_of_getElem? (i := 1536) (by decide +kernel), List.mem_of_getElem? (i := 1537) (by decide +kernel)⟩
theorem lw_p55 : lw_okq (⟨"SnoringWellsModel", "fails", "(I)I"⟩, 29) := ⟨⟨by decide +kernel, by decide +kernel⟩, List.mem_of_getElem? (i := 1553) (by decide +kernel), List.mem_of_getElem? (i := 1663) (by decide +kernel), List.mem_of_getElem? (i := 1664) (by decide +kernel)⟩
theorem lw_p56 : lw_okq (⟨"SnoringWellsModel", "readsOn", "()V"⟩, 29) := ⟨⟨by decide +kernel, by decide +kernel⟩, List.mem_of_getElem? (i := 1553) (by decide +kernel), List.mem_of_getElem? (i := 1667) (by decide +kernel), List.mem_of_getElem? (i := 1668) (by decide +kernel)⟩
theorem lw_p57 : lw_okq (⟨"SnoringWellsModel", "see", "(I)I"⟩, 29) := ⟨⟨by decide +kernel, by decide +kernel⟩, List.mem_of_getElem? (i := 1553) (by decide +kernel), List.mem_of_getElem? (i := 1674) (by decide +kernel), List.mem_of_getElem? (i := 1675) (by decide +kernel)⟩
theorem lw_p58 : lw_okq (⟨"SnoringWellsModel", "readLine", "()V"⟩, 29) := ⟨⟨by decide +kernel, by decide +kernel⟩, List.mem_of_getElem? (i := 1553) (by decide +kernel), List.mem_of_getElem? (i := 1684) (by decide +kernel), List.mem_of_getElem? (i := 1685) (by decide +kernel)⟩
theorem lw_p59 : lw_okq (⟨"SnoringWellsModel", "isWord", "(Ljava/lang/String;)Z"⟩, 29) := ⟨⟨by decide +kernel, by decide +kernel⟩, List.mem_of_getElem? (i := 1553) (by decide +kernel), List.mem_of_getElem? (i := 1689) (by decide +kernel), List.mem_of_getElem? (i := 1690) (by decide +kernel)⟩
theorem lw_p60 : lw_okq (⟨"SnoringWellsModel", "readWell", "()V"⟩, 29) := ⟨⟨by decide +kernel, by decide +kernel⟩, List.mem_of_getElem? (i := 1553) (by decide +kernel), List.mem_of_getElem? (i := 1695) (by decide +kernel), List.mem_of_getElem? (i := 1696) (by decide +kernel)⟩
theorem lw_p61 : lw_okq (⟨"SnoringWellsModel", "begins", "(II)Z"⟩, 29) := ⟨⟨by decide +kernel, by decide +kernel⟩, List.mem_of_getElem? (i := 1553) (by decide +kernel), List.mem_of_getElem? (i := 1699) (by decide +kernel), List.mem_of_getElem? (i := 1700) (by decide +kernel)⟩
theorem lw_p62 : lw_okq (⟨"SnoringWellsModel", "blames", "(I)V"⟩, 29) := ⟨⟨by decide +kernel, by decide +kernel⟩, List.mem_of_getElem? (i := 1553) (by decide +kernel), List.mem_of_getElem? (i := 1703) (by decide +kernel), List.mem_of_getElem? (i := 1704) (by decide +kernel)⟩
theorem lw_p63 : lw_okq (⟨"SnoringWellsModel", "mustWord", "(Ljava/lang/String;)V"⟩, 29) := ⟨⟨by decide +kernel, by decide +kernel⟩, List.mem_of_getElem? (i := 1553) (by decide +kernel), List.mem_of_getElem? (i := 1708) (by decide +kernel), List.mem_of_getElem? (i := 1709) (by decide +kernel)⟩
def lw_privs_4 : List (MethodName × Nat) := [(⟨"SnoringWells$Plans", "firstHourFor", "(IJ)I"⟩, 4), (⟨"SnoringWells", "needBeside", "(II)V"⟩, 10), (⟨"SnoringWells", "heardTray", "(I)LSnoringWells$Tray;"⟩, 10), (⟨"SnoringWells$Snores", "findFitting", "()V"⟩, 5), (⟨"SnoringWells$Snores", "awakeAmongFitting", "(I)I"⟩, 5), (⟨"SnoringWells$Tray", "cut", "(J)J"⟩, 4), (⟨"SnoringWells", "anyImage", "(I)LSnoringWells$Page;"⟩, 10), (⟨"SnoringWellsModel", "fails", "(I)I"⟩, 29), (⟨"SnoringWellsModel", "readsOn", "()V"⟩, 29), (⟨"SnoringWellsModel", "see", "(I)I"⟩, 29), (⟨"SnoringWellsModel", "readLine", "()V"⟩, 29), (⟨"SnoringWellsModel", "isWord", "(Ljava/lang/String;)Z"⟩, 29), (⟨"SnoringWellsModel", "readWell", "()V"⟩, 29), (⟨"SnoringWellsModel", "begins", "(II)Z"⟩, 29), (⟨"SnoringWellsModel", "blames", "(I)V"⟩, 29), (⟨"SnoringWellsModel", "mustWord", "(Ljava/lang/String;)V"⟩, 29)]
theorem lw_r4 : ∀ q ∈ lw_privs_4, lw_okq q := List.forall_mem_cons.mpr ⟨lw_p48, List.forall_mem_cons.mpr ⟨lw_p49, List.forall_mem_cons.mpr ⟨lw_p50, List.forall_mem_cons.mpr ⟨lw_p51, List.forall_mem_cons.mpr ⟨lw_p52, List.forall_mem_cons.mpr ⟨lw_p53, List.forall_mem_cons.mpr ⟨lw_p54, List.forall_mem_cons.mpr ⟨lw_p55, List.forall_mem_cons.mpr ⟨lw_p56, List.forall_mem_cons.mpr ⟨lw_p57, List.forall_mem_cons.mpr ⟨lw_p58, List.forall_mem_cons.mpr ⟨lw_p59, List.forall_mem_cons.mpr ⟨lw_p60, List.forall_mem_cons.mpr ⟨lw_p61, List.forall_mem_cons.mpr ⟨lw_p62, List.forall_mem_cons.mpr ⟨lw_p63, fun _ h => absurd h List.not_mem_nil⟩⟩⟩⟩⟩⟩⟩⟩⟩⟩⟩⟩⟩⟩⟩⟩
theorem lw_p64 : lw_okq (⟨"SnoringWellsModel", "took", "(Ljava/lang/String;)Z"⟩, 29) := ⟨⟨by decide +kernel, by decide +kernel⟩, List.mem_of_getElem? (i := 1553) (by decide +kernel), List.mem_of_getElem? (i := 1712) (by decide +kernel), List.mem_of_getElem? (i := 1713) (by decide +kernel)⟩
theorem lw_p65 : lw_okq (⟨"SnoringWellsModel", "number", "(II)I"⟩, 29) := ⟨⟨by decide +kernel, by decide +kernel⟩, List.mem_of_getElem? (i := 1553) (by decide +kernel), List.mem_of_getElem? (i := 1716) (by decide +kernel), List.mem_of_getElem? (i := 1717) (by decide +kernel)⟩
theorem lw_p66 : lw_okq (⟨"SnoringWellsModel", "readHouse", "()V"⟩, 29) := ⟨⟨by decide +kernel, by decide +kernel⟩, List.mem_of_getElem? (i := 1553) (by decide +kernel), List.mem_of_getElem? (i := 1725) (by decide +kernel), List.mem_of_getElem? (i := 1726) (by decide +kernel)⟩
theorem lw_p67 : lw_okq (⟨"SnoringWellsModel", "wellTold", "()I"⟩, 29) := ⟨⟨by decide +kernel, by decide +kernel⟩, List.mem_of_getElem? (i := 1553) (by decide +kernel), List.mem_of_getElem? (i := 1730) (by decide +kernel), List.mem_of_getElem? (i := 1731) (by decide +kernel)⟩
theorem lw_p68 : lw_okq (⟨"SnoringWellsModel", "readBeside", "()V"⟩, 29) := ⟨⟨by decide +kernel, by decide +kernel⟩, List.mem_of_getElem? (i := 1553) (by decide +kernel), List.mem_of_getElem? (i := 1735) (by decide +kernel), List.mem_of_getElem? (i := 1736) (by decide +kernel)⟩
theorem lw_p69 : lw_okq (⟨"SnoringWellsModel", "readTruth", "()V"⟩, 29) := ⟨⟨by decide +kernel, by decide +kernel⟩, List.mem_of_getElem? (i := 1553) (by decide +kernel), List.mem_of_getElem? (i := 1741) (by decide +kernel), List.mem_of_getElem? (i := 1742) (by decide +kernel)⟩
theorem lw_p70 : lw_okq (⟨"SnoringWellsModel", "readBoth", "()V"⟩, 29) := ⟨⟨by decide +kernel, by decide +kernel⟩, List.mem_of_getElem? (i := 1553) (by decide +kernel), List.mem_of_getElem? (i := 1745) (by decide +kernel), List.mem_of_getElem? (i := 1746) (by decide +kernel)⟩
theorem lw_p71 : lw_okq (⟨"SnoringWellsModel", "readUnit", "()V"⟩, 29) := ⟨⟨by decide +kernel, by decide +kernel⟩, List.mem_of_getElem? (i := 1553) (by decide +kernel), List.mem_of_getElem? (i := 1749) (by decide +kernel), List.mem_of_getElem? (i := 1750) (by decide +kernel)⟩
theorem lw_p72 : lw_okq (⟨"SnoringWellsModel", "goesIn", "()V"⟩, 29) := ⟨⟨by decide +kernel, by decide +kernel⟩, List.mem_of_getElem? (i := 1553) (by decide +kernel), List.mem_of_getElem? (i := 1754) (by decide +kernel), List.mem_of_getElem? (i := 1755) (by decide +kernel)⟩
theorem lw_p73 : lw_okq (⟨"SnoringWellsModel", "laysStep", "(I)V"⟩, 29) := ⟨⟨by decide +kernel, by decide +kernel⟩, List.mem_of_getElem? (i := 1553) (by decide +kernel), List.mem_of_getElem? (i := 1758) (by decide +kernel), List.mem_of_getElem? (i := 1759) (by decide +kernel)⟩
theorem lw_p74 : lw_okq (⟨"SnoringWellsModel", "isSign", "(I)Z"⟩, 29) := ⟨⟨by decide +kernel, by decide +kernel⟩, List.mem_of_getElem? (i := 1553) (by decide +kernel), List.mem_of_getElem? (i := 1762) (by decide +kernel), List.mem_of_getElem? (i := 1763) (by decide +kernel)⟩
theorem lw_p75 : lw_okq (⟨"SnoringWellsModel", "mustSign", "(I)V"⟩, 29) := ⟨⟨by decide +kernel, by decide +kernel⟩, List.mem_of_getElem? (i := 1553) (by decide +kernel), List.mem_of_getElem? (i := 1766) (by decide +kernel), List.mem_of_getElem? (i := 1767) (by decide +kernel)⟩
theorem lw_p76 : lw_okq (⟨"SnoringWellsModel", "readSum", "()V"⟩, 29) := ⟨⟨by decide +kernel, by decide +kernel⟩, List.mem_of_getElem? (i := 1553) (by decide +kernel), List.mem_of_getElem? (i := 1770) (by decide +kernel), List.mem_of_getElem? (i := 1771) (by decide +kernel)⟩
theorem lw_p77 : lw_okq (⟨"SnoringWellsModel", "readTerm", "()V"⟩, 29) := ⟨⟨by decide +kernel, by decide +kernel⟩, List.mem_of_getElem? (i := 1553) (by decide +kernel), List.mem_of_getElem? (i := 1774) (by decide +kernel), List.mem_of_getElem? (i := 1775) (by decide +kernel)⟩
theorem lw_p78 : lw_okq (⟨"SnoringWellsModel", "readAtom", "()V"⟩, 29) := ⟨⟨by decide +kernel, by decide +kernel⟩, List.mem_of_getElem? (i := 1553) (by decide +kernel), List.mem_of_getElem? (i := 1778) (by decide +kernel), List.mem_of_getElem? (i := 1779) (by decide +kernel)⟩
theorem lw_p79 : lw_okq (⟨"SnoringWellsModel", "lawWord", "()I"⟩, 29) := ⟨⟨by decide +kernel, by decide +kernel⟩, List.mem_of_getElem? (i := 1553) (by decide +kernel), List.mem_of_getElem? (i := 1782) (by decide +kernel), List.mem_of_getElem? (i := 1783) (by decide +kernel)⟩
def lw_privs_5 : List (MethodName × Nat) := [(⟨"SnoringWellsModel", "took", "(Ljava/lang/String;)Z"⟩, 29), (⟨"SnoringWellsModel", "number", "(II)I"⟩, 29), (⟨"SnoringWellsModel", "readHouse", "()V"⟩, 29), (⟨"SnoringWellsModel", "wellTold", "()I"⟩, 29), (⟨"SnoringWellsModel", "readBeside", "()V"⟩, 29), (⟨"SnoringWellsModel", "readTruth", "()V"⟩, 29), (⟨"SnoringWellsModel", "readBoth", "()V"⟩, 29), (⟨"SnoringWellsModel", "readUnit", "()V"⟩, 29), (⟨"SnoringWellsModel", "goesIn", "()V"⟩, 29), (⟨"SnoringWellsModel", "laysStep", "(I)V"⟩, 29), (⟨"SnoringWellsModel", "isSign", "(I)Z"⟩, 29), (⟨"SnoringWellsModel", "mustSign", "(I)V"⟩, 29), (⟨"SnoringWellsModel", "readSum", "()V"⟩, 29), (⟨"SnoringWellsModel", "readTerm", "()V"⟩, 29), (⟨"SnoringWellsModel", "readAtom", "()V"⟩, 29), (⟨"SnoringWellsModel", "lawWord", "()I"⟩, 29)]
theorem lw_r5 : ∀ q ∈ lw_privs_5, lw_okq q := List.forall_mem_cons.mpr ⟨lw_p64, List.forall_mem_cons.mpr ⟨lw_p65, List.forall_mem_cons.mpr ⟨lw_p66, List.forall_mem_cons.mpr ⟨lw_p67, List.forall_mem_cons.mpr ⟨lw_p68, List.forall_mem_cons.mpr ⟨lw_p69, List.forall_mem_cons.mpr ⟨lw_p70, List.forall_mem_cons.mpr ⟨lw_p71, List.forall_mem_cons.mpr ⟨lw_p72, List.forall_mem_cons.mpr ⟨lw_p73, List.forall_mem_cons.mpr ⟨lw_p74, List.forall_mem_cons.mpr ⟨lw_p75, List.forall_mem_cons.mpr ⟨lw_p76, List.forall_mem_cons.mpr ⟨lw_p77, List.forall_mem_cons.mpr ⟨lw_p78, List.forall_mem_cons.mpr ⟨lw_p79, fun _ h => absurd h List.not_mem_nil⟩⟩⟩⟩⟩⟩⟩⟩⟩⟩⟩⟩⟩⟩⟩⟩
theorem lw_p80 : lw_okq (⟨"SnoringWellsModel", "readStop", "()V"⟩, 29) := ⟨⟨by decide +kernel, by decide +kernel⟩, List.mem_of_getElem? (i := 1553) (by decide +kernel), List.mem_of_getElem? (i := 1795) (by decide +kernel), List.mem_of_getElem? (i := 1796) (by decide +kernel)⟩
theorem lw_p81 : lw_okq (⟨"SnoringWellsModel", "isWell", "(J)Z"⟩, 29) := ⟨⟨by decide +kernel, by decide +kernel⟩, List.mem_of_getElem? (i := 1553) (by decide +kernel), List.mem_of_getElem? (i := 1807) (by decide +kernel), List.mem_of_getElem? (i := 1808) (by decide +kernel)⟩
theorem lw_p82 : lw_okq (⟨"SnoringWellsModel", "wells", "()I"⟩, 29) := ⟨⟨by decide +kernel, by decide +kernel⟩, List.mem_of_getElem? (i := 1553) (by decide +kernel), List.mem_of_getElem? (i := 1811) (by decide +kernel), List.mem_of_getElem? (i := 1812) (by decide +kernel)⟩
theorem lw_p83 : lw_okq (⟨"SnoringWellsModel", "phaseIn", "(II)I"⟩, 29) := ⟨⟨by decide +kernel, by decide +kernel⟩, List.mem_of_getElem? (i := 1553) (by decide +kernel), List.mem_of_getElem? (i := 1816) (by decide +kernel), List.mem_of_getElem? (i := 1817) (by decide +kernel)⟩
theorem lw_p84 : lw_okq (⟨"SnoringWellsModel", "isUp", "(I)Z"⟩, 29) := ⟨⟨by decide +kernel, by decide +kernel⟩, List.mem_of_getElem? (i := 1553) (by decide +kernel), List.mem_of_getElem? (i := 1820) (by decide +kernel), List.mem_of_getElem? (i := 1821) (by decide +kernel)⟩
theorem lw_p85 : lw_okq (⟨"SnoringWellsModel", "isUpIn", "(II)Z"⟩, 29) := ⟨⟨by decide +kernel, by decide +kernel⟩, List.mem_of_getElem? (i := 1553) (by decide +kernel), List.mem_of_getElem? (i := 1824) (by decide +kernel), List.mem_of_getElem? (i := 1825) (by decide +kernel)⟩
theorem lw_p86 : lw_okq (⟨"SnoringWellsModel", "isHouse", "(I)Z"⟩, 29) := ⟨⟨by decide +kernel, by decide +kernel⟩, List.mem_of_getElem? (i := 1553) (by decide +kernel), List.mem_of_getElem? (i := 1835) (by decide +kernel), List.mem_of_getElem? (i := 1836) (by decide +kernel)⟩
theorem lw_p87 : lw_okq (⟨"SnoringWellsModel", "upIn", "(I)I"⟩, 29) := ⟨⟨by decide +kernel, by decide +kernel⟩, List.mem_of_getElem? (i := 1553) (by decide +kernel), List.mem_of_getElem? (i := 1843) (by decide +kernel), List.mem_of_getElem? (i := 1844) (by decide +kernel)⟩
theorem lw_p88 : lw_okq (⟨"SnoringWellsModel", "waterAll", "()I"⟩, 29) := ⟨⟨by decide +kernel, by decide +kernel⟩, List.mem_of_getElem? (i := 1553) (by decide +kernel), List.mem_of_getElem? (i := 1851) (by decide +kernel), List.mem_of_getElem? (i := 1852) (by decide +kernel)⟩
theorem lw_p89 : lw_okq (⟨"SnoringWellsModel", "whyDraw", "(JJ)I"⟩, 29) := ⟨⟨by decide +kernel, by decide +kernel⟩, List.mem_of_getElem? (i := 1553) (by decide +kernel), List.mem_of_getElem? (i := 1859) (by decide +kernel), List.mem_of_getElem? (i := 1860) (by decide +kernel)⟩
theorem lw_p90 : lw_okq (⟨"SnoringWellsModel", "keeps", "()V"⟩, 29) := ⟨⟨by decide +kernel, by decide +kernel⟩, List.mem_of_getElem? (i := 1553) (by decide +kernel), List.mem_of_getElem? (i := 1864) (by decide +kernel), List.mem_of_getElem? (i := 1865) (by decide +kernel)⟩
theorem lw_p91 : lw_okq (⟨"SnoringWellsModel", "draws", "(II)I"⟩, 29) := ⟨⟨by decide +kernel, by decide +kernel⟩, List.mem_of_getElem? (i := 1553) (by decide +kernel), List.mem_of_getElem? (i := 1868) (by decide +kernel), List.mem_of_getElem? (i := 1869) (by decide +kernel)⟩
theorem lw_p92 : lw_okq (⟨"SnoringWellsModel", "chainOf", "(II)I"⟩, 29) := ⟨⟨by decide +kernel, by decide +kernel⟩, List.mem_of_getElem? (i := 1553) (by decide +kernel), List.mem_of_getElem? (i := 1872) (by decide +kernel), List.mem_of_getElem? (i := 1873) (by decide +kernel)⟩
theorem lw_p93 : lw_okq (⟨"SnoringWellsModel", "wokenBy", "(III)I"⟩, 29) := ⟨⟨by decide +kernel, by decide +kernel⟩, List.mem_of_getElem? (i := 1553) (by decide +kernel), List.mem_of_getElem? (i := 1876) (by decide +kernel), List.mem_of_getElem? (i := 1877) (by decide +kernel)⟩
theorem lw_p94 : lw_okq (⟨"SnoringWellsModel", "isWoken", "(III)Z"⟩, 29) := ⟨⟨by decide +kernel, by decide +kernel⟩, List.mem_of_getElem? (i := 1553) (by decide +kernel), List.mem_of_getElem? (i := 1880) (by decide +kernel), List.mem_of_getElem? (i := 1881) (by decide +kernel)⟩
theorem lw_p95 : lw_okq (⟨"SnoringWellsModel", "wordOf", "(IIII)I"⟩, 29) := ⟨⟨by decide +kernel, by decide +kernel⟩, List.mem_of_getElem? (i := 1553) (by decide +kernel), List.mem_of_getElem? (i := 1884) (by decide +kernel), List.mem_of_getElem? (i := 1885) (by decide +kernel)⟩
def lw_privs_6 : List (MethodName × Nat) := [(⟨"SnoringWellsModel", "readStop", "()V"⟩, 29), (⟨"SnoringWellsModel", "isWell", "(J)Z"⟩, 29), (⟨"SnoringWellsModel", "wells", "()I"⟩, 29), (⟨"SnoringWellsModel", "phaseIn", "(II)I"⟩, 29), (⟨"SnoringWellsModel", "isUp", "(I)Z"⟩, 29), (⟨"SnoringWellsModel", "isUpIn", "(II)Z"⟩, 29), (⟨"SnoringWellsModel", "isHouse", "(I)Z"⟩, 29), (⟨"SnoringWellsModel", "upIn", "(I)I"⟩, 29), (⟨"SnoringWellsModel", "waterAll", "()I"⟩, 29), (⟨"SnoringWellsModel", "whyDraw", "(JJ)I"⟩, 29), (⟨"SnoringWellsModel", "keeps", "()V"⟩, 29), (⟨"SnoringWellsModel", "draws", "(II)I"⟩, 29), (⟨"SnoringWellsModel", "chainOf", "(II)I"⟩, 29), (⟨"SnoringWellsModel", "wokenBy", "(III)I"⟩, 29), (⟨"SnoringWellsModel", "isWoken", "(III)Z"⟩, 29), (⟨"SnoringWellsModel", "wordOf", "(IIII)I"⟩, 29)]
theorem lw_r6 : ∀ q ∈ lw_privs_6, lw_okq q := List.forall_mem_cons.mpr ⟨lw_p80, List.forall_mem_cons.mpr ⟨lw_p81, List.forall_mem_cons.mpr ⟨lw_p82, List.forall_mem_cons.mpr ⟨lw_p83, List.forall_mem_cons.mpr ⟨lw_p84, List.forall_mem_cons.mpr ⟨lw_p85, List.forall_mem_cons.mpr ⟨lw_p86, List.forall_mem_cons.mpr ⟨lw_p87, List.forall_mem_cons.mpr ⟨lw_p88, List.forall_mem_cons.mpr ⟨lw_p89, List.forall_mem_cons.mpr ⟨lw_p90, List.forall_mem_cons.mpr ⟨lw_p91, List.forall_mem_cons.mpr ⟨lw_p92, List.forall_mem_cons.mpr ⟨lw_p93, List.forall_mem_cons.mpr ⟨lw_p94, List.forall_mem_cons.mpr ⟨lw_p95, fun _ h => absurd h List.not_mem_nil⟩⟩⟩⟩⟩⟩⟩⟩⟩⟩⟩⟩⟩⟩⟩⟩
theorem lw_p96 : lw_okq (⟨"SnoringWellsModel", "wake", "(I)I"⟩, 29) := ⟨⟨by decide +kernel, by decide +kernel⟩, List.mem_of_getElem? (i := 1553) (by decide +kernel), List.mem_of_getElem? (i := 1905) (by decide +kernel), List.mem_of_getElem? (i := 1906) (by decide +kernel)⟩
theorem lw_p97 : lw_okq (⟨"SnoringWellsModel", "shiftsTo", "(II)V"⟩, 29) := ⟨⟨by decide +kernel, by decide +kernel⟩, List.mem_of_getElem? (i := 1553) (by decide +kernel), List.mem_of_getElem? (i := 1909) (by decide +kernel), List.mem_of_getElem? (i := 1910) (by decide +kernel)⟩
theorem lw_p98 : lw_okq (⟨"SnoringWellsModel", "whyLull", "(J)I"⟩, 29) := ⟨⟨by decide +kernel, by decide +kernel⟩, List.mem_of_getElem? (i := 1553) (by decide +kernel), List.mem_of_getElem? (i := 1917) (by decide +kernel), List.mem_of_getElem? (i := 1918) (by decide +kernel)⟩
theorem lw_p99 : lw_okq (⟨"SnoringWellsModel", "whyCoin", "(J)I"⟩, 29) := ⟨⟨by decide +kernel, by decide +kernel⟩, List.mem_of_getElem? (i := 1553) (by decide +kernel), List.mem_of_getElem? (i := 1925) (by decide +kernel), List.mem_of_getElem? (i := 1926) (by decide +kernel)⟩
theorem lw_p100 : lw_okq (⟨"SnoringWellsModel", "coins", "(I)I"⟩, 29) := ⟨⟨by decide +kernel, by decide +kernel⟩, List.mem_of_getElem? (i := 1553) (by decide +kernel), List.mem_of_getElem? (i := 1929) (by decide +kernel), List.mem_of_getElem? (i := 1930) (by decide +kernel)⟩
theorem lw_p101 : lw_okq (⟨"SnoringWellsModel", "thunders", "()I"⟩, 29) := ⟨⟨by decide +kernel, by decide +kernel⟩, List.mem_of_getElem? (i := 1553) (by decide +kernel), List.mem_of_getElem? (i := 1937) (by decide +kernel), List.mem_of_getElem? (i := 1938) (by decide +kernel)⟩
theorem lw_p102 : lw_okq (⟨"SnoringWellsModel", "allWells", "()I"⟩, 29) := ⟨⟨by decide +kernel, by decide +kernel⟩, List.mem_of_getElem? (i := 1553) (by decide +kernel), List.mem_of_getElem? (i := 1941) (by decide +kernel), List.mem_of_getElem? (i := 1942) (by decide +kernel)⟩
theorem lw_p103 : lw_okq (⟨"SnoringWellsModel", "hour", "()V"⟩, 29) := ⟨⟨by decide +kernel, by decide +kernel⟩, List.mem_of_getElem? (i := 1553) (by decide +kernel), List.mem_of_getElem? (i := 1949) (by decide +kernel), List.mem_of_getElem? (i := 1950) (by decide +kernel)⟩
theorem lw_p104 : lw_okq (⟨"SnoringWellsModel", "dreams", "(II)V"⟩, 29) := ⟨⟨by decide +kernel, by decide +kernel⟩, List.mem_of_getElem? (i := 1553) (by decide +kernel), List.mem_of_getElem? (i := 1954) (by decide +kernel), List.mem_of_getElem? (i := 1955) (by decide +kernel)⟩
theorem lw_p105 : lw_okq (⟨"SnoringWellsModel", "trayFault", "(I)I"⟩, 29) := ⟨⟨by decide +kernel, by decide +kernel⟩, List.mem_of_getElem? (i := 1553) (by decide +kernel), List.mem_of_getElem? (i := 1967) (by decide +kernel), List.mem_of_getElem? (i := 1968) (by decide +kernel)⟩
theorem lw_p106 : lw_okq (⟨"SnoringWellsModel", "putsAside", "()V"⟩, 29) := ⟨⟨by decide +kernel, by decide +kernel⟩, List.mem_of_getElem? (i := 1553) (by decide +kernel), List.mem_of_getElem? (i := 1975) (by decide +kernel), List.mem_of_getElem? (i := 1976) (by decide +kernel)⟩
theorem lw_p107 : lw_okq (⟨"SnoringWellsModel", "whyTold", "(J)I"⟩, 29) := ⟨⟨by decide +kernel, by decide +kernel⟩, List.mem_of_getElem? (i := 1553) (by decide +kernel), List.mem_of_getElem? (i := 1979) (by decide +kernel), List.mem_of_getElem? (i := 1980) (by decide +kernel)⟩
theorem lw_p108 : lw_okq (⟨"SnoringWellsModel", "does", "(I)V"⟩, 29) := ⟨⟨by decide +kernel, by decide +kernel⟩, List.mem_of_getElem? (i := 1553) (by decide +kernel), List.mem_of_getElem? (i := 1991) (by decide +kernel), List.mem_of_getElem? (i := 1992) (by decide +kernel)⟩
theorem lw_p109 : lw_okq (⟨"SnoringWellsModel", "putsBack", "()V"⟩, 29) := ⟨⟨by decide +kernel, by decide +kernel⟩, List.mem_of_getElem? (i := 1553) (by decide +kernel), List.mem_of_getElem? (i := 1995) (by decide +kernel), List.mem_of_getElem? (i := 1996) (by decide +kernel)⟩
theorem lw_p110 : lw_okq (⟨"SnoringWellsModel", "numberOf", "(I)I"⟩, 29) := ⟨⟨by decide +kernel, by decide +kernel⟩, List.mem_of_getElem? (i := 1553) (by decide +kernel), List.mem_of_getElem? (i := 2008) (by decide +kernel), List.mem_of_getElem? (i := 2009) (by decide +kernel)⟩
theorem lw_p111 : lw_okq (⟨"SnoringWellsModel", "jointOf", "()I"⟩, 29) := ⟨⟨by decide +kernel, by decide +kernel⟩, List.mem_of_getElem? (i := 1553) (by decide +kernel), List.mem_of_getElem? (i := 2017) (by decide +kernel), List.mem_of_getElem? (i := 2018) (by decide +kernel)⟩
def lw_privs_7 : List (MethodName × Nat) := [(⟨"SnoringWellsModel", "wake", "(I)I"⟩, 29), (⟨"SnoringWellsModel", "shiftsTo", "(II)V"⟩, 29), (⟨"SnoringWellsModel", "whyLull", "(J)I"⟩, 29), (⟨"SnoringWellsModel", "whyCoin", "(J)I"⟩, 29), (⟨"SnoringWellsModel", "coins", "(I)I"⟩, 29), (⟨"SnoringWellsModel", "thunders", "()I"⟩, 29), (⟨"SnoringWellsModel", "allWells", "()I"⟩, 29), (⟨"SnoringWellsModel", "hour", "()V"⟩, 29), (⟨"SnoringWellsModel", "dreams", "(II)V"⟩, 29), (⟨"SnoringWellsModel", "trayFault", "(I)I"⟩, 29), (⟨"SnoringWellsModel", "putsAside", "()V"⟩, 29), (⟨"SnoringWellsModel", "whyTold", "(J)I"⟩, 29), (⟨"SnoringWellsModel", "does", "(I)V"⟩, 29), (⟨"SnoringWellsModel", "putsBack", "()V"⟩, 29), (⟨"SnoringWellsModel", "numberOf", "(I)I"⟩, 29), (⟨"SnoringWellsModel", "jointOf", "()I"⟩, 29)]
theorem lw_r7 : ∀ q ∈ lw_privs_7, lw_okq q := List.forall_mem_cons.mpr ⟨lw_p96, List.forall_mem_cons.mpr ⟨lw_p97, List.forall_mem_cons.mpr ⟨lw_p98, List.forall_mem_cons.mpr ⟨lw_p99, List.forall_mem_cons.mpr ⟨lw_p100, List.forall_mem_cons.mpr ⟨lw_p101, List.forall_mem_cons.mpr ⟨lw_p102, List.forall_mem_cons.mpr ⟨lw_p103, List.forall_mem_cons.mpr ⟨lw_p104, List.forall_mem_cons.mpr ⟨lw_p105, List.forall_mem_cons.mpr ⟨lw_p106, List.forall_mem_cons.mpr ⟨lw_p107, List.forall_mem_cons.mpr ⟨lw_p108, List.forall_mem_cons.mpr ⟨lw_p109, List.forall_mem_cons.mpr ⟨lw_p110, List.forall_mem_cons.mpr ⟨lw_p111, fun _ h => absurd h List.not_mem_nil⟩⟩⟩⟩⟩⟩⟩⟩⟩⟩⟩⟩⟩⟩⟩⟩
theorem lw_p112 : lw_okq (⟨"SnoringWellsModel", "isQuiet", "(II)Z"⟩, 29) := ⟨⟨by decide +kernel, by decide +kernel⟩, List.mem_of_getElem? (i := 1553) (by decide +kernel), List.mem_of_getElem? (i := 2059) (by decide +kernel), List.mem_of_getElem? (i := 2060) (by decide +kernel)⟩
theorem lw_p113 : lw_okq (⟨"SnoringWellsModel", "wakersOf", "(II)I"⟩, 29) := ⟨⟨by decide +kernel, by decide +kernel⟩, List.mem_of_getElem? (i := 1553) (by decide +kernel), List.mem_of_getElem? (i := 2067) (by decide +kernel), List.mem_of_getElem? (i := 2068) (by decide +kernel)⟩
theorem lw_p114 : lw_okq (⟨"SnoringWellsModel", "areWoken", "(II)Z"⟩, 29) := ⟨⟨by decide +kernel, by decide +kernel⟩, List.mem_of_getElem? (i := 1553) (by decide +kernel), List.mem_of_getElem? (i := 2090) (by decide +kernel), List.mem_of_getElem? (i := 2091) (by decide +kernel)⟩
theorem lw_p115 : lw_okq (⟨"SnoringWellsModel", "reachedBy", "(I)I"⟩, 29) := ⟨⟨by decide +kernel, by decide +kernel⟩, List.mem_of_getElem? (i := 1553) (by decide +kernel), List.mem_of_getElem? (i := 2098) (by decide +kernel), List.mem_of_getElem? (i := 2099) (by decide +kernel)⟩
theorem lw_p116 : lw_okq (⟨"SnoringWellsModel", "laysQuiet", "()V"⟩, 29) := ⟨⟨by decide +kernel, by decide +kernel⟩, List.mem_of_getElem? (i := 1553) (by decide +kernel), List.mem_of_getElem? (i := 2110) (by decide +kernel), List.mem_of_getElem? (i := 2111) (by decide +kernel)⟩
theorem lw_p117 : lw_okq (⟨"SnoringWellsModel", "quietFor", "(I)I"⟩, 29) := ⟨⟨by decide +kernel, by decide +kernel⟩, List.mem_of_getElem? (i := 1553) (by decide +kernel), List.mem_of_getElem? (i := 2114) (by decide +kernel), List.mem_of_getElem? (i := 2115) (by decide +kernel)⟩
theorem lw_p118 : lw_okq (⟨"SnoringWellsModel", "laysPlan", "()I"⟩, 29) := ⟨⟨by decide +kernel, by decide +kernel⟩, List.mem_of_getElem? (i := 1553) (by decide +kernel), List.mem_of_getElem? (i := 2128) (by decide +kernel), List.mem_of_getElem? (i := 2129) (by decide +kernel)⟩
theorem lw_p119 : lw_okq (⟨"SnoringWellsModel", "servedBy", "(I)I"⟩, 29) := ⟨⟨by decide +kernel, by decide +kernel⟩, List.mem_of_getElem? (i := 1553) (by decide +kernel), List.mem_of_getElem? (i := 2132) (by decide +kernel), List.mem_of_getElem? (i := 2133) (by decide +kernel)⟩
theorem lw_p120 : lw_okq (⟨"SnoringWellsModel", "finds", "(II)Z"⟩, 29) := ⟨⟨by decide +kernel, by decide +kernel⟩, List.mem_of_getElem? (i := 1553) (by decide +kernel), List.mem_of_getElem? (i := 2136) (by decide +kernel), List.mem_of_getElem? (i := 2137) (by decide +kernel)⟩
theorem lw_p121 : lw_okq (⟨"SnoringWellsModel", "seenFault", "(I)I"⟩, 29) := ⟨⟨by decide +kernel, by decide +kernel⟩, List.mem_of_getElem? (i := 1553) (by decide +kernel), List.mem_of_getElem? (i := 2169) (by decide +kernel), List.mem_of_getElem? (i := 2170) (by decide +kernel)⟩
theorem lw_p122 : lw_okq (⟨"SnoringWellsModel", "fitting", "(III)I"⟩, 29) := ⟨⟨by decide +kernel, by decide +kernel⟩, List.mem_of_getElem? (i := 1553) (by decide +kernel), List.mem_of_getElem? (i := 2174) (by decide +kernel), List.mem_of_getElem? (i := 2175) (by decide +kernel)⟩
theorem lw_p123 : lw_okq (⟨"SnoringWellsModel", "fitsSeen", "(IIII)Z"⟩, 29) := ⟨⟨by decide +kernel, by decide +kernel⟩, List.mem_of_getElem? (i := 1553) (by decide +kernel), List.mem_of_getElem? (i := 2178) (by decide +kernel), List.mem_of_getElem? (i := 2179) (by decide +kernel)⟩
theorem lw_p124 : lw_okq (⟨"SnoringWellsModel", "cut", "(IIJ)J"⟩, 29) := ⟨⟨by decide +kernel, by decide +kernel⟩, List.mem_of_getElem? (i := 1553) (by decide +kernel), List.mem_of_getElem? (i := 2205) (by decide +kernel), List.mem_of_getElem? (i := 2206) (by decide +kernel)⟩
theorem lw_p125 : lw_okq (⟨"SnoringWellsModel", "pairs", "()I"⟩, 29) := ⟨⟨by decide +kernel, by decide +kernel⟩, List.mem_of_getElem? (i := 1553) (by decide +kernel), List.mem_of_getElem? (i := 2226) (by decide +kernel), List.mem_of_getElem? (i := 2227) (by decide +kernel)⟩
def lw_privs_8 : List (MethodName × Nat) := [(⟨"SnoringWellsModel", "isQuiet", "(II)Z"⟩, 29), (⟨"SnoringWellsModel", "wakersOf", "(II)I"⟩, 29), (⟨"SnoringWellsModel", "areWoken", "(II)Z"⟩, 29), (⟨"SnoringWellsModel", "reachedBy", "(I)I"⟩, 29), (⟨"SnoringWellsModel", "laysQuiet", "()V"⟩, 29), (⟨"SnoringWellsModel", "quietFor", "(I)I"⟩, 29), (⟨"SnoringWellsModel", "laysPlan", "()I"⟩, 29), (⟨"SnoringWellsModel", "servedBy", "(I)I"⟩, 29), (⟨"SnoringWellsModel", "finds", "(II)Z"⟩, 29), (⟨"SnoringWellsModel", "seenFault", "(I)I"⟩, 29), (⟨"SnoringWellsModel", "fitting", "(III)I"⟩, 29), (⟨"SnoringWellsModel", "fitsSeen", "(IIII)Z"⟩, 29), (⟨"SnoringWellsModel", "cut", "(IIJ)J"⟩, 29), (⟨"SnoringWellsModel", "pairs", "()I"⟩, 29)]
theorem lw_r8 : ∀ q ∈ lw_privs_8, lw_okq q := List.forall_mem_cons.mpr ⟨lw_p112, List.forall_mem_cons.mpr ⟨lw_p113, List.forall_mem_cons.mpr ⟨lw_p114, List.forall_mem_cons.mpr ⟨lw_p115, List.forall_mem_cons.mpr ⟨lw_p116, List.forall_mem_cons.mpr ⟨lw_p117, List.forall_mem_cons.mpr ⟨lw_p118, List.forall_mem_cons.mpr ⟨lw_p119, List.forall_mem_cons.mpr ⟨lw_p120, List.forall_mem_cons.mpr ⟨lw_p121, List.forall_mem_cons.mpr ⟨lw_p122, List.forall_mem_cons.mpr ⟨lw_p123, List.forall_mem_cons.mpr ⟨lw_p124, List.forall_mem_cons.mpr ⟨lw_p125, fun _ h => absurd h List.not_mem_nil⟩⟩⟩⟩⟩⟩⟩⟩⟩⟩⟩⟩⟩⟩
def lw_privs : List (MethodName × Nat) := lw_privs_1 ++ (lw_privs_2 ++ (lw_privs_3 ++ (lw_privs_4 ++ (lw_privs_5 ++ (lw_privs_6 ++ (lw_privs_7 ++ (lw_privs_8)))))))
def lw_tbl : List Cond := k2_sels lw_privs ++ tables_1
theorem lw_privs_ok : ∀ q ∈ lw_privs, lw_okq q := by
  show ∀ q ∈ lw_privs_1 ++ (lw_privs_2 ++ (lw_privs_3 ++ (lw_privs_4 ++ (lw_privs_5 ++ (lw_privs_6 ++ (lw_privs_7 ++ (lw_privs_8))))))), lw_okq q
  exact List.forall_mem_append.mpr ⟨lw_r1, List.forall_mem_append.mpr ⟨lw_r2, List.forall_mem_append.mpr ⟨lw_r3, List.forall_mem_append.mpr ⟨lw_r4, List.forall_mem_append.mpr ⟨lw_r5, List.forall_mem_append.mpr ⟨lw_r6, List.forall_mem_append.mpr ⟨lw_r7, lw_r8⟩⟩⟩⟩⟩⟩⟩
end
section
-- names, printed by the task: classes, fields, methods
def RX0 : String := "SnoringWells$Deeds"
def TX0 : u_T := fun k => match k with
  | _ => ("SnoringWells$Deeds", "noise", "LSnoringWells$Noise;", true)
def tyX0 : Nat → FieldType := fun k => match k with
  | _ => .object "SnoringWells$Noise"
abbrev wsX00 : List Cond := u_ws RX0 TX0 1
theorem nmX0 : ∀ a, a < 1 → ∀ b, b < 1 → a ≠ b → (TX0 a).2.1 ≠ (TX0 b).2.1 := by decide +kernel
theorem tyX0_ok : ∀ k, k < 1 → parseFieldDescriptor (TX0 k).2.2.1 = some (tyX0 k) := by decide +kernel
abbrev cX0_init : ByteArray := prog_2_method_1_code
def yX0_init : MethodName := ⟨RX0, "<init>", "(LSnoringWells$Noise;)V"⟩
abbrev cX0_whyNotDraw : ByteArray := prog_2_method_2_code
def yX0_whyNotDraw : MethodName := ⟨RX0, "whyNotDraw", "(LSnoringWells$Land;II)I"⟩
abbrev cX0_whyNotLull : ByteArray := prog_2_method_3_code
def yX0_whyNotLull : MethodName := ⟨RX0, "whyNotLull", "(LSnoringWells$Land;I)I"⟩
abbrev cX0_whyNotCoin : ByteArray := prog_2_method_4_code
def yX0_whyNotCoin : MethodName := ⟨RX0, "whyNotCoin", "(LSnoringWells$Land;I)I"⟩
abbrev cX0_whyNotTold : ByteArray := prog_2_method_5_code
def yX0_whyNotTold : MethodName := ⟨RX0, "whyNotTold", "(LSnoringWells$Land;J)I"⟩
abbrev cX0_carryOut : ByteArray := prog_2_method_6_code
def yX0_carryOut : MethodName := ⟨RX0, "carryOut", "(LSnoringWells$Land;J)V"⟩
abbrev cX0_drawFrom : ByteArray := prog_2_method_7_code
def yX0_drawFrom : MethodName := ⟨RX0, "drawFrom", "(LSnoringWells$Land;II)I"⟩
abbrev cX0_coinInto : ByteArray := prog_2_method_8_code
def yX0_coinInto : MethodName := ⟨RX0, "coinInto", "(LSnoringWells$Land;I)I"⟩
abbrev cX0_thunderOver : ByteArray := prog_2_method_9_code
def yX0_thunderOver : MethodName := ⟨RX0, "thunderOver", "(LSnoringWells$Land;)I"⟩
abbrev cX0_rouse : ByteArray := prog_2_method_10_code
def yX0_rouse : MethodName := ⟨RX0, "rouse", "(LSnoringWells$Land;I)V"⟩
def RX1 : String := "SnoringWells$Hills"
def TX1 : u_T := fun k => match k with
  | 0 => ("SnoringWells$Hills", "lines", "I", false)
  | 1 => ("SnoringWells$Hills", "wells", "I", false)
  | 2 => ("SnoringWells$Hills", "houses", "I", false)
  | 3 => ("SnoringWells$Hills", "firstHour", "I", false)
  | 4 => ("SnoringWells$Hills", "law", "[I", false)
  | 5 => ("SnoringWells$Hills", "round", "[I", true)
  | 6 => ("SnoringWells$Hills", "up", "[I", true)
  | 7 => ("SnoringWells$Hills", "shift", "[I", true)
  | 8 => ("SnoringWells$Hills", "deep", "[I", true)
  | 9 => ("SnoringWells$Hills", "toldWater", "[I", true)
  | 10 => ("SnoringWells$Hills", "beside", "[I", true)
  | 11 => ("SnoringWells$Hills", "need", "[I", true)
  | _ => ("SnoringWells$Hills", "from", "[I", true)
def tyX1 : Nat → FieldType := fun k => match k with
  | 0 => .int
  | 1 => .int
  | 2 => .int
  | 3 => .int
  | 4 => .array .int
  | 5 => .array .int
  | 6 => .array .int
  | 7 => .array .int
  | 8 => .array .int
  | 9 => .array .int
  | 10 => .array .int
  | 11 => .array .int
  | _ => .array .int
abbrev wsX10 : List Cond := u_ws RX1 TX1 13
theorem nmX1 : ∀ a, a < 13 → ∀ b, b < 13 → a ≠ b → (TX1 a).2.1 ≠ (TX1 b).2.1 := by decide +kernel
theorem tyX1_ok : ∀ k, k < 13 → parseFieldDescriptor (TX1 k).2.2.1 = some (tyX1 k) := by decide +kernel
abbrev cX1_init : ByteArray := prog_3_method_1_code
def yX1_init : MethodName := ⟨RX1, "<init>", "()V"⟩
abbrev cX1_hasWell : ByteArray := prog_3_method_2_code
def yX1_hasWell : MethodName := ⟨RX1, "hasWell", "(I)Z"⟩
abbrev cX1_hasHouse : ByteArray := prog_3_method_3_code
def yX1_hasHouse : MethodName := ⟨RX1, "hasHouse", "(I)Z"⟩
abbrev cX1_allWells : ByteArray := prog_3_method_4_code
def yX1_allWells : MethodName := ⟨RX1, "allWells", "()I"⟩
abbrev cX1_roundOf : ByteArray := prog_3_method_5_code
def yX1_roundOf : MethodName := ⟨RX1, "roundOf", "(I)I"⟩
abbrev cX1_upOf : ByteArray := prog_3_method_6_code
def yX1_upOf : MethodName := ⟨RX1, "upOf", "(I)I"⟩
abbrev cX1_toldShiftOf : ByteArray := prog_3_method_7_code
def yX1_toldShiftOf : MethodName := ⟨RX1, "toldShiftOf", "(I)I"⟩
abbrev cX1_deepOf : ByteArray := prog_3_method_8_code
def yX1_deepOf : MethodName := ⟨RX1, "deepOf", "(I)I"⟩
abbrev cX1_toldWaterOf : ByteArray := prog_3_method_9_code
def yX1_toldWaterOf : MethodName := ⟨RX1, "toldWaterOf", "(I)I"⟩
abbrev cX1_besideOf : ByteArray := prog_3_method_10_code
def yX1_besideOf : MethodName := ⟨RX1, "besideOf", "(I)I"⟩
abbrev cX1_needOf : ByteArray := prog_3_method_11_code
def yX1_needOf : MethodName := ⟨RX1, "needOf", "(I)I"⟩
abbrev cX1_fromOf : ByteArray := prog_3_method_12_code
def yX1_fromOf : MethodName := ⟨RX1, "fromOf", "(I)I"⟩
abbrev cX1_everSleeps : ByteArray := prog_3_method_13_code
def yX1_everSleeps : MethodName := ⟨RX1, "everSleeps", "(I)Z"⟩
abbrev cX1_pairs : ByteArray := prog_3_method_14_code
def yX1_pairs : MethodName := ⟨RX1, "pairs", "()I"⟩
abbrev cX1_addWell : ByteArray := prog_3_method_15_code
def yX1_addWell : MethodName := ⟨RX1, "addWell", "(IIIII)V"⟩
abbrev cX1_joinWells : ByteArray := prog_3_method_16_code
def yX1_joinWells : MethodName := ⟨RX1, "joinWells", "(II)V"⟩
abbrev cX1_addHouse : ByteArray := prog_3_method_17_code
def yX1_addHouse : MethodName := ⟨RX1, "addHouse", "(II)V"⟩
def RX2 : String := "SnoringWells$Land"
def TX2 : u_T := fun k => match k with
  | 0 => ("SnoringWells$Land", "hills", "LSnoringWells$Hills;", false)
  | 1 => ("SnoringWells$Land", "hour", "I", false)
  | 2 => ("SnoringWells$Land", "sour", "I", false)
  | 3 => ("SnoringWells$Land", "shift", "[I", true)
  | _ => ("SnoringWells$Land", "water", "[I", true)
def tyX2 : Nat → FieldType := fun k => match k with
  | 0 => .object "SnoringWells$Hills"
  | 1 => .int
  | 2 => .int
  | 3 => .array .int
  | _ => .array .int
abbrev wsX20 : List Cond := u_ws RX2 TX2 5
theorem nmX2 : ∀ a, a < 5 → ∀ b, b < 5 → a ≠ b → (TX2 a).2.1 ≠ (TX2 b).2.1 := by decide +kernel
theorem tyX2_ok : ∀ k, k < 5 → parseFieldDescriptor (TX2 k).2.2.1 = some (tyX2 k) := by decide +kernel
abbrev cX2_init : ByteArray := prog_4_method_1_code
def yX2_init : MethodName := ⟨RX2, "<init>", "(LSnoringWells$Hills;)V"⟩
abbrev cX2_beginWith : ByteArray := prog_4_method_2_code
def yX2_beginWith : MethodName := ⟨RX2, "beginWith", "(LSnoringWells$Hills;)V"⟩
abbrev cX2_become : ByteArray := prog_4_method_3_code
def yX2_become : MethodName := ⟨RX2, "become", "(LSnoringWells$Land;)V"⟩
abbrev cX2_shiftOf : ByteArray := prog_4_method_4_code
def yX2_shiftOf : MethodName := ⟨RX2, "shiftOf", "(I)I"⟩
abbrev cX2_waterOf : ByteArray := prog_4_method_5_code
def yX2_waterOf : MethodName := ⟨RX2, "waterOf", "(I)I"⟩
abbrev cX2_phaseOf : ByteArray := prog_4_method_6_code
def yX2_phaseOf : MethodName := ⟨RX2, "phaseOf", "(I)I"⟩
abbrev cX2_isAwakeIn : ByteArray := prog_4_method_7_code
def yX2_isAwakeIn : MethodName := ⟨RX2, "isAwakeIn", "(II)Z"⟩
abbrev cX2_isAwake : ByteArray := prog_4_method_8_code
def yX2_isAwake : MethodName := ⟨RX2, "isAwake", "(I)Z"⟩
abbrev cX2_isSour : ByteArray := prog_4_method_9_code
def yX2_isSour : MethodName := ⟨RX2, "isSour", "(I)Z"⟩
abbrev cX2_awakeBits : ByteArray := prog_4_method_10_code
def yX2_awakeBits : MethodName := ⟨RX2, "awakeBits", "()I"⟩
abbrev cX2_asleepBits : ByteArray := prog_4_method_11_code
def yX2_asleepBits : MethodName := ⟨RX2, "asleepBits", "()I"⟩
abbrev cX2_allWater : ByteArray := prog_4_method_12_code
def yX2_allWater : MethodName := ⟨RX2, "allWater", "()I"⟩
abbrev cX2_wakeUp : ByteArray := prog_4_method_13_code
def yX2_wakeUp : MethodName := ⟨RX2, "wakeUp", "(I)V"⟩
abbrev cX2_putToSleep : ByteArray := prog_4_method_14_code
def yX2_putToSleep : MethodName := ⟨RX2, "putToSleep", "(I)V"⟩
abbrev cX2_turnTo : ByteArray := prog_4_method_15_code
def yX2_turnTo : MethodName := ⟨RX2, "turnTo", "(II)V"⟩
abbrev cX2_pourOut : ByteArray := prog_4_method_16_code
def yX2_pourOut : MethodName := ⟨RX2, "pourOut", "(II)V"⟩
abbrev cX2_passHour : ByteArray := prog_4_method_17_code
def yX2_passHour : MethodName := ⟨RX2, "passHour", "()V"⟩
abbrev cX2_dreamLevel : ByteArray := prog_4_method_18_code
def yX2_dreamLevel : MethodName := ⟨RX2, "dreamLevel", "(II)V"⟩
abbrev cX2_pass : ByteArray := prog_4_method_19_code
def yX2_pass : MethodName := ⟨RX2, "pass", "(II)V"⟩
def RX3 : String := "SnoringWells$Lots"
def TX3 : u_T := fun k => match k with
  | _ => ("SnoringWells$Lots", "x", "I", false)
def tyX3 : Nat → FieldType := fun k => match k with
  | _ => .int
abbrev wsX30 : List Cond := u_ws RX3 TX3 1
theorem nmX3 : ∀ a, a < 1 → ∀ b, b < 1 → a ≠ b → (TX3 a).2.1 ≠ (TX3 b).2.1 := by decide +kernel
theorem tyX3_ok : ∀ k, k < 1 → parseFieldDescriptor (TX3 k).2.2.1 = some (tyX3 k) := by decide +kernel
abbrev cX3_init : ByteArray := prog_5_method_1_code
def yX3_init : MethodName := ⟨RX3, "<init>", "(I)V"⟩
abbrev cX3_next : ByteArray := prog_5_method_2_code
def yX3_next : MethodName := ⟨RX3, "next", "()I"⟩
abbrev cX3_nextDeed : ByteArray := prog_5_method_3_code
def yX3_nextDeed : MethodName := ⟨RX3, "nextDeed", "(I)I"⟩
def RX4 : String := "SnoringWells$Noise"
def TX4 : u_T := fun k => match k with
  | 0 => ("SnoringWells$Noise", "land", "LSnoringWells$Land;", false)
  | 1 => ("SnoringWells$Noise", "asleep", "I", false)
  | 2 => ("SnoringWells$Noise", "yawned", "[I", true)
  | 3 => ("SnoringWells$Noise", "reach", "[I", true)
  | 4 => ("SnoringWells$Noise", "names", "[I", true)
  | _ => ("SnoringWells$Noise", "stack", "[I", true)
def tyX4 : Nat → FieldType := fun k => match k with
  | 0 => .object "SnoringWells$Land"
  | 1 => .int
  | 2 => .array .int
  | 3 => .array .int
  | 4 => .array .int
  | _ => .array .int
abbrev wsX40 : List Cond := u_ws RX4 TX4 6
theorem nmX4 : ∀ a, a < 6 → ∀ b, b < 6 → a ≠ b → (TX4 a).2.1 ≠ (TX4 b).2.1 := by decide +kernel
theorem tyX4_ok : ∀ k, k < 6 → parseFieldDescriptor (TX4 k).2.2.1 = some (tyX4 k) := by decide +kernel
abbrev cX4_init : ByteArray := prog_6_method_1_code
def yX4_init : MethodName := ⟨RX4, "<init>", "(LSnoringWells$Land;)V"⟩
abbrev cX4_lookAt : ByteArray := prog_6_method_2_code
def yX4_lookAt : MethodName := ⟨RX4, "lookAt", "(LSnoringWells$Land;)V"⟩
abbrev cX4_over : ByteArray := prog_6_method_3_code
def yX4_over : MethodName := ⟨RX4, "over", "(LSnoringWells$Land;)V"⟩
abbrev cX4_wokenAtOnce : ByteArray := prog_6_method_4_code
def yX4_wokenAtOnce : MethodName := ⟨RX4, "wokenAtOnce", "(II)I"⟩
abbrev cX4_wokenBy : ByteArray := prog_6_method_5_code
def yX4_wokenBy : MethodName := ⟨RX4, "wokenBy", "(II)I"⟩
abbrev cX4_yawnsTill : ByteArray := prog_6_method_6_code
def yX4_yawnsTill : MethodName := ⟨RX4, "yawnsTill", "(III)I"⟩
abbrev cX4_awakeOnesThatWake : ByteArray := prog_6_method_7_code
def yX4_awakeOnesThatWake : MethodName := ⟨RX4, "awakeOnesThatWake", "(II)I"⟩
abbrev cX4_leastShield : ByteArray := prog_6_method_8_code
def yX4_leastShield : MethodName := ⟨RX4, "leastShield", "(III)I"⟩
abbrev cX4_leastChorus : ByteArray := prog_6_method_9_code
def yX4_leastChorus : MethodName := ⟨RX4, "leastChorus", "(I)I"⟩
abbrev cX4_isFewer : ByteArray := prog_6_method_10_code
def yX4_isFewer : MethodName := ⟨RX4, "isFewer", "(II)Z"⟩
abbrev cX4_reachOf : ByteArray := prog_6_method_11_code
def yX4_reachOf : MethodName := ⟨RX4, "reachOf", "(I)I"⟩
abbrev cX4_spread : ByteArray := prog_6_method_12_code
def yX4_spread : MethodName := ⟨RX4, "spread", "(II)I"⟩
abbrev cX4_wokenByYawns : ByteArray := prog_6_method_13_code
def yX4_wokenByYawns : MethodName := ⟨RX4, "wokenByYawns", "(I)I"⟩
abbrev cX4_lawHolds : ByteArray := prog_6_method_14_code
def yX4_lawHolds : MethodName := ⟨RX4, "lawHolds", "(III)Z"⟩
abbrev cX4_valueOf : ByteArray := prog_6_method_15_code
def yX4_valueOf : MethodName := ⟨RX4, "valueOf", "(I)I"⟩
abbrev cX4_joinTwo : ByteArray := prog_6_method_16_code
def yX4_joinTwo : MethodName := ⟨RX4, "joinTwo", "(IJJ)I"⟩
def RX5 : String := "SnoringWells$Page"
def TX5 : u_T := fun k => match k with
  | 0 => ("SnoringWells$Page", "now", "LSnoringWells$Land;", true)
  | 1 => ("SnoringWells$Page", "made", "Z", false)
  | 2 => ("SnoringWells$Page", "remembered", "I", false)
  | 3 => ("SnoringWells$Page", "eldest", "I", false)
  | _ => ("SnoringWells$Page", "past", "[LSnoringWells$Land;", true)
def tyX5 : Nat → FieldType := fun k => match k with
  | 0 => .object "SnoringWells$Land"
  | 1 => .boolean
  | 2 => .int
  | 3 => .int
  | _ => .array (.object "SnoringWells$Land")
abbrev wsX50 : List Cond := u_ws RX5 TX5 5
theorem nmX5 : ∀ a, a < 5 → ∀ b, b < 5 → a ≠ b → (TX5 a).2.1 ≠ (TX5 b).2.1 := by decide +kernel
theorem tyX5_ok : ∀ k, k < 5 → parseFieldDescriptor (TX5 k).2.2.1 = some (tyX5 k) := by decide +kernel
abbrev cX5_init : ByteArray := prog_7_method_1_code
def yX5_init : MethodName := ⟨RX5, "<init>", "(LSnoringWells$Hills;)V"⟩
abbrev cX5_beginWith : ByteArray := prog_7_method_2_code
def yX5_beginWith : MethodName := ⟨RX5, "beginWith", "(LSnoringWells$Hills;)V"⟩
abbrev cX5_become : ByteArray := prog_7_method_3_code
def yX5_become : MethodName := ⟨RX5, "become", "(LSnoringWells$Page;)V"⟩
abbrev cX5_remember : ByteArray := prog_7_method_4_code
def yX5_remember : MethodName := ⟨RX5, "remember", "()V"⟩
abbrev cX5_goBack : ByteArray := prog_7_method_5_code
def yX5_goBack : MethodName := ⟨RX5, "goBack", "(I)V"⟩
abbrev cX5_slot : ByteArray := prog_7_method_6_code
def yX5_slot : MethodName := ⟨RX5, "slot", "(I)I"⟩
def RX6 : String := "SnoringWells$Plans"
def TX6 : u_T := fun k => match k with
  | 0 => ("SnoringWells$Plans", "noise", "LSnoringWells$Noise;", true)
  | 1 => ("SnoringWells$Plans", "ahead", "LSnoringWells$Land;", true)
  | 2 => ("SnoringWells$Plans", "quiet", "[J", true)
  | _ => ("SnoringWells$Plans", "shared", "[J", true)
def tyX6 : Nat → FieldType := fun k => match k with
  | 0 => .object "SnoringWells$Noise"
  | 1 => .object "SnoringWells$Land"
  | 2 => .array .long
  | _ => .array .long
abbrev wsX60 : List Cond := u_ws RX6 TX6 4
theorem nmX6 : ∀ a, a < 4 → ∀ b, b < 4 → a ≠ b → (TX6 a).2.1 ≠ (TX6 b).2.1 := by decide +kernel
theorem tyX6_ok : ∀ k, k < 4 → parseFieldDescriptor (TX6 k).2.2.1 = some (tyX6 k) := by decide +kernel
abbrev cX6_init : ByteArray := prog_8_method_1_code
def yX6_init : MethodName := ⟨RX6, "<init>", "(LSnoringWells$Noise;LSnoringWells$Land;)V"⟩
abbrev cX6_lookAhead : ByteArray := prog_8_method_2_code
def yX6_lookAhead : MethodName := ⟨RX6, "lookAhead", "(LSnoringWells$Land;)V"⟩
abbrev cX6_quietWellNow : ByteArray := prog_8_method_3_code
def yX6_quietWellNow : MethodName := ⟨RX6, "quietWellNow", "(I)I"⟩
abbrev cX6_hoursOf : ByteArray := prog_8_method_4_code
def yX6_hoursOf : MethodName := ⟨RX6, "hoursOf", "(I)J"⟩
abbrev cX6_mostServed : ByteArray := prog_8_method_5_code
def yX6_mostServed : MethodName := ⟨RX6, "mostServed", "(I)I"⟩
abbrev cX6_soonestEnd : ByteArray := prog_8_method_6_code
def yX6_soonestEnd : MethodName := ⟨RX6, "soonestEnd", "()I"⟩
abbrev cX6_hourInPlan : ByteArray := prog_8_method_7_code
def yX6_hourInPlan : MethodName := ⟨RX6, "hourInPlan", "(II)I"⟩
abbrev cX6_firstHourFor : ByteArray := prog_8_method_8_code
def yX6_firstHourFor : MethodName := ⟨RX6, "firstHourFor", "(IJ)I"⟩
abbrev cX6_lacking : ByteArray := prog_8_method_9_code
def yX6_lacking : MethodName := ⟨RX6, "lacking", "(JI)I"⟩
abbrev cX6_hoursTill : ByteArray := prog_8_method_10_code
def yX6_hoursTill : MethodName := ⟨RX6, "hoursTill", "(I)J"⟩
def RX7 : String := "SnoringWells$Reader"
def TX7 : u_T := fun k => match k with
  | 0 => ("SnoringWells$Reader", "taped", "I", false)
  | 1 => ("SnoringWells$Reader", "faultKind", "I", false)
  | 2 => ("SnoringWells$Reader", "faultPlace", "I", false)
  | 3 => ("SnoringWells$Reader", "draft", "LSnoringWells$Hills;", false)
  | 4 => ("SnoringWells$Reader", "tape", "[B", true)
  | 5 => ("SnoringWells$Reader", "length", "I", false)
  | 6 => ("SnoringWells$Reader", "start", "I", false)
  | 7 => ("SnoringWells$Reader", "end", "I", false)
  | 8 => ("SnoringWells$Reader", "kind", "I", false)
  | 9 => ("SnoringWells$Reader", "number", "I", false)
  | 10 => ("SnoringWells$Reader", "value", "I", false)
  | 11 => ("SnoringWells$Reader", "code", "[I", true)
  | _ => ("SnoringWells$Reader", "coded", "I", false)
def tyX7 : Nat → FieldType := fun k => match k with
  | 0 => .int
  | 1 => .int
  | 2 => .int
  | 3 => .object "SnoringWells$Hills"
  | 4 => .array .byte
  | 5 => .int
  | 6 => .int
  | 7 => .int
  | 8 => .int
  | 9 => .int
  | 10 => .int
  | 11 => .array .int
  | _ => .int
abbrev wsX70 : List Cond := u_ws RX7 TX7 13
theorem nmX7 : ∀ a, a < 13 → ∀ b, b < 13 → a ≠ b → (TX7 a).2.1 ≠ (TX7 b).2.1 := by decide +kernel
theorem tyX7_ok : ∀ k, k < 13 → parseFieldDescriptor (TX7 k).2.2.1 = some (tyX7 k) := by decide +kernel
abbrev cX7_init : ByteArray := prog_9_method_1_code
def yX7_init : MethodName := ⟨RX7, "<init>", "(LSnoringWells$Hills;)V"⟩
abbrev cX7_append : ByteArray := prog_9_method_2_code
def yX7_append : MethodName := ⟨RX7, "append", "(I)V"⟩
abbrev cX7_readText : ByteArray := prog_9_method_3_code
def yX7_readText : MethodName := ⟨RX7, "readText", "(I)Z"⟩
abbrev cX7_readLine : ByteArray := prog_9_method_4_code
def yX7_readLine : MethodName := ⟨RX7, "readLine", "()Z"⟩
abbrev cX7_readWell : ByteArray := prog_9_method_5_code
def yX7_readWell : MethodName := ⟨RX7, "readWell", "()Z"⟩
abbrev cX7_readChoice : ByteArray := prog_9_method_6_code
def yX7_readChoice : MethodName := ⟨RX7, "readChoice", "(Ljava/lang/String;III)Z"⟩
abbrev cX7_readBeside : ByteArray := prog_9_method_7_code
def yX7_readBeside : MethodName := ⟨RX7, "readBeside", "()Z"⟩
abbrev cX7_readHouse : ByteArray := prog_9_method_8_code
def yX7_readHouse : MethodName := ⟨RX7, "readHouse", "()Z"⟩
abbrev cX7_readHour : ByteArray := prog_9_method_9_code
def yX7_readHour : MethodName := ⟨RX7, "readHour", "()Z"⟩
abbrev cX7_readLaw : ByteArray := prog_9_method_10_code
def yX7_readLaw : MethodName := ⟨RX7, "readLaw", "()Z"⟩
abbrev cX7_readTruth : ByteArray := prog_9_method_11_code
def yX7_readTruth : MethodName := ⟨RX7, "readTruth", "(I)Z"⟩
abbrev cX7_readBoth : ByteArray := prog_9_method_12_code
def yX7_readBoth : MethodName := ⟨RX7, "readBoth", "(I)Z"⟩
abbrev cX7_readUnit : ByteArray := prog_9_method_13_code
def yX7_readUnit : MethodName := ⟨RX7, "readUnit", "(I)Z"⟩
abbrev cX7_readSum : ByteArray := prog_9_method_14_code
def yX7_readSum : MethodName := ⟨RX7, "readSum", "(I)Z"⟩
abbrev cX7_readTerm : ByteArray := prog_9_method_15_code
def yX7_readTerm : MethodName := ⟨RX7, "readTerm", "(I)Z"⟩
abbrev cX7_readAtom : ByteArray := prog_9_method_16_code
def yX7_readAtom : MethodName := ⟨RX7, "readAtom", "(I)Z"⟩
abbrev cX7_mayNest : ByteArray := prog_9_method_17_code
def yX7_mayNest : MethodName := ⟨RX7, "mayNest", "(I)Z"⟩
abbrev cX7_comparisonHere : ByteArray := prog_9_method_18_code
def yX7_comparisonHere : MethodName := ⟨RX7, "comparisonHere", "()I"⟩
abbrev cX7_nameHere : ByteArray := prog_9_method_19_code
def yX7_nameHere : MethodName := ⟨RX7, "nameHere", "()I"⟩
abbrev cX7_emit : ByteArray := prog_9_method_20_code
def yX7_emit : MethodName := ⟨RX7, "emit", "(I)V"⟩
abbrev cX7_expectWord : ByteArray := prog_9_method_21_code
def yX7_expectWord : MethodName := ⟨RX7, "expectWord", "(Ljava/lang/String;)Z"⟩
abbrev cX7_expectSign : ByteArray := prog_9_method_22_code
def yX7_expectSign : MethodName := ⟨RX7, "expectSign", "(C)Z"⟩
abbrev cX7_expectNumber : ByteArray := prog_9_method_23_code
def yX7_expectNumber : MethodName := ⟨RX7, "expectNumber", "(II)Z"⟩
abbrev cX7_expectToldWell : ByteArray := prog_9_method_24_code
def yX7_expectToldWell : MethodName := ⟨RX7, "expectToldWell", "(I)Z"⟩
abbrev cX7_isWord : ByteArray := prog_9_method_25_code
def yX7_isWord : MethodName := ⟨RX7, "isWord", "(Ljava/lang/String;)Z"⟩
abbrev cX7_isSign : ByteArray := prog_9_method_26_code
def yX7_isSign : MethodName := ⟨RX7, "isSign", "(C)Z"⟩
abbrev cX7_refuse : ByteArray := prog_9_method_27_code
def yX7_refuse : MethodName := ⟨RX7, "refuse", "(I)Z"⟩
abbrev cX7_advance : ByteArray := prog_9_method_28_code
def yX7_advance : MethodName := ⟨RX7, "advance", "()Z"⟩
abbrev cX7_byteAt : ByteArray := prog_9_method_29_code
def yX7_byteAt : MethodName := ⟨RX7, "byteAt", "(I)I"⟩
abbrev cX7_isBlank : ByteArray := prog_9_method_30_code
def yX7_isBlank : MethodName := ⟨RX7, "isBlank", "(I)Z"⟩
abbrev cX7_kindOf : ByteArray := prog_9_method_31_code
def yX7_kindOf : MethodName := ⟨RX7, "kindOf", "(I)I"⟩
def RX8 : String := "SnoringWells$Rounds"
def TX8 : u_T := fun k => match k with
  | 0 => ("SnoringWells$Rounds", "common", "[I", true)
  | 1 => ("SnoringWells$Rounds", "sevens", "[I", true)
  | 2 => ("SnoringWells$Rounds", "elevens", "[I", true)
  | 3 => ("SnoringWells$Rounds", "commonPeriod", "I", false)
  | 4 => ("SnoringWells$Rounds", "sevensPeriod", "I", false)
  | _ => ("SnoringWells$Rounds", "elevensPeriod", "I", false)
def tyX8 : Nat → FieldType := fun k => match k with
  | 0 => .array .int
  | 1 => .array .int
  | 2 => .array .int
  | 3 => .int
  | 4 => .int
  | _ => .int
abbrev wsX80 : List Cond := u_ws RX8 TX8 6
theorem nmX8 : ∀ a, a < 6 → ∀ b, b < 6 → a ≠ b → (TX8 a).2.1 ≠ (TX8 b).2.1 := by decide +kernel
theorem tyX8_ok : ∀ k, k < 6 → parseFieldDescriptor (TX8 k).2.2.1 = some (tyX8 k) := by decide +kernel
abbrev cX8_init : ByteArray := prog_10_method_1_code
def yX8_init : MethodName := ⟨RX8, "<init>", "()V"⟩
abbrev cX8_over : ByteArray := prog_10_method_2_code
def yX8_over : MethodName := ⟨RX8, "over", "(LSnoringWells$Land;I)V"⟩
abbrev cX8_joined : ByteArray := prog_10_method_3_code
def yX8_joined : MethodName := ⟨RX8, "joined", "()I"⟩
abbrev cX8_firstWith : ByteArray := prog_10_method_4_code
def yX8_firstWith : MethodName := ⟨RX8, "firstWith", "(I)I"⟩
abbrev cX8_hoursWith : ByteArray := prog_10_method_5_code
def yX8_hoursWith : MethodName := ⟨RX8, "hoursWith", "(I)I"⟩
abbrev cX8_fewest : ByteArray := prog_10_method_6_code
def yX8_fewest : MethodName := ⟨RX8, "fewest", "()I"⟩
abbrev cX8_widen : ByteArray := prog_10_method_7_code
def yX8_widen : MethodName := ⟨RX8, "widen", "(I)V"⟩
abbrev cX8_addWell : ByteArray := prog_10_method_8_code
def yX8_addWell : MethodName := ⟨RX8, "addWell", "(LSnoringWells$Land;I)V"⟩
abbrev cX8_addTo : ByteArray := prog_10_method_9_code
def yX8_addTo : MethodName := ⟨RX8, "addTo", "([IILSnoringWells$Land;I)V"⟩
abbrev cX8_awakeIn : ByteArray := prog_10_method_10_code
def yX8_awakeIn : MethodName := ⟨RX8, "awakeIn", "(I)I"⟩
abbrev cX8_turn : ByteArray := prog_10_method_11_code
def yX8_turn : MethodName := ⟨RX8, "turn", "([III)I"⟩
abbrev cX8_clear : ByteArray := prog_10_method_12_code
def yX8_clear : MethodName := ⟨RX8, "clear", "([I)V"⟩
abbrev cX8_leastCommon : ByteArray := prog_10_method_13_code
def yX8_leastCommon : MethodName := ⟨RX8, "leastCommon", "(II)I"⟩
def RX9 : String := "SnoringWells$Snores"
def TX9 : u_T := fun k => match k with
  | 0 => ("SnoringWells$Snores", "heardFor", "I", false)
  | 1 => ("SnoringWells$Snores", "heard", "I", false)
  | 2 => ("SnoringWells$Snores", "heardAwake", "I", false)
  | 3 => ("SnoringWells$Snores", "found", "I", false)
  | _ => ("SnoringWells$Snores", "fitting", "[I", true)
def tyX9 : Nat → FieldType := fun k => match k with
  | 0 => .int
  | 1 => .int
  | 2 => .int
  | 3 => .int
  | _ => .array .int
abbrev wsX90 : List Cond := u_ws RX9 TX9 5
theorem nmX9 : ∀ a, a < 5 → ∀ b, b < 5 → a ≠ b → (TX9 a).2.1 ≠ (TX9 b).2.1 := by decide +kernel
theorem tyX9_ok : ∀ k, k < 5 → parseFieldDescriptor (TX9 k).2.2.1 = some (tyX9 k) := by decide +kernel
abbrev cX9_init : ByteArray := prog_11_method_1_code
def yX9_init : MethodName := ⟨RX9, "<init>", "()V"⟩
abbrev cX9_canBeHeard : ByteArray := prog_11_method_2_code
def yX9_canBeHeard : MethodName := ⟨RX9, "canBeHeard", "(LSnoringWells$Tray;)Z"⟩
abbrev cX9_hear : ByteArray := prog_11_method_3_code
def yX9_hear : MethodName := ⟨RX9, "hear", "(LSnoringWells$Tray;)V"⟩
abbrev cX9_fits : ByteArray := prog_11_method_4_code
def yX9_fits : MethodName := ⟨RX9, "fits", "(III)Z"⟩
abbrev cX9_howManyFit : ByteArray := prog_11_method_5_code
def yX9_howManyFit : MethodName := ⟨RX9, "howManyFit", "()I"⟩
abbrev cX9_fitAt : ByteArray := prog_11_method_6_code
def yX9_fitAt : MethodName := ⟨RX9, "fitAt", "(I)I"⟩
abbrev cX9_tellsMost : ByteArray := prog_11_method_7_code
def yX9_tellsMost : MethodName := ⟨RX9, "tellsMost", "()I"⟩
abbrev cX9_awakeAmongFitting : ByteArray := prog_11_method_8_code
def yX9_awakeAmongFitting : MethodName := ⟨RX9, "awakeAmongFitting", "(I)I"⟩
abbrev cX9_findFitting : ByteArray := prog_11_method_9_code
def yX9_findFitting : MethodName := ⟨RX9, "findFitting", "()V"⟩
abbrev cX9_isAwakeAt : ByteArray := prog_11_method_10_code
def yX9_isAwakeAt : MethodName := ⟨RX9, "isAwakeAt", "(IIII)Z"⟩
def RX10 : String := "SnoringWells$Tray"
def TX10 : u_T := fun k => match k with
  | 0 => ("SnoringWells$Tray", "present", "Z", false)
  | 1 => ("SnoringWells$Tray", "many", "I", false)
  | 2 => ("SnoringWells$Tray", "sort", "I", false)
  | _ => ("SnoringWells$Tray", "row", "[J", true)
def tyX10 : Nat → FieldType := fun k => match k with
  | 0 => .boolean
  | 1 => .int
  | 2 => .int
  | _ => .array .long
abbrev wsX100 : List Cond := u_ws RX10 TX10 4
theorem nmX10 : ∀ a, a < 4 → ∀ b, b < 4 → a ≠ b → (TX10 a).2.1 ≠ (TX10 b).2.1 := by decide +kernel
theorem tyX10_ok : ∀ k, k < 4 → parseFieldDescriptor (TX10 k).2.2.1 = some (tyX10 k) := by decide +kernel
abbrev cX10_init : ByteArray := prog_12_method_1_code
def yX10_init : MethodName := ⟨RX10, "<init>", "()V"⟩
abbrev cX10_layOut : ByteArray := prog_12_method_2_code
def yX10_layOut : MethodName := ⟨RX10, "layOut", "(II)V"⟩
abbrev cX10_numberAt : ByteArray := prog_12_method_3_code
def yX10_numberAt : MethodName := ⟨RX10, "numberAt", "(I)J"⟩
abbrev cX10_put : ByteArray := prog_12_method_4_code
def yX10_put : MethodName := ⟨RX10, "put", "(IJ)V"⟩
abbrev cX10_cut : ByteArray := prog_12_method_5_code
def yX10_cut : MethodName := ⟨RX10, "cut", "(J)J"⟩
def RX11 : String := "SnoringWells"
def TX11 : u_T := fun k => match k with
  | 0 => ("SnoringWells", "page", "LSnoringWells$Page;", true)
  | 1 => ("SnoringWells", "images", "[LSnoringWells$Page;", true)
  | 2 => ("SnoringWells", "trays", "[LSnoringWells$Tray;", true)
  | 3 => ("SnoringWells", "ahead", "LSnoringWells$Land;", true)
  | 4 => ("SnoringWells", "reader", "LSnoringWells$Reader;", true)
  | 5 => ("SnoringWells", "noise", "LSnoringWells$Noise;", true)
  | 6 => ("SnoringWells", "deeds", "LSnoringWells$Deeds;", true)
  | 7 => ("SnoringWells", "rounds", "LSnoringWells$Rounds;", true)
  | 8 => ("SnoringWells", "plans", "LSnoringWells$Plans;", true)
  | _ => ("SnoringWells", "snores", "LSnoringWells$Snores;", true)
def tyX11 : Nat → FieldType := fun k => match k with
  | 0 => .object "SnoringWells$Page"
  | 1 => .array (.object "SnoringWells$Page")
  | 2 => .array (.object "SnoringWells$Tray")
  | 3 => .object "SnoringWells$Land"
  | 4 => .object "SnoringWells$Reader"
  | 5 => .object "SnoringWells$Noise"
  | 6 => .object "SnoringWells$Deeds"
  | 7 => .object "SnoringWells$Rounds"
  | 8 => .object "SnoringWells$Plans"
  | _ => .object "SnoringWells$Snores"
abbrev wsX110 : List Cond := u_ws RX11 TX11 10
theorem nmX11 : ∀ a, a < 10 → ∀ b, b < 10 → a ≠ b → (TX11 a).2.1 ≠ (TX11 b).2.1 := by decide +kernel
theorem tyX11_ok : ∀ k, k < 10 → parseFieldDescriptor (TX11 k).2.2.1 = some (tyX11 k) := by decide +kernel
abbrev cX11_init : ByteArray := prog_1_method_1_code
def yX11_init : MethodName := ⟨RX11, "<init>", "()V"⟩
abbrev cX11_feed : ByteArray := prog_1_method_2_code
def yX11_feed : MethodName := ⟨RX11, "feed", "(IIIII)I"⟩
abbrev cX11_hills : ByteArray := prog_1_method_3_code
def yX11_hills : MethodName := ⟨RX11, "hills", "(I)I"⟩
abbrev cX11_fault : ByteArray := prog_1_method_4_code
def yX11_fault : MethodName := ⟨RX11, "fault", "(I)I"⟩
abbrev cX11_well : ByteArray := prog_1_method_5_code
def yX11_well : MethodName := ⟨RX11, "well", "(II)I"⟩
abbrev cX11_house : ByteArray := prog_1_method_6_code
def yX11_house : MethodName := ⟨RX11, "house", "(II)I"⟩
abbrev cX11_awake : ByteArray := prog_1_method_7_code
def yX11_awake : MethodName := ⟨RX11, "awake", "()I"⟩
abbrev cX11_water : ByteArray := prog_1_method_8_code
def yX11_water : MethodName := ⟨RX11, "water", "()I"⟩
abbrev cX11_draw : ByteArray := prog_1_method_9_code
def yX11_draw : MethodName := ⟨RX11, "draw", "(II)I"⟩
abbrev cX11_lull : ByteArray := prog_1_method_10_code
def yX11_lull : MethodName := ⟨RX11, "lull", "(I)I"⟩
abbrev cX11_coin : ByteArray := prog_1_method_11_code
def yX11_coin : MethodName := ⟨RX11, "coin", "(I)I"⟩
abbrev cX11_thunder : ByteArray := prog_1_method_12_code
def yX11_thunder : MethodName := ⟨RX11, "thunder", "()I"⟩
abbrev cX11_hours : ByteArray := prog_1_method_13_code
def yX11_hours : MethodName := ⟨RX11, "hours", "(I)I"⟩
abbrev cX11_undo : ByteArray := prog_1_method_14_code
def yX11_undo : MethodName := ⟨RX11, "undo", "(I)I"⟩
abbrev cX11_judge : ByteArray := prog_1_method_15_code
def yX11_judge : MethodName := ⟨RX11, "judge", "(II)I"⟩
abbrev cX11_perform : ByteArray := prog_1_method_16_code
def yX11_perform : MethodName := ⟨RX11, "perform", "(I)I"⟩
abbrev cX11_year : ByteArray := prog_1_method_17_code
def yX11_year : MethodName := ⟨RX11, "year", "(II)I"⟩
abbrev cX11_joint : ByteArray := prog_1_method_18_code
def yX11_joint : MethodName := ⟨RX11, "joint", "()I"⟩
abbrev cX11_together : ByteArray := prog_1_method_19_code
def yX11_together : MethodName := ⟨RX11, "together", "(IZ)I"⟩
abbrev cX11_wakesIn : ByteArray := prog_1_method_20_code
def yX11_wakesIn : MethodName := ⟨RX11, "wakesIn", "(I)I"⟩
abbrev cX11_stays : ByteArray := prog_1_method_21_code
def yX11_stays : MethodName := ⟨RX11, "stays", "(I)I"⟩
abbrev cX11_withAwake : ByteArray := prog_1_method_22_code
def yX11_withAwake : MethodName := ⟨RX11, "withAwake", "(I)I"⟩
abbrev cX11_stillest : ByteArray := prog_1_method_23_code
def yX11_stillest : MethodName := ⟨RX11, "stillest", "(I)I"⟩
abbrev cX11_chain : ByteArray := prog_1_method_24_code
def yX11_chain : MethodName := ⟨RX11, "chain", "(II)I"⟩
abbrev cX11_wakes : ByteArray := prog_1_method_25_code
def yX11_wakes : MethodName := ⟨RX11, "wakes", "(III)Z"⟩
abbrev cX11_quietest : ByteArray := prog_1_method_26_code
def yX11_quietest : MethodName := ⟨RX11, "quietest", "(I)I"⟩
abbrev cX11_wakers : ByteArray := prog_1_method_27_code
def yX11_wakers : MethodName := ⟨RX11, "wakers", "(II)I"⟩
abbrev cX11_leastNoise : ByteArray := prog_1_method_28_code
def yX11_leastNoise : MethodName := ⟨RX11, "leastNoise", "(II)I"⟩
abbrev cX11_shield : ByteArray := prog_1_method_29_code
def yX11_shield : MethodName := ⟨RX11, "shield", "(IIII)I"⟩
abbrev cX11_loudest : ByteArray := prog_1_method_30_code
def yX11_loudest : MethodName := ⟨RX11, "loudest", "(I)I"⟩
abbrev cX11_chorus : ByteArray := prog_1_method_31_code
def yX11_chorus : MethodName := ⟨RX11, "chorus", "(II)I"⟩
abbrev cX11_yawns : ByteArray := prog_1_method_32_code
def yX11_yawns : MethodName := ⟨RX11, "yawns", "(III)I"⟩
abbrev cX11_loudHour : ByteArray := prog_1_method_33_code
def yX11_loudHour : MethodName := ⟨RX11, "loudHour", "(II)I"⟩
abbrev cX11_quietHours : ByteArray := prog_1_method_34_code
def yX11_quietHours : MethodName := ⟨RX11, "quietHours", "(I)J"⟩
abbrev cX11_quietWell : ByteArray := prog_1_method_35_code
def yX11_quietWell : MethodName := ⟨RX11, "quietWell", "(II)I"⟩
abbrev cX11_plan : ByteArray := prog_1_method_36_code
def yX11_plan : MethodName := ⟨RX11, "plan", "(I)I"⟩
abbrev cX11_served : ByteArray := prog_1_method_37_code
def yX11_served : MethodName := ⟨RX11, "served", "(I)I"⟩
abbrev cX11_dry : ByteArray := prog_1_method_38_code
def yX11_dry : MethodName := ⟨RX11, "dry", "()I"⟩
abbrev cX11_waterIn : ByteArray := prog_1_method_39_code
def yX11_waterIn : MethodName := ⟨RX11, "waterIn", "(II)I"⟩
abbrev cX11_hasIn : ByteArray := prog_1_method_40_code
def yX11_hasIn : MethodName := ⟨RX11, "hasIn", "(II)I"⟩
abbrev cX11_fullest : ByteArray := prog_1_method_41_code
def yX11_fullest : MethodName := ⟨RX11, "fullest", "()I"⟩
abbrev cX11_level : ByteArray := prog_1_method_42_code
def yX11_level : MethodName := ⟨RX11, "level", "(II)I"⟩
abbrev cX11_seen : ByteArray := prog_1_method_43_code
def yX11_seen : MethodName := ⟨RX11, "seen", "(I)I"⟩
abbrev cX11_roundAt : ByteArray := prog_1_method_44_code
def yX11_roundAt : MethodName := ⟨RX11, "roundAt", "(II)I"⟩
abbrev cX11_listen : ByteArray := prog_1_method_45_code
def yX11_listen : MethodName := ⟨RX11, "listen", "(I)I"⟩
abbrev cX11_whose : ByteArray := prog_1_method_46_code
def yX11_whose : MethodName := ⟨RX11, "whose", "(I)I"⟩
abbrev cX11_tray : ByteArray := prog_1_method_47_code
def yX11_tray : MethodName := ⟨RX11, "tray", "(III)V"⟩
abbrev cX11_write : ByteArray := prog_1_method_48_code
def yX11_write : MethodName := ⟨RX11, "write", "(IIJ)J"⟩
abbrev cX11_copy : ByteArray := prog_1_method_49_code
def yX11_copy : MethodName := ⟨RX11, "copy", "(II)I"⟩
abbrev cX11_image : ByteArray := prog_1_method_50_code
def yX11_image : MethodName := ⟨RX11, "image", "(I)V"⟩
abbrev cX11_restore : ByteArray := prog_1_method_51_code
def yX11_restore : MethodName := ⟨RX11, "restore", "(I)V"⟩
abbrev cX11_count : ByteArray := prog_1_method_52_code
def yX11_count : MethodName := ⟨RX11, "count", "(I)I"⟩
abbrev cX11_carryOutIfCan : ByteArray := prog_1_method_53_code
def yX11_carryOutIfCan : MethodName := ⟨RX11, "carryOutIfCan", "(J)Z"⟩
abbrev cX11_lookAhead : ByteArray := prog_1_method_54_code
def yX11_lookAhead : MethodName := ⟨RX11, "lookAhead", "(I)V"⟩
abbrev cX11_needWell : ByteArray := prog_1_method_55_code
def yX11_needWell : MethodName := ⟨RX11, "needWell", "(I)V"⟩
abbrev cX11_needHouse : ByteArray := prog_1_method_56_code
def yX11_needHouse : MethodName := ⟨RX11, "needHouse", "(I)V"⟩
abbrev cX11_needSet : ByteArray := prog_1_method_57_code
def yX11_needSet : MethodName := ⟨RX11, "needSet", "(I)V"⟩
abbrev cX11_needBeside : ByteArray := prog_1_method_58_code
def yX11_needBeside : MethodName := ⟨RX11, "needBeside", "(II)V"⟩
abbrev cX11_needUnlike : ByteArray := prog_1_method_59_code
def yX11_needUnlike : MethodName := ⟨RX11, "needUnlike", "(II)V"⟩
abbrev cX11_needNoise : ByteArray := prog_1_method_60_code
def yX11_needNoise : MethodName := ⟨RX11, "needNoise", "(I)V"⟩
abbrev cX11_needWithin : ByteArray := prog_1_method_61_code
def yX11_needWithin : MethodName := ⟨RX11, "needWithin", "(III)V"⟩
abbrev cX11_anyTray : ByteArray := prog_1_method_62_code
def yX11_anyTray : MethodName := ⟨RX11, "anyTray", "(I)LSnoringWells$Tray;"⟩
abbrev cX11_presentTray : ByteArray := prog_1_method_63_code
def yX11_presentTray : MethodName := ⟨RX11, "presentTray", "(I)LSnoringWells$Tray;"⟩
abbrev cX11_heardTray : ByteArray := prog_1_method_64_code
def yX11_heardTray : MethodName := ⟨RX11, "heardTray", "(I)LSnoringWells$Tray;"⟩
abbrev cX11_anyImage : ByteArray := prog_1_method_65_code
def yX11_anyImage : MethodName := ⟨RX11, "anyImage", "(I)LSnoringWells$Page;"⟩
abbrev cX11_has : ByteArray := prog_1_method_66_code
def yX11_has : MethodName := ⟨RX11, "has", "(II)Z"⟩
abbrev cX11_sizeOrSet : ByteArray := prog_1_method_67_code
def yX11_sizeOrSet : MethodName := ⟨RX11, "sizeOrSet", "(II)I"⟩
def RX12 : String := "SnoringWellsModel"
def TX12 : u_T := fun k => match k with
  | 0 => ("SnoringWellsModel", "known", "[I", true)
  | 1 => ("SnoringWellsModel", "telling", "[I", true)
  | 2 => ("SnoringWellsModel", "images", "[I", true)
  | 3 => ("SnoringWellsModel", "isImage", "[Z", true)
  | 4 => ("SnoringWellsModel", "thrown", "I", false)
  | 5 => ("SnoringWellsModel", "tape", "[I", true)
  | 6 => ("SnoringWellsModel", "taped", "I", false)
  | 7 => ("SnoringWellsModel", "length", "I", false)
  | 8 => ("SnoringWellsModel", "head", "I", false)
  | 9 => ("SnoringWellsModel", "begin", "I", false)
  | 10 => ("SnoringWellsModel", "token", "I", false)
  | 11 => ("SnoringWellsModel", "value", "I", false)
  | 12 => ("SnoringWellsModel", "bad", "I", false)
  | 13 => ("SnoringWellsModel", "badPlace", "I", false)
  | 14 => ("SnoringWellsModel", "faultKind", "I", false)
  | 15 => ("SnoringWellsModel", "faultPlace", "I", false)
  | 16 => ("SnoringWellsModel", "deep", "I", false)
  | 17 => ("SnoringWellsModel", "stack", "[I", true)
  | 18 => ("SnoringWellsModel", "aside", "[I", true)
  | 19 => ("SnoringWellsModel", "state", "I", false)
  | 20 => ("SnoringWellsModel", "chains", "[I", true)
  | 21 => ("SnoringWellsModel", "quiet", "[J", true)
  | 22 => ("SnoringWellsModel", "houseIn", "[I", true)
  | 23 => ("SnoringWellsModel", "toldHour", "[I", true)
  | 24 => ("SnoringWellsModel", "visited", "J", false)
  | 25 => ("SnoringWellsModel", "fitAt", "I", false)
  | 26 => ("SnoringWellsModel", "tSort", "[I", true)
  | 27 => ("SnoringWellsModel", "tMany", "[I", true)
  | _ => ("SnoringWellsModel", "numbers", "[J", true)
def tyX12 : Nat → FieldType := fun k => match k with
  | 0 => .array .int
  | 1 => .array .int
  | 2 => .array .int
  | 3 => .array .boolean
  | 4 => .int
  | 5 => .array .int
  | 6 => .int
  | 7 => .int
  | 8 => .int
  | 9 => .int
  | 10 => .int
  | 11 => .int
  | 12 => .int
  | 13 => .int
  | 14 => .int
  | 15 => .int
  | 16 => .int
  | 17 => .array .int
  | 18 => .array .int
  | 19 => .int
  | 20 => .array .int
  | 21 => .array .long
  | 22 => .array .int
  | 23 => .array .int
  | 24 => .long
  | 25 => .int
  | 26 => .array .int
  | 27 => .array .int
  | _ => .array .long
abbrev wsX120 : List Cond := u_ws RX12 TX12 29
theorem nmX12 : ∀ a, a < 29 → ∀ b, b < 29 → a ≠ b → (TX12 a).2.1 ≠ (TX12 b).2.1 := by decide +kernel
theorem tyX12_ok : ∀ k, k < 29 → parseFieldDescriptor (TX12 k).2.2.1 = some (tyX12 k) := by decide +kernel
abbrev cX12_init : ByteArray := prog_14_method_1_code
def yX12_init : MethodName := ⟨RX12, "<init>", "()V"⟩
abbrev cX12_thrown : ByteArray := prog_14_method_2_code
def yX12_thrown : MethodName := ⟨RX12, "thrown", "()I"⟩
abbrev cX12_fails : ByteArray := prog_14_method_3_code
def yX12_fails : MethodName := ⟨RX12, "fails", "(I)I"⟩
abbrev cX12_within : ByteArray := prog_14_method_4_code
def yX12_within : MethodName := ⟨RX12, "within", "(JJJ)Z"⟩
abbrev cX12_has : ByteArray := prog_14_method_5_code
def yX12_has : MethodName := ⟨RX12, "has", "(II)Z"⟩
abbrev cX12_size : ByteArray := prog_14_method_6_code
def yX12_size : MethodName := ⟨RX12, "size", "(I)I"⟩
abbrev cX12_feed : ByteArray := prog_14_method_7_code
def yX12_feed : MethodName := ⟨RX12, "feed", "(IIIII)I"⟩
abbrev cX12_see : ByteArray := prog_14_method_8_code
def yX12_see : MethodName := ⟨RX12, "see", "(I)I"⟩
abbrev cX12_isLetter : ByteArray := prog_14_method_9_code
def yX12_isLetter : MethodName := ⟨RX12, "isLetter", "(I)Z"⟩
abbrev cX12_isDigit : ByteArray := prog_14_method_10_code
def yX12_isDigit : MethodName := ⟨RX12, "isDigit", "(I)Z"⟩
abbrev cX12_isSignByte : ByteArray := prog_14_method_11_code
def yX12_isSignByte : MethodName := ⟨RX12, "isSignByte", "(I)Z"⟩
abbrev cX12_readsOn : ByteArray := prog_14_method_12_code
def yX12_readsOn : MethodName := ⟨RX12, "readsOn", "()V"⟩
abbrev cX12_blames : ByteArray := prog_14_method_13_code
def yX12_blames : MethodName := ⟨RX12, "blames", "(I)V"⟩
abbrev cX12_isWord : ByteArray := prog_14_method_14_code
def yX12_isWord : MethodName := ⟨RX12, "isWord", "(Ljava/lang/String;)Z"⟩
abbrev cX12_took : ByteArray := prog_14_method_15_code
def yX12_took : MethodName := ⟨RX12, "took", "(Ljava/lang/String;)Z"⟩
abbrev cX12_isSign : ByteArray := prog_14_method_16_code
def yX12_isSign : MethodName := ⟨RX12, "isSign", "(I)Z"⟩
abbrev cX12_mustSign : ByteArray := prog_14_method_17_code
def yX12_mustSign : MethodName := ⟨RX12, "mustSign", "(I)V"⟩
abbrev cX12_number : ByteArray := prog_14_method_18_code
def yX12_number : MethodName := ⟨RX12, "number", "(II)I"⟩
abbrev cX12_mustWord : ByteArray := prog_14_method_19_code
def yX12_mustWord : MethodName := ⟨RX12, "mustWord", "(Ljava/lang/String;)V"⟩
abbrev cX12_laysStep : ByteArray := prog_14_method_20_code
def yX12_laysStep : MethodName := ⟨RX12, "laysStep", "(I)V"⟩
abbrev cX12_goesIn : ByteArray := prog_14_method_21_code
def yX12_goesIn : MethodName := ⟨RX12, "goesIn", "()V"⟩
abbrev cX12_readTruth : ByteArray := prog_14_method_22_code
def yX12_readTruth : MethodName := ⟨RX12, "readTruth", "()V"⟩
abbrev cX12_readBoth : ByteArray := prog_14_method_23_code
def yX12_readBoth : MethodName := ⟨RX12, "readBoth", "()V"⟩
abbrev cX12_readUnit : ByteArray := prog_14_method_24_code
def yX12_readUnit : MethodName := ⟨RX12, "readUnit", "()V"⟩
abbrev cX12_readSum : ByteArray := prog_14_method_25_code
def yX12_readSum : MethodName := ⟨RX12, "readSum", "()V"⟩
abbrev cX12_readTerm : ByteArray := prog_14_method_26_code
def yX12_readTerm : MethodName := ⟨RX12, "readTerm", "()V"⟩
abbrev cX12_lawWord : ByteArray := prog_14_method_27_code
def yX12_lawWord : MethodName := ⟨RX12, "lawWord", "()I"⟩
abbrev cX12_readAtom : ByteArray := prog_14_method_28_code
def yX12_readAtom : MethodName := ⟨RX12, "readAtom", "()V"⟩
abbrev cX12_begins : ByteArray := prog_14_method_29_code
def yX12_begins : MethodName := ⟨RX12, "begins", "(II)Z"⟩
abbrev cX12_readWell : ByteArray := prog_14_method_30_code
def yX12_readWell : MethodName := ⟨RX12, "readWell", "()V"⟩
abbrev cX12_wellTold : ByteArray := prog_14_method_31_code
def yX12_wellTold : MethodName := ⟨RX12, "wellTold", "()I"⟩
abbrev cX12_readBeside : ByteArray := prog_14_method_32_code
def yX12_readBeside : MethodName := ⟨RX12, "readBeside", "()V"⟩
abbrev cX12_readHouse : ByteArray := prog_14_method_33_code
def yX12_readHouse : MethodName := ⟨RX12, "readHouse", "()V"⟩
abbrev cX12_readStop : ByteArray := prog_14_method_34_code
def yX12_readStop : MethodName := ⟨RX12, "readStop", "()V"⟩
abbrev cX12_readLine : ByteArray := prog_14_method_35_code
def yX12_readLine : MethodName := ⟨RX12, "readLine", "()V"⟩
abbrev cX12_hills : ByteArray := prog_14_method_36_code
def yX12_hills : MethodName := ⟨RX12, "hills", "(I)I"⟩
abbrev cX12_fault : ByteArray := prog_14_method_37_code
def yX12_fault : MethodName := ⟨RX12, "fault", "(I)I"⟩
abbrev cX12_wells : ByteArray := prog_14_method_38_code
def yX12_wells : MethodName := ⟨RX12, "wells", "()I"⟩
abbrev cX12_allWells : ByteArray := prog_14_method_39_code
def yX12_allWells : MethodName := ⟨RX12, "allWells", "()I"⟩
abbrev cX12_isWell : ByteArray := prog_14_method_40_code
def yX12_isWell : MethodName := ⟨RX12, "isWell", "(J)Z"⟩
abbrev cX12_isHouse : ByteArray := prog_14_method_41_code
def yX12_isHouse : MethodName := ⟨RX12, "isHouse", "(I)Z"⟩
abbrev cX12_phaseIn : ByteArray := prog_14_method_42_code
def yX12_phaseIn : MethodName := ⟨RX12, "phaseIn", "(II)I"⟩
abbrev cX12_isUpIn : ByteArray := prog_14_method_43_code
def yX12_isUpIn : MethodName := ⟨RX12, "isUpIn", "(II)Z"⟩
abbrev cX12_isUp : ByteArray := prog_14_method_44_code
def yX12_isUp : MethodName := ⟨RX12, "isUp", "(I)Z"⟩
abbrev cX12_upIn : ByteArray := prog_14_method_45_code
def yX12_upIn : MethodName := ⟨RX12, "upIn", "(I)I"⟩
abbrev cX12_shiftsTo : ByteArray := prog_14_method_46_code
def yX12_shiftsTo : MethodName := ⟨RX12, "shiftsTo", "(II)V"⟩
abbrev cX12_waterAll : ByteArray := prog_14_method_47_code
def yX12_waterAll : MethodName := ⟨RX12, "waterAll", "()I"⟩
abbrev cX12_bound : ByteArray := prog_14_method_48_code
def yX12_bound : MethodName := ⟨RX12, "bound", "(J)I"⟩
abbrev cX12_done : ByteArray := prog_14_method_49_code
def yX12_done : MethodName := ⟨RX12, "done", "(IJJ)I"⟩
abbrev cX12_wordOf : ByteArray := prog_14_method_50_code
def yX12_wordOf : MethodName := ⟨RX12, "wordOf", "(IIII)I"⟩
abbrev cX12_isWoken : ByteArray := prog_14_method_51_code
def yX12_isWoken : MethodName := ⟨RX12, "isWoken", "(III)Z"⟩
abbrev cX12_wokenBy : ByteArray := prog_14_method_52_code
def yX12_wokenBy : MethodName := ⟨RX12, "wokenBy", "(III)I"⟩
abbrev cX12_chainOf : ByteArray := prog_14_method_53_code
def yX12_chainOf : MethodName := ⟨RX12, "chainOf", "(II)I"⟩
abbrev cX12_wake : ByteArray := prog_14_method_54_code
def yX12_wake : MethodName := ⟨RX12, "wake", "(I)I"⟩
abbrev cX12_hour : ByteArray := prog_14_method_55_code
def yX12_hour : MethodName := ⟨RX12, "hour", "()V"⟩
abbrev cX12_dreams : ByteArray := prog_14_method_56_code
def yX12_dreams : MethodName := ⟨RX12, "dreams", "(II)V"⟩
abbrev cX12_well : ByteArray := prog_14_method_57_code
def yX12_well : MethodName := ⟨RX12, "well", "(II)I"⟩
abbrev cX12_house : ByteArray := prog_14_method_58_code
def yX12_house : MethodName := ⟨RX12, "house", "(II)I"⟩
abbrev cX12_awake : ByteArray := prog_14_method_59_code
def yX12_awake : MethodName := ⟨RX12, "awake", "()I"⟩
abbrev cX12_water : ByteArray := prog_14_method_60_code
def yX12_water : MethodName := ⟨RX12, "water", "()I"⟩
abbrev cX12_keeps : ByteArray := prog_14_method_61_code
def yX12_keeps : MethodName := ⟨RX12, "keeps", "()V"⟩
abbrev cX12_putsAside : ByteArray := prog_14_method_62_code
def yX12_putsAside : MethodName := ⟨RX12, "putsAside", "()V"⟩
abbrev cX12_putsBack : ByteArray := prog_14_method_63_code
def yX12_putsBack : MethodName := ⟨RX12, "putsBack", "()V"⟩
abbrev cX12_whyDraw : ByteArray := prog_14_method_64_code
def yX12_whyDraw : MethodName := ⟨RX12, "whyDraw", "(JJ)I"⟩
abbrev cX12_whyLull : ByteArray := prog_14_method_65_code
def yX12_whyLull : MethodName := ⟨RX12, "whyLull", "(J)I"⟩
abbrev cX12_whyCoin : ByteArray := prog_14_method_66_code
def yX12_whyCoin : MethodName := ⟨RX12, "whyCoin", "(J)I"⟩
abbrev cX12_draws : ByteArray := prog_14_method_67_code
def yX12_draws : MethodName := ⟨RX12, "draws", "(II)I"⟩
abbrev cX12_coins : ByteArray := prog_14_method_68_code
def yX12_coins : MethodName := ⟨RX12, "coins", "(I)I"⟩
abbrev cX12_thunders : ByteArray := prog_14_method_69_code
def yX12_thunders : MethodName := ⟨RX12, "thunders", "()I"⟩
abbrev cX12_draw : ByteArray := prog_14_method_70_code
def yX12_draw : MethodName := ⟨RX12, "draw", "(II)I"⟩
abbrev cX12_lull : ByteArray := prog_14_method_71_code
def yX12_lull : MethodName := ⟨RX12, "lull", "(I)I"⟩
abbrev cX12_coin : ByteArray := prog_14_method_72_code
def yX12_coin : MethodName := ⟨RX12, "coin", "(I)I"⟩
abbrev cX12_thunder : ByteArray := prog_14_method_73_code
def yX12_thunder : MethodName := ⟨RX12, "thunder", "()I"⟩
abbrev cX12_hours : ByteArray := prog_14_method_74_code
def yX12_hours : MethodName := ⟨RX12, "hours", "(I)I"⟩
abbrev cX12_undo : ByteArray := prog_14_method_75_code
def yX12_undo : MethodName := ⟨RX12, "undo", "(I)I"⟩
abbrev cX12_trayFault : ByteArray := prog_14_method_76_code
def yX12_trayFault : MethodName := ⟨RX12, "trayFault", "(I)I"⟩
abbrev cX12_whyTold : ByteArray := prog_14_method_77_code
def yX12_whyTold : MethodName := ⟨RX12, "whyTold", "(J)I"⟩
abbrev cX12_does : ByteArray := prog_14_method_78_code
def yX12_does : MethodName := ⟨RX12, "does", "(I)V"⟩
abbrev cX12_judge : ByteArray := prog_14_method_79_code
def yX12_judge : MethodName := ⟨RX12, "judge", "(II)I"⟩
abbrev cX12_perform : ByteArray := prog_14_method_80_code
def yX12_perform : MethodName := ⟨RX12, "perform", "(I)I"⟩
abbrev cX12_numberOf : ByteArray := prog_14_method_81_code
def yX12_numberOf : MethodName := ⟨RX12, "numberOf", "(I)I"⟩
abbrev cX12_year : ByteArray := prog_14_method_82_code
def yX12_year : MethodName := ⟨RX12, "year", "(II)I"⟩
abbrev cX12_common : ByteArray := prog_14_method_83_code
def yX12_common : MethodName := ⟨RX12, "common", "(II)I"⟩
abbrev cX12_jointOf : ByteArray := prog_14_method_84_code
def yX12_jointOf : MethodName := ⟨RX12, "jointOf", "()I"⟩
abbrev cX12_joint : ByteArray := prog_14_method_85_code
def yX12_joint : MethodName := ⟨RX12, "joint", "()I"⟩
abbrev cX12_together : ByteArray := prog_14_method_86_code
def yX12_together : MethodName := ⟨RX12, "together", "(IZ)I"⟩
abbrev cX12_wakesIn : ByteArray := prog_14_method_87_code
def yX12_wakesIn : MethodName := ⟨RX12, "wakesIn", "(I)I"⟩
abbrev cX12_stays : ByteArray := prog_14_method_88_code
def yX12_stays : MethodName := ⟨RX12, "stays", "(I)I"⟩
abbrev cX12_withAwake : ByteArray := prog_14_method_89_code
def yX12_withAwake : MethodName := ⟨RX12, "withAwake", "(I)I"⟩
abbrev cX12_stillest : ByteArray := prog_14_method_90_code
def yX12_stillest : MethodName := ⟨RX12, "stillest", "(I)I"⟩
abbrev cX12_isNoise : ByteArray := prog_14_method_91_code
def yX12_isNoise : MethodName := ⟨RX12, "isNoise", "(I)Z"⟩
abbrev cX12_chain : ByteArray := prog_14_method_92_code
def yX12_chain : MethodName := ⟨RX12, "chain", "(II)I"⟩
abbrev cX12_wakes : ByteArray := prog_14_method_93_code
def yX12_wakes : MethodName := ⟨RX12, "wakes", "(III)Z"⟩
abbrev cX12_isQuiet : ByteArray := prog_14_method_94_code
def yX12_isQuiet : MethodName := ⟨RX12, "isQuiet", "(II)Z"⟩
abbrev cX12_quietest : ByteArray := prog_14_method_95_code
def yX12_quietest : MethodName := ⟨RX12, "quietest", "(I)I"⟩
abbrev cX12_wakersOf : ByteArray := prog_14_method_96_code
def yX12_wakersOf : MethodName := ⟨RX12, "wakersOf", "(II)I"⟩
abbrev cX12_wakers : ByteArray := prog_14_method_97_code
def yX12_wakers : MethodName := ⟨RX12, "wakers", "(II)I"⟩
abbrev cX12_leastNoise : ByteArray := prog_14_method_98_code
def yX12_leastNoise : MethodName := ⟨RX12, "leastNoise", "(II)I"⟩
abbrev cX12_firstOf : ByteArray := prog_14_method_99_code
def yX12_firstOf : MethodName := ⟨RX12, "firstOf", "(I)I"⟩
abbrev cX12_shield : ByteArray := prog_14_method_100_code
def yX12_shield : MethodName := ⟨RX12, "shield", "(IIII)I"⟩
abbrev cX12_loudest : ByteArray := prog_14_method_101_code
def yX12_loudest : MethodName := ⟨RX12, "loudest", "(I)I"⟩
abbrev cX12_areWoken : ByteArray := prog_14_method_102_code
def yX12_areWoken : MethodName := ⟨RX12, "areWoken", "(II)Z"⟩
abbrev cX12_chorus : ByteArray := prog_14_method_103_code
def yX12_chorus : MethodName := ⟨RX12, "chorus", "(II)I"⟩
abbrev cX12_reachedBy : ByteArray := prog_14_method_104_code
def yX12_reachedBy : MethodName := ⟨RX12, "reachedBy", "(I)I"⟩
abbrev cX12_yawns : ByteArray := prog_14_method_105_code
def yX12_yawns : MethodName := ⟨RX12, "yawns", "(III)I"⟩
abbrev cX12_loudHour : ByteArray := prog_14_method_106_code
def yX12_loudHour : MethodName := ⟨RX12, "loudHour", "(II)I"⟩
abbrev cX12_quietFor : ByteArray := prog_14_method_107_code
def yX12_quietFor : MethodName := ⟨RX12, "quietFor", "(I)I"⟩
abbrev cX12_laysQuiet : ByteArray := prog_14_method_108_code
def yX12_laysQuiet : MethodName := ⟨RX12, "laysQuiet", "()V"⟩
abbrev cX12_quietHours : ByteArray := prog_14_method_109_code
def yX12_quietHours : MethodName := ⟨RX12, "quietHours", "(I)J"⟩
abbrev cX12_quietWell : ByteArray := prog_14_method_110_code
def yX12_quietWell : MethodName := ⟨RX12, "quietWell", "(II)I"⟩
abbrev cX12_finds : ByteArray := prog_14_method_111_code
def yX12_finds : MethodName := ⟨RX12, "finds", "(II)Z"⟩
abbrev cX12_servedBy : ByteArray := prog_14_method_112_code
def yX12_servedBy : MethodName := ⟨RX12, "servedBy", "(I)I"⟩
abbrev cX12_laysPlan : ByteArray := prog_14_method_113_code
def yX12_laysPlan : MethodName := ⟨RX12, "laysPlan", "()I"⟩
abbrev cX12_plan : ByteArray := prog_14_method_114_code
def yX12_plan : MethodName := ⟨RX12, "plan", "(I)I"⟩
abbrev cX12_served : ByteArray := prog_14_method_115_code
def yX12_served : MethodName := ⟨RX12, "served", "(I)I"⟩
abbrev cX12_dry : ByteArray := prog_14_method_116_code
def yX12_dry : MethodName := ⟨RX12, "dry", "()I"⟩
abbrev cX12_waterIn : ByteArray := prog_14_method_117_code
def yX12_waterIn : MethodName := ⟨RX12, "waterIn", "(II)I"⟩
abbrev cX12_hasIn : ByteArray := prog_14_method_118_code
def yX12_hasIn : MethodName := ⟨RX12, "hasIn", "(II)I"⟩
abbrev cX12_fullest : ByteArray := prog_14_method_119_code
def yX12_fullest : MethodName := ⟨RX12, "fullest", "()I"⟩
abbrev cX12_level : ByteArray := prog_14_method_120_code
def yX12_level : MethodName := ⟨RX12, "level", "(II)I"⟩
abbrev cX12_seenFault : ByteArray := prog_14_method_121_code
def yX12_seenFault : MethodName := ⟨RX12, "seenFault", "(I)I"⟩
abbrev cX12_heardIn : ByteArray := prog_14_method_122_code
def yX12_heardIn : MethodName := ⟨RX12, "heardIn", "(IIII)I"⟩
abbrev cX12_fitsSeen : ByteArray := prog_14_method_123_code
def yX12_fitsSeen : MethodName := ⟨RX12, "fitsSeen", "(IIII)Z"⟩
abbrev cX12_fitting : ByteArray := prog_14_method_124_code
def yX12_fitting : MethodName := ⟨RX12, "fitting", "(III)I"⟩
abbrev cX12_seen : ByteArray := prog_14_method_125_code
def yX12_seen : MethodName := ⟨RX12, "seen", "(I)I"⟩
abbrev cX12_roundAt : ByteArray := prog_14_method_126_code
def yX12_roundAt : MethodName := ⟨RX12, "roundAt", "(II)I"⟩
abbrev cX12_listen : ByteArray := prog_14_method_127_code
def yX12_listen : MethodName := ⟨RX12, "listen", "(I)I"⟩
abbrev cX12_whose : ByteArray := prog_14_method_128_code
def yX12_whose : MethodName := ⟨RX12, "whose", "(I)I"⟩
abbrev cX12_isTray : ByteArray := prog_14_method_129_code
def yX12_isTray : MethodName := ⟨RX12, "isTray", "(I)Z"⟩
abbrev cX12_tray : ByteArray := prog_14_method_130_code
def yX12_tray : MethodName := ⟨RX12, "tray", "(III)V"⟩
abbrev cX12_cut : ByteArray := prog_14_method_131_code
def yX12_cut : MethodName := ⟨RX12, "cut", "(IIJ)J"⟩
abbrev cX12_write : ByteArray := prog_14_method_132_code
def yX12_write : MethodName := ⟨RX12, "write", "(IIJ)J"⟩
abbrev cX12_copy : ByteArray := prog_14_method_133_code
def yX12_copy : MethodName := ⟨RX12, "copy", "(II)I"⟩
abbrev cX12_image : ByteArray := prog_14_method_134_code
def yX12_image : MethodName := ⟨RX12, "image", "(I)V"⟩
abbrev cX12_restore : ByteArray := prog_14_method_135_code
def yX12_restore : MethodName := ⟨RX12, "restore", "(I)V"⟩
abbrev cX12_pairs : ByteArray := prog_14_method_136_code
def yX12_pairs : MethodName := ⟨RX12, "pairs", "()I"⟩
abbrev cX12_count : ByteArray := prog_14_method_137_code
def yX12_count : MethodName := ⟨RX12, "count", "(I)I"⟩
def RJx145de : String := "java/io/Serializable"
def TJx145de : u_T := fun k => match k with
  | _ => ("", "", "", false)
def tyJx145de : Nat → FieldType := fun k => match k with
  | _ => .int
abbrev wsJx145de0 : List Cond := u_ws RJx145de TJx145de 0
theorem nmJx145de : ∀ a, a < 0 → ∀ b, b < 0 → a ≠ b → (TJx145de a).2.1 ≠ (TJx145de b).2.1 := by decide +kernel
theorem tyJx145de_ok : ∀ k, k < 0 → parseFieldDescriptor (TJx145de k).2.2.1 = some (tyJx145de k) := by decide +kernel
def RJx9f9b0 : String := "java/lang/CharSequence"
def TJx9f9b0 : u_T := fun k => match k with
  | _ => ("", "", "", false)
def tyJx9f9b0 : Nat → FieldType := fun k => match k with
  | _ => .int
abbrev wsJx9f9b00 : List Cond := u_ws RJx9f9b0 TJx9f9b0 0
theorem nmJx9f9b0 : ∀ a, a < 0 → ∀ b, b < 0 → a ≠ b → (TJx9f9b0 a).2.1 ≠ (TJx9f9b0 b).2.1 := by decide +kernel
theorem tyJx9f9b0_ok : ∀ k, k < 0 → parseFieldDescriptor (TJx9f9b0 k).2.2.1 = some (tyJx9f9b0 k) := by decide +kernel
def RJxb160c : String := "java/lang/Comparable"
def TJxb160c : u_T := fun k => match k with
  | _ => ("", "", "", false)
def tyJxb160c : Nat → FieldType := fun k => match k with
  | _ => .int
abbrev wsJxb160c0 : List Cond := u_ws RJxb160c TJxb160c 0
theorem nmJxb160c : ∀ a, a < 0 → ∀ b, b < 0 → a ≠ b → (TJxb160c a).2.1 ≠ (TJxb160c b).2.1 := by decide +kernel
theorem tyJxb160c_ok : ∀ k, k < 0 → parseFieldDescriptor (TJxb160c k).2.2.1 = some (tyJxb160c k) := by decide +kernel
def RJ6 : String := "java/lang/Integer"
def TJ6 : u_T := fun k => match k with
  | _ => ("", "", "", false)
def tyJ6 : Nat → FieldType := fun k => match k with
  | _ => .int
abbrev wsJ60 : List Cond := u_ws RJ6 TJ6 0
theorem nmJ6 : ∀ a, a < 0 → ∀ b, b < 0 → a ≠ b → (TJ6 a).2.1 ≠ (TJ6 b).2.1 := by decide +kernel
theorem tyJ6_ok : ∀ k, k < 0 → parseFieldDescriptor (TJ6 k).2.2.1 = some (tyJ6 k) := by decide +kernel
abbrev cJ6_numberOfTrailingZeros_0f7a4 : ByteArray := prog_22_method_48_code
def yJ6_numberOfTrailingZeros_0f7a4 : MethodName := ⟨RJ6, "numberOfTrailingZeros", "(I)I"⟩
abbrev cJ6_bitCount_0f7a4 : ByteArray := prog_22_method_49_code
def yJ6_bitCount_0f7a4 : MethodName := ⟨RJ6, "bitCount", "(I)I"⟩
def RJ13 : String := "java/lang/Long"
def TJ13 : u_T := fun k => match k with
  | _ => ("", "", "", false)
def tyJ13 : Nat → FieldType := fun k => match k with
  | _ => .int
abbrev wsJ130 : List Cond := u_ws RJ13 TJ13 0
theorem nmJ13 : ∀ a, a < 0 → ∀ b, b < 0 → a ≠ b → (TJ13 a).2.1 ≠ (TJ13 b).2.1 := by decide +kernel
theorem tyJ13_ok : ∀ k, k < 0 → parseFieldDescriptor (TJ13 k).2.2.1 = some (tyJ13 k) := by decide +kernel
abbrev cJ13_bitCount_95d88 : ByteArray := prog_23_method_50_code
def yJ13_bitCount_95d88 : MethodName := ⟨RJ13, "bitCount", "(J)I"⟩
def RJ9 : String := "java/lang/Math"
def TJ9 : u_T := fun k => match k with
  | _ => ("", "", "", false)
def tyJ9 : Nat → FieldType := fun k => match k with
  | _ => .int
abbrev wsJ90 : List Cond := u_ws RJ9 TJ9 0
theorem nmJ9 : ∀ a, a < 0 → ∀ b, b < 0 → a ≠ b → (TJ9 a).2.1 ≠ (TJ9 b).2.1 := by decide +kernel
theorem tyJ9_ok : ∀ k, k < 0 → parseFieldDescriptor (TJ9 k).2.2.1 = some (tyJ9 k) := by decide +kernel
abbrev cJ9_floorMod_7cf53 : ByteArray := prog_24_method_50_code
def yJ9_floorMod_7cf53 : MethodName := ⟨RJ9, "floorMod", "(II)I"⟩
abbrev cJ9_max_7cf53 : ByteArray := prog_24_method_65_code
def yJ9_max_7cf53 : MethodName := ⟨RJ9, "max", "(II)I"⟩
abbrev cJ9_max_f86c9 : ByteArray := prog_24_method_66_code
def yJ9_max_f86c9 : MethodName := ⟨RJ9, "max", "(JJ)J"⟩
abbrev cJ9_min_7cf53 : ByteArray := prog_24_method_69_code
def yJ9_min_7cf53 : MethodName := ⟨RJ9, "min", "(II)I"⟩
abbrev cJ9_min_f86c9 : ByteArray := prog_24_method_70_code
def yJ9_min_f86c9 : MethodName := ⟨RJ9, "min", "(JJ)J"⟩
def RJ0 : String := "java/lang/String"
def TJ0 : u_T := fun k => match k with
  | _ => ("", "", "", false)
def tyJ0 : Nat → FieldType := fun k => match k with
  | _ => .int
abbrev wsJ00 : List Cond := u_ws RJ0 TJ0 0
theorem nmJ0 : ∀ a, a < 0 → ∀ b, b < 0 → a ≠ b → (TJ0 a).2.1 ≠ (TJ0 b).2.1 := by decide +kernel
theorem tyJ0_ok : ∀ k, k < 0 → parseFieldDescriptor (TJ0 k).2.2.1 = some (tyJ0 k) := by decide +kernel
abbrev cJ0_length_8abf5 : ByteArray := prog_26_method_54_code
def yJ0_length_8abf5 : MethodName := ⟨RJ0, "length", "()I"⟩
abbrev cJ0_charAt_5068e : ByteArray := prog_26_method_56_code
def yJ0_charAt_5068e : MethodName := ⟨RJ0, "charAt", "(I)C"⟩
abbrev cJ0_coder_7d493 : ByteArray := prog_26_method_152_code
def yJ0_coder_7d493 : MethodName := ⟨RJ0, "coder", "()B"⟩
abbrev cJ0_isLatin1_aae02 : ByteArray := prog_26_method_154_code
def yJ0_isLatin1_aae02 : MethodName := ⟨RJ0, "isLatin1", "()Z"⟩
abbrev cJ0_checkIndex_df160 : ByteArray := prog_26_method_155_code
def yJ0_checkIndex_df160 : MethodName := ⟨RJ0, "checkIndex", "(II)V"⟩
def RJ1 : String := "java/lang/StringLatin1"
def TJ1 : u_T := fun k => match k with
  | _ => ("", "", "", false)
def tyJ1 : Nat → FieldType := fun k => match k with
  | _ => .int
abbrev wsJ10 : List Cond := u_ws RJ1 TJ1 0
theorem nmJ1 : ∀ a, a < 0 → ∀ b, b < 0 → a ≠ b → (TJ1 a).2.1 ≠ (TJ1 b).2.1 := by decide +kernel
theorem tyJ1_ok : ∀ k, k < 0 → parseFieldDescriptor (TJ1 k).2.2.1 = some (tyJ1 k) := by decide +kernel
abbrev cJ1_charAt_3b067 : ByteArray := prog_27_method_2_code
def yJ1_charAt_3b067 : MethodName := ⟨RJ1, "charAt", "([BI)C"⟩
def RJ2 : String := "java/lang/StringUTF16"
def TJ2 : u_T := fun k => match k with
  | _ => ("", "", "", false)
def tyJ2 : Nat → FieldType := fun k => match k with
  | _ => .int
abbrev wsJ20 : List Cond := u_ws RJ2 TJ2 0
theorem nmJ2 : ∀ a, a < 0 → ∀ b, b < 0 → a ≠ b → (TJ2 a).2.1 ≠ (TJ2 b).2.1 := by decide +kernel
theorem tyJ2_ok : ∀ k, k < 0 → parseFieldDescriptor (TJ2 k).2.2.1 = some (tyJ2 k) := by decide +kernel
abbrev cJ2_getChar_3b067 : ByteArray := prog_28_method_5_code
def yJ2_getChar_3b067 : MethodName := ⟨RJ2, "getChar", "([BI)C"⟩
abbrev cJ2_length_9d52b : ByteArray := prog_28_method_6_code
def yJ2_length_9d52b : MethodName := ⟨RJ2, "length", "([B)I"⟩
abbrev cJ2_charAt_3b067 : ByteArray := prog_28_method_83_code
def yJ2_charAt_3b067 : MethodName := ⟨RJ2, "charAt", "([BI)C"⟩
abbrev cJ2_checkIndex_2214a : ByteArray := prog_28_method_91_code
def yJ2_checkIndex_2214a : MethodName := ⟨RJ2, "checkIndex", "(I[B)V"⟩
def RJxfd54e : String := "java/lang/constant/Constable"
def TJxfd54e : u_T := fun k => match k with
  | _ => ("", "", "", false)
def tyJxfd54e : Nat → FieldType := fun k => match k with
  | _ => .int
abbrev wsJxfd54e0 : List Cond := u_ws RJxfd54e TJxfd54e 0
theorem nmJxfd54e : ∀ a, a < 0 → ∀ b, b < 0 → a ≠ b → (TJxfd54e a).2.1 ≠ (TJxfd54e b).2.1 := by decide +kernel
theorem tyJxfd54e_ok : ∀ k, k < 0 → parseFieldDescriptor (TJxfd54e k).2.2.1 = some (tyJxfd54e k) := by decide +kernel
def RJx3cf43 : String := "java/lang/constant/ConstantDesc"
def TJx3cf43 : u_T := fun k => match k with
  | _ => ("", "", "", false)
def tyJx3cf43 : Nat → FieldType := fun k => match k with
  | _ => .int
abbrev wsJx3cf430 : List Cond := u_ws RJx3cf43 TJx3cf43 0
theorem nmJx3cf43 : ∀ a, a < 0 → ∀ b, b < 0 → a ≠ b → (TJx3cf43 a).2.1 ≠ (TJx3cf43 b).2.1 := by decide +kernel
theorem tyJx3cf43_ok : ∀ k, k < 0 → parseFieldDescriptor (TJx3cf43 k).2.2.1 = some (tyJx3cf43 k) := by decide +kernel
def RJ3 : String := "jdk/internal/util/Preconditions"
def TJ3 : u_T := fun k => match k with
  | _ => ("", "", "", false)
def tyJ3 : Nat → FieldType := fun k => match k with
  | _ => .int
abbrev wsJ30 : List Cond := u_ws RJ3 TJ3 0
theorem nmJ3 : ∀ a, a < 0 → ∀ b, b < 0 → a ≠ b → (TJ3 a).2.1 ≠ (TJ3 b).2.1 := by decide +kernel
theorem tyJ3_ok : ∀ k, k < 0 → parseFieldDescriptor (TJ3 k).2.2.1 = some (tyJ3 k) := by decide +kernel
abbrev cJ3_checkIndex_8e157 : ByteArray := prog_33_method_11_code
def yJ3_checkIndex_8e157 : MethodName := ⟨RJ3, "checkIndex", "(IILjava/util/function/BiFunction;)I"⟩
def RL : String := "SnoringWellsLaw"
abbrev cL_hills : ByteArray := method_3_code
def yL_hills : MethodName := ⟨RL, "hills", "(LSnoringWells;I[J)I"⟩
abbrev cL_well : ByteArray := method_4_code
def yL_well : MethodName := ⟨RL, "well", "(LSnoringWells;II[J)I"⟩
abbrev cL_house : ByteArray := method_5_code
def yL_house : MethodName := ⟨RL, "house", "(LSnoringWells;II[J)I"⟩
abbrev cL_hours : ByteArray := method_6_code
def yL_hours : MethodName := ⟨RL, "hours", "(LSnoringWells;I[J)I"⟩
abbrev cL_undo : ByteArray := method_7_code
def yL_undo : MethodName := ⟨RL, "undo", "(LSnoringWells;I[J)I"⟩
abbrev cL_judge : ByteArray := method_8_code
def yL_judge : MethodName := ⟨RL, "judge", "(LSnoringWells;II[J)I"⟩
abbrev cL_perform : ByteArray := method_9_code
def yL_perform : MethodName := ⟨RL, "perform", "(LSnoringWells;I[J)I"⟩
abbrev cL_year : ByteArray := method_10_code
def yL_year : MethodName := ⟨RL, "year", "(LSnoringWells;II[J)I"⟩
abbrev cL_together : ByteArray := method_11_code
def yL_together : MethodName := ⟨RL, "together", "(LSnoringWells;IZ[J)I"⟩
abbrev cL_wakesIn : ByteArray := method_12_code
def yL_wakesIn : MethodName := ⟨RL, "wakesIn", "(LSnoringWells;I[J)I"⟩
abbrev cL_stays : ByteArray := method_13_code
def yL_stays : MethodName := ⟨RL, "stays", "(LSnoringWells;I[J)I"⟩
abbrev cL_withAwake : ByteArray := method_14_code
def yL_withAwake : MethodName := ⟨RL, "withAwake", "(LSnoringWells;I[J)I"⟩
abbrev cL_stillest : ByteArray := method_15_code
def yL_stillest : MethodName := ⟨RL, "stillest", "(LSnoringWells;I[J)I"⟩
abbrev cL_chain : ByteArray := method_16_code
def yL_chain : MethodName := ⟨RL, "chain", "(LSnoringWells;II[J)I"⟩
abbrev cL_wakes : ByteArray := method_17_code
def yL_wakes : MethodName := ⟨RL, "wakes", "(LSnoringWells;III[J)I"⟩
abbrev cL_quietest : ByteArray := method_18_code
def yL_quietest : MethodName := ⟨RL, "quietest", "(LSnoringWells;I[J)I"⟩
abbrev cL_wakers : ByteArray := method_19_code
def yL_wakers : MethodName := ⟨RL, "wakers", "(LSnoringWells;II[J)I"⟩
abbrev cL_leastNoise : ByteArray := method_20_code
def yL_leastNoise : MethodName := ⟨RL, "leastNoise", "(LSnoringWells;II[J)I"⟩
abbrev cL_shield : ByteArray := method_21_code
def yL_shield : MethodName := ⟨RL, "shield", "(LSnoringWells;IIII[J)I"⟩
abbrev cL_loudest : ByteArray := method_22_code
def yL_loudest : MethodName := ⟨RL, "loudest", "(LSnoringWells;I[J)I"⟩
abbrev cL_chorus : ByteArray := method_23_code
def yL_chorus : MethodName := ⟨RL, "chorus", "(LSnoringWells;II[J)I"⟩
abbrev cL_yawns : ByteArray := method_24_code
def yL_yawns : MethodName := ⟨RL, "yawns", "(LSnoringWells;III[J)I"⟩
abbrev cL_loudHour : ByteArray := method_25_code
def yL_loudHour : MethodName := ⟨RL, "loudHour", "(LSnoringWells;II[J)I"⟩
abbrev cL_quietHours : ByteArray := method_26_code
def yL_quietHours : MethodName := ⟨RL, "quietHours", "(LSnoringWells;I[J)I"⟩
abbrev cL_quietWell : ByteArray := method_27_code
def yL_quietWell : MethodName := ⟨RL, "quietWell", "(LSnoringWells;II[J)I"⟩
abbrev cL_plan : ByteArray := method_28_code
def yL_plan : MethodName := ⟨RL, "plan", "(LSnoringWells;I[J)I"⟩
abbrev cL_served : ByteArray := method_29_code
def yL_served : MethodName := ⟨RL, "served", "(LSnoringWells;I[J)I"⟩
abbrev cL_waterIn : ByteArray := method_30_code
def yL_waterIn : MethodName := ⟨RL, "waterIn", "(LSnoringWells;II[J)I"⟩
abbrev cL_hasIn : ByteArray := method_31_code
def yL_hasIn : MethodName := ⟨RL, "hasIn", "(LSnoringWells;II[J)I"⟩
abbrev cL_level : ByteArray := method_32_code
def yL_level : MethodName := ⟨RL, "level", "(LSnoringWells;II[J)I"⟩
abbrev cL_seen : ByteArray := method_33_code
def yL_seen : MethodName := ⟨RL, "seen", "(LSnoringWells;I[J)I"⟩
abbrev cL_roundAt : ByteArray := method_34_code
def yL_roundAt : MethodName := ⟨RL, "roundAt", "(LSnoringWells;II[J)I"⟩
abbrev cL_listen : ByteArray := method_35_code
def yL_listen : MethodName := ⟨RL, "listen", "(LSnoringWells;I[J)I"⟩
abbrev cL_whose : ByteArray := method_36_code
def yL_whose : MethodName := ⟨RL, "whose", "(LSnoringWells;I[J)I"⟩
abbrev cL_tray : ByteArray := method_37_code
def yL_tray : MethodName := ⟨RL, "tray", "(LSnoringWells;III)I"⟩
abbrev cL_write : ByteArray := method_38_code
def yL_write : MethodName := ⟨RL, "write", "(LSnoringWells;IIJ[J)I"⟩
abbrev cL_copy : ByteArray := method_39_code
def yL_copy : MethodName := ⟨RL, "copy", "(LSnoringWells;II[J)I"⟩
abbrev cL_image : ByteArray := method_40_code
def yL_image : MethodName := ⟨RL, "image", "(LSnoringWells;I)I"⟩
abbrev cL_restore : ByteArray := method_41_code
def yL_restore : MethodName := ⟨RL, "restore", "(LSnoringWells;I)I"⟩
abbrev cL_law : ByteArray := code
def yL_law : MethodName := ⟨RL, "law", "([I)Z"⟩
/-- the classes whose objects the worlds hold -/
abbrev classes : List vw_C := [(RX0, TX0, 1), (RX1, TX1, 13), (RX2, TX2, 5), (RX3, TX3, 1), (RX4, TX4, 6), (RX5, TX5, 5), (RX6, TX6, 4), (RX7, TX7, 13), (RX8, TX8, 6), (RX9, TX9, 5), (RX10, TX10, 4), (RX11, TX11, 10), (RX12, TX12, 29)]
end
section
/-! THE X LAYER: one world for the whole run: the cells from b on, N of them, f j the j-th; rows of the machine over it -/
def gT : List Cond := lw_tbl.filter goodWord
theorem gT_at {w : Cond} (i : Nat) (h : lw_tbl[i]? = some w) (hg : goodWord w = true) : w ∈ gT := List.mem_filter.mpr ⟨List.mem_of_getElem? h, hg⟩
theorem gT_good {w : Cond} (h : w ∈ gT) : (w.onTables && w.keeps) = true ∨ ∃ ty, w = .arrayClass ty := good_of_word (List.mem_filter.mp h).2
theorem gT_sub (ws : List Cond) (ps : List Nat) (hp : ws = ps.filterMap (fun i => lw_tbl[i]?)) (h : ws.all goodWord = true) : ∀ w ∈ ws, w ∈ gT := by
  intro w hw
  have h1 := List.all_eq_true.mp h w hw
  rw [hp] at hw
  obtain ⟨i, -, hi⟩ := List.mem_filterMap.mp hw
  exact gT_at i hi h1
def xws (y : MethodName) (cc : ByteArray) (n : Nat) (r : Option FieldType) : List Cond := .code y cc n r :: gT
theorem xws_in {y : MethodName} {cc : ByteArray} {n : Nat} {r : Option FieldType} (h : Cond.code y cc n r ∈ gT) : GoodIn gT (xws y cc n r) := fun w hw => by
  rcases List.mem_cons.mp hw with rfl | hw
  · exact ⟨h, gT_good h⟩
  · exact ⟨hw, gT_good hw⟩
theorem xws_V {own C : String} {idx : Nat} {y : MethodName} {cc : ByteArray} {n : Nat} {r : Option FieldType} (h1 : Cond.methodLink own idx y ∈ gT) (h2 : Cond.instanceMethod y ∈ gT) (h3 : Cond.selects C y y ∈ gT) (h4 : Cond.initialized C ∈ gT) (h5 : Cond.code y cc n r ∈ gT) : GoodIn gT (wsV own idx C y (xws y cc n r)) := fun w hw => by
  rcases List.mem_append.mp hw with hw | hw
  · have hm : w ∈ gT := by
      simp only [List.mem_cons, List.not_mem_nil, or_false] at hw
      rcases hw with rfl | rfl | rfl | rfl
      · exact h1
      · exact h2
      · exact h3
      · exact h4
    exact ⟨hm, gT_good hm⟩
  · exact xws_in h5 w hw
theorem xws_S {own : String} {idx : Nat} {y : MethodName} {cc : ByteArray} {n : Nat} {r : Option FieldType} (h1 : Cond.methodLink own idx y ∈ gT) (h2 : Cond.static y ∈ gT) (h4 : Cond.initialized y.cls ∈ gT) (h5 : Cond.code y cc n r ∈ gT) : GoodIn gT (va_wsS own idx y (xws y cc n r)) := fun w hw => by
  rcases List.mem_append.mp hw with hw | hw
  · have hm : w ∈ gT := by
      simp only [List.mem_cons, List.not_mem_nil, or_false] at hw
      rcases hw with rfl | rfl | rfl
      · exact h1
      · exact h2
      · exact h4
    exact ⟨hm, gT_good hm⟩
  · exact xws_in h5 w hw
/-- the arrays' classes -/
abbrev xtys (cy : Nat → ClassId) : List (ClassId × FieldType) := [(cy 0, .int), (cy 1, .long), (cy 2, .byte), (cy 3, .boolean), (cy 4, .object "SnoringWells$Land"), (cy 5, .object "SnoringWells$Page"), (cy 6, .object "SnoringWells$Tray")]
/-- the heap from b on -/
def xh (D : va_G) (b N : Nat) (f : Nat → va_E) (H : Heap) : Prop := H.size = b + N ∧ ∀ j : Nat, j < N → va_at D classes (b + j, f j) H
theorem xh.one {D : va_G} {b N : Nat} {f : Nat → va_E} {H : Heap} (h : xh D b N f H) {j : Nat} (hj : j < N) {x : va_E} (hf : f j = x) : va_P D classes [(b + j, x)] H := by
  intro k q hq
  match k, hq with
  | 0, hq => cases hq; rw [← hf]; exact h.2 j hj
  | k + 1, hq => simp at hq
theorem xh.put {D : va_G} {b N : Nat} {f : Nat → va_E} {H H1 : Heap} (h : xh D b N f H) {j : Nat} {x : va_E} (z : H1.size = H.size) (e : va_at D classes (b + j, x) H1) (o : ∀ q : Nat, q ≠ b + j → H1[q]? = H[q]?) : xh D b N (va_up f j x) H1 := by
  refine ⟨z.trans h.1, fun k hk => ?_⟩
  by_cases hkj : k = j
  · subst hkj
    rw [show va_up f k x k = x from by simp [va_up]]
    exact e
  · rw [show va_up f j x k = f k from by simp [va_up, hkj]]
    exact (h.2 k hk).kept (o (b + k) (by omega))
theorem xh.push {D : va_G} {b N : Nat} {f : Nat → va_E} {H H1 : Heap} (h : xh D b N f H) {x : va_E} (z : H1.size = b + N + 1) (e : va_at D classes (b + N, x) H1) (o : ∀ q : Nat, q < b + N → H1[q]? = H[q]?) : xh D b (N + 1) (va_up f N x) H1 := by
  refine ⟨z, fun k hk => ?_⟩
  by_cases hkj : k = N
  · subst hkj
    rw [show va_up f k x k = x from by simp [va_up]]
    exact e
  · rw [show va_up f N x k = f k from by simp [va_up, hkj]]
    exact (h.2 k (by omega)).kept (o (b + k) (by omega))
abbrev nJS : Nat := 33
def lenJS : List Nat := [13, 4, 5, 5, 5, 4, 5, 6, 5, 4, 5, 3, 2, 2, 2, 2, 1, 4, 5, 4, 3, 2, 12, 13, 12, 19, 17, 12, 22, 9, 13, 13, 17]
def bytJS : List (List Int32) := [[111, 117, 116, 32, 111, 102, 32, 98, 111, 117, 110, 100, 115], [119, 101, 108, 108], [101, 118, 101, 114, 121], [97, 119, 97, 107, 101], [115, 104, 105, 102, 116], [100, 101, 101, 112], [119, 97, 116, 101, 114], [98, 101, 115, 105, 100, 101], [104, 111, 117, 115, 101], [102, 114, 111, 109], [119, 97, 107, 101, 115], [110, 111, 116], [100, 97], [100, 98], [119, 97], [119, 98], [110], [104, 111, 117, 114], [112, 104, 97, 115, 101], [109, 97, 110, 121], [97, 110, 100], [111, 114], [110, 111, 32, 115, 117, 99, 104, 32, 119, 101, 108, 108], [110, 111, 32, 115, 117, 99, 104, 32, 104, 111, 117, 115, 101], [110, 111, 32, 115, 117, 99, 104, 32, 116, 114, 97, 121], [116, 104, 101, 32, 116, 114, 97, 121, 32, 105, 115, 32, 109, 105, 115, 115, 105, 110, 103], [111, 116, 104, 101, 114, 115, 32, 116, 104, 97, 110, 32, 119, 101, 108, 108, 115], [98, 111, 116, 104, 32, 97, 114, 101, 32, 111, 110, 101], [110, 111, 116, 32, 98, 101, 115, 105, 100, 101, 32, 111, 110, 101, 32, 97, 110, 111, 116, 104, 101, 114], [110, 111, 32, 115, 110, 111, 114, 101, 115], [110, 111, 32, 115, 117, 99, 104, 32, 112, 108, 97, 99, 101], [110, 111, 32, 115, 117, 99, 104, 32, 105, 109, 97, 103, 101], [110, 111, 32, 105, 109, 97, 103, 101, 32, 119, 97, 115, 32, 109, 97, 100, 101]]
def strT : List (String × Nat × String × Nat) := [("SnoringWells", 434, "out of bounds", 0), ("SnoringWells$Reader", 71, "well", 1), ("SnoringWells$Reader", 107, "every", 2), ("SnoringWells$Reader", 116, "awake", 3), ("SnoringWells$Reader", 118, "shift", 4), ("SnoringWells$Reader", 124, "deep", 5), ("SnoringWells$Reader", 126, "water", 6), ("SnoringWells$Reader", 80, "beside", 7), ("SnoringWells$Reader", 85, "house", 8), ("SnoringWells$Reader", 142, "from", 9), ("SnoringWells$Reader", 90, "wakes", 10), ("SnoringWells$Reader", 176, "not", 11), ("SnoringWells$Reader", 200, "da", 12), ("SnoringWells$Reader", 202, "db", 13), ("SnoringWells$Reader", 204, "wa", 14), ("SnoringWells$Reader", 206, "wb", 15), ("SnoringWells$Reader", 208, "n", 16), ("SnoringWells$Reader", 95, "hour", 17), ("SnoringWells$Reader", 210, "phase", 18), ("SnoringWells$Reader", 212, "many", 19), ("SnoringWells$Reader", 174, "and", 20), ("SnoringWells$Reader", 165, "or", 21), ("SnoringWells", 420, "no such well", 22), ("SnoringWells", 423, "no such house", 23), ("SnoringWells", 436, "no such tray", 24), ("SnoringWells", 441, "the tray is missing", 25), ("SnoringWells", 427, "others than wells", 26), ("SnoringWells", 432, "both are one", 27), ("SnoringWells", 430, "not beside one another", 28), ("SnoringWells", 447, "no snores", 29), ("SnoringWells", 374, "no such place", 30), ("SnoringWells", 449, "no such image", 31), ("SnoringWells", 399, "no image was made", 32), ("SnoringWellsModel", 210, "well", 1), ("SnoringWellsModel", 192, "every", 2), ("SnoringWellsModel", 198, "awake", 3), ("SnoringWellsModel", 200, "shift", 4), ("SnoringWellsModel", 202, "deep", 5), ("SnoringWellsModel", 203, "water", 6), ("SnoringWellsModel", 215, "house", 8), ("SnoringWellsModel", 208, "from", 9), ("SnoringWellsModel", 220, "beside", 7), ("SnoringWellsModel", 175, "hour", 17), ("SnoringWellsModel", 225, "wakes", 10), ("SnoringWellsModel", 142, "not", 11), ("SnoringWellsModel", 165, "da", 12), ("SnoringWellsModel", 167, "db", 13), ("SnoringWellsModel", 169, "wa", 14), ("SnoringWellsModel", 171, "wb", 15), ("SnoringWellsModel", 173, "n", 16), ("SnoringWellsModel", 177, "phase", 18), ("SnoringWellsModel", 179, "many", 19), ("SnoringWellsModel", 140, "and", 20), ("SnoringWellsModel", 132, "or", 21)]
/-- what lies below b and stays: the texts of the class, the empty law -/
def xO (b : Nat) (adK adV : Nat → Nat) (nlw : Nat) (U : State) (H : Heap) : Prop :=
  (∀ i : Nat, i < nJS → va_O "java/lang/String" (adK i) (fun q => b ≤ q) U H ∧ va_OF "java/lang/String" "coder" "B" (.int 0) (adK i) (fun q => b ≤ q) U H ∧ va_OF "java/lang/String" "value" "[B" (.ref (adV i)) (adK i) (fun q => b ≤ q) U H ∧ va_T .byte (adV i) (lenJS.getD i 0) (fun j => .int ((bytJS.getD i []).getD j 0)) (fun q => b ≤ q) U H) ∧
  (∀ (i : Nat) (q : String × Nat × String × Nat), strT[i]? = some q → vk_R q.1 q.2.1 q.2.2.1 (adK q.2.2.2) U) ∧ va_Z "SnoringWells" "NO_LAW" "[I" (.ref nlw) (fun q => b ≤ q) U H ∧ va_T .int nlw 0 (fun _ => .int 0) (fun q => b ≤ q) U H
/-- all that is given with a call: numbers of classes and array classes, the start of the world, the texts' places -/
abbrev xG : Type := va_G × (Nat → ClassId) × Nat × (Nat → Nat) × (Nat → Nat) × Nat

theorem xO.go {b : Nat} {adK adV : Nat → Nat} {nlw : Nat} {s U : State} {H : Heap} (h : xO b adK adV nlw s s.heap) (hW : s.WarmedH U.vm) (hq : ∀ a : Nat, a < s.heap.size → ¬ b ≤ a → H[a]? = s.heap[a]?) : xO b adK adV nlw U H :=
  ⟨fun k hk => ⟨((h.1 k hk).1.moved hW.alike).kept hq, ((h.1 k hk).2.1.moved hW.alike).kept hq, ((h.1 k hk).2.2.1.moved hW.alike).kept hq, ((h.1 k hk).2.2.2.moved hW.alike).kept hq⟩, fun k q hk => (h.2.1 k q hk).warm hW, (h.2.2.1.moved hW.alike).kept hq, (h.2.2.2.moved hW.alike).kept hq⟩
theorem xO.call {b : Nat} {adK adV : Nat → Nat} {nlw : Nat} {U : State} {g : JFrame} {mk : MethodId} {a : Array Value} (h : xO b adK adV nlw U U.heap) : xO b adK adV nlw (U.calling g mk a) (U.calling g mk a).heap :=
  ⟨fun k hk => ⟨(h.1 k hk).1.moved (Vm.Alike.refl _), (h.1 k hk).2.1.moved (Vm.Alike.refl _), (h.1 k hk).2.2.1.moved (Vm.Alike.refl _), (h.1 k hk).2.2.2.moved (Vm.Alike.refl _)⟩, fun k q hk => vk_R.same rfl (h.2.1 k q hk), h.2.2.1.moved (Vm.Alike.refl _), h.2.2.2.moved (Vm.Alike.refl _)⟩
/-- the world at a state -/
def xS (x : xG) (N : Nat) (f : Nat → va_E) (U : State) : Prop := xh x.1 x.2.2.1 N f U.heap ∧ va_K x.1 classes (xtys x.2.1) U ∧ xO x.2.2.1 x.2.2.2.1 x.2.2.2.2.1 x.2.2.2.2.2 U U.heap
abbrev xA (x : xG) : Nat → Prop := fun q => x.2.2.1 ≤ q
/-- what is given inside a method -/
def xC (x : xG) (p : Program) (s : State) (m : MethodId) (c : Code) (cc : ByteArray) (nL : Nat) (args : Array Value) (own : String) : Prop := CallFix p m c cc nL s args gT own ∧ va_K x.1 classes (xtys x.2.1) s ∧ xO x.2.2.1 x.2.2.2.1 x.2.2.2.2.1 x.2.2.2.2.2 s s.heap ∧ x.2.2.1 ≤ s.heap.size
def GW (x : xG) (p : Program) (l : Launch) (e : Env) (R : Room) (s : State) (m : MethodId) (args : Array Value) (below : List Frame) (meth : Method) (c : Code) (nL : Nat) (Q : State → Prop) (pc : Nat) (lo : List (Nat × Value)) (st : List Value) (N : Nat) (f : Nat → va_E) (i j : Nat) : Prop :=
  ∀ (H : Heap) (locs : List Loc) (ls : Array Slot), xh x.1 x.2.2.1 N f H → va_S (xA x) s.heap H locs → lv_has ls nL lo → W p l e R s m args below meth c H locs i j Q (F0 m pc ls st)
def rmd (d mc ms : Nat) : Room := { frames := d, cells := mc, slots := ms, locals := 64 * d }
section XL

variable {x : xG} {p : Program} {l : Launch} {e : Env} {R : Room} {s : State} {m : MethodId} {args : Array Value} {below : List Frame} {meth : Method} {c : Code} {Q : State → Prop} {cc : ByteArray} {nL : Nat} {own : String} {pc : Nat} {lo lo' : List (Nat × Value)} {st : List Value} {N : Nat} {f : Nat → va_E} {i j : Nat}

theorem g_iadd (C : xC x p s m c cc nL args own) {a b : Int32} (hd : decode cc pc = .ok (.iadd, 1)) (k : GW x p l e R s m args below meth c nL Q (pc + 1) lo (.int (a + b) :: st) N f i j) : GW x p l e R s m args below meth c nL Q pc lo (.int b :: .int a :: st) N f i j := fun H locs ls h1 h2 h3 => lv_iadd C.1.1 C.1.2.1 hd (k H locs ls h1 h2 h3)
theorem g_isub (C : xC x p s m c cc nL args own) {a b : Int32} (hd : decode cc pc = .ok (.isub, 1)) (k : GW x p l e R s m args below meth c nL Q (pc + 1) lo (.int (a - b) :: st) N f i j) : GW x p l e R s m args below meth c nL Q pc lo (.int b :: .int a :: st) N f i j := fun H locs ls h1 h2 h3 => lv_isub C.1.1 C.1.2.1 hd (k H locs ls h1 h2 h3)
theorem g_imul (C : xC x p s m c cc nL args own) {a b : Int32} (hd : decode cc pc = .ok (.imul, 1)) (k : GW x p l e R s m args below meth c nL Q (pc + 1) lo (.int (a * b) :: st) N f i j) : GW x p l e R s m args below meth c nL Q pc lo (.int b :: .int a :: st) N f i j := fun H locs ls h1 h2 h3 => lv_imul C.1.1 C.1.2.1 hd (k H locs ls h1 h2 h3)
theorem g_iand (C : xC x p s m c cc nL args own) {a b : Int32} (hd : decode cc pc = .ok (.iand, 1)) (k : GW x p l e R s m args below meth c nL Q (pc + 1) lo (.int (a &&& b) :: st) N f i j) : GW x p l e R s m args below meth c nL Q pc lo (.int b :: .int a :: st) N f i j := fun H locs ls h1 h2 h3 => lv_iand C.1.1 C.1.2.1 hd (k H locs ls h1 h2 h3)
theorem g_ior (C : xC x p s m c cc nL args own) {a b : Int32} (hd : decode cc pc = .ok (.ior, 1)) (k : GW x p l e R s m args below meth c nL Q (pc + 1) lo (.int (a ||| b) :: st) N f i j) : GW x p l e R s m args below meth c nL Q pc lo (.int b :: .int a :: st) N f i j := fun H locs ls h1 h2 h3 => lv_ior C.1.1 C.1.2.1 hd (k H locs ls h1 h2 h3)
theorem g_ixor (C : xC x p s m c cc nL args own) {a b : Int32} (hd : decode cc pc = .ok (.ixor, 1)) (k : GW x p l e R s m args below meth c nL Q (pc + 1) lo (.int (a ^^^ b) :: st) N f i j) : GW x p l e R s m args below meth c nL Q pc lo (.int b :: .int a :: st) N f i j := fun H locs ls h1 h2 h3 => lv_ixor C.1.1 C.1.2.1 hd (k H locs ls h1 h2 h3)
theorem g_ishl (C : xC x p s m c cc nL args own) {a b : Int32} (hd : decode cc pc = .ok (.ishl, 1)) (k : GW x p l e R s m args below meth c nL Q (pc + 1) lo (.int (a <<< (b &&& 31)) :: st) N f i j) : GW x p l e R s m args below meth c nL Q pc lo (.int b :: .int a :: st) N f i j := fun H locs ls h1 h2 h3 => lv_ishl C.1.1 C.1.2.1 hd (k H locs ls h1 h2 h3)
theorem g_ishr (C : xC x p s m c cc nL args own) {a b : Int32} (hd : decode cc pc = .ok (.ishr, 1)) (k : GW x p l e R s m args below meth c nL Q (pc + 1) lo (.int (a >>> (b &&& 31)) :: st) N f i j) : GW x p l e R s m args below meth c nL Q pc lo (.int b :: .int a :: st) N f i j := fun H locs ls h1 h2 h3 => lv_ishr C.1.1 C.1.2.1 hd (k H locs ls h1 h2 h3)
theorem g_iushr (C : xC x p s m c cc nL args own) {a b : Int32} (hd : decode cc pc = .ok (.iushr, 1)) (k : GW x p l e R s m args below meth c nL Q (pc + 1) lo (.int ((a.toUInt32 >>> (b.toUInt32 &&& Int32.toUInt32 31)).toInt32) :: st) N f i j) : GW x p l e R s m args below meth c nL Q pc lo (.int b :: .int a :: st) N f i j := fun H locs ls h1 h2 h3 => lv_iushr C.1.1 C.1.2.1 hd rfl (k H locs ls h1 h2 h3)
theorem g_ladd (C : xC x p s m c cc nL args own) {a b : Int64} (hd : decode cc pc = .ok (.ladd, 1)) (k : GW x p l e R s m args below meth c nL Q (pc + 1) lo (.long (a + b) :: st) N f i j) : GW x p l e R s m args below meth c nL Q pc lo (.long b :: .long a :: st) N f i j := fun H locs ls h1 h2 h3 => lv_ladd C.1.1 C.1.2.1 hd (k H locs ls h1 h2 h3)
theorem g_lsub (C : xC x p s m c cc nL args own) {a b : Int64} (hd : decode cc pc = .ok (.lsub, 1)) (k : GW x p l e R s m args below meth c nL Q (pc + 1) lo (.long (a - b) :: st) N f i j) : GW x p l e R s m args below meth c nL Q pc lo (.long b :: .long a :: st) N f i j := fun H locs ls h1 h2 h3 => lv_lsub C.1.1 C.1.2.1 hd (k H locs ls h1 h2 h3)
theorem g_lmul (C : xC x p s m c cc nL args own) {a b : Int64} (hd : decode cc pc = .ok (.lmul, 1)) (k : GW x p l e R s m args below meth c nL Q (pc + 1) lo (.long (a * b) :: st) N f i j) : GW x p l e R s m args below meth c nL Q pc lo (.long b :: .long a :: st) N f i j := fun H locs ls h1 h2 h3 => lv_lmul C.1.1 C.1.2.1 hd (k H locs ls h1 h2 h3)
theorem g_land (C : xC x p s m c cc nL args own) {a b : Int64} (hd : decode cc pc = .ok (.land, 1)) (k : GW x p l e R s m args below meth c nL Q (pc + 1) lo (.long (a &&& b) :: st) N f i j) : GW x p l e R s m args below meth c nL Q pc lo (.long b :: .long a :: st) N f i j := fun H locs ls h1 h2 h3 => lv_land C.1.1 C.1.2.1 hd (k H locs ls h1 h2 h3)
theorem g_lor (C : xC x p s m c cc nL args own) {a b : Int64} (hd : decode cc pc = .ok (.lor, 1)) (k : GW x p l e R s m args below meth c nL Q (pc + 1) lo (.long (a ||| b) :: st) N f i j) : GW x p l e R s m args below meth c nL Q pc lo (.long b :: .long a :: st) N f i j := fun H locs ls h1 h2 h3 => lv_lor C.1.1 C.1.2.1 hd (k H locs ls h1 h2 h3)
theorem g_lxor (C : xC x p s m c cc nL args own) {a b : Int64} (hd : decode cc pc = .ok (.lxor, 1)) (k : GW x p l e R s m args below meth c nL Q (pc + 1) lo (.long (a ^^^ b) :: st) N f i j) : GW x p l e R s m args below meth c nL Q pc lo (.long b :: .long a :: st) N f i j := fun H locs ls h1 h2 h3 => lv_lxor C.1.1 C.1.2.1 hd (k H locs ls h1 h2 h3)
theorem g_lshl (C : xC x p s m c cc nL args own) {a : Int64} {b : Int32} (hd : decode cc pc = .ok (.lshl, 1)) (k : GW x p l e R s m args below meth c nL Q (pc + 1) lo (.long (a <<< (b.toInt64 &&& 63)) :: st) N f i j) : GW x p l e R s m args below meth c nL Q pc lo (.int b :: .long a :: st) N f i j := fun H locs ls h1 h2 h3 => lv_lshl C.1.1 C.1.2.1 hd rfl (k H locs ls h1 h2 h3)
theorem g_lshr (C : xC x p s m c cc nL args own) {a : Int64} {b : Int32} (hd : decode cc pc = .ok (.lshr, 1)) (k : GW x p l e R s m args below meth c nL Q (pc + 1) lo (.long (a >>> (b.toInt64 &&& 63)) :: st) N f i j) : GW x p l e R s m args below meth c nL Q pc lo (.int b :: .long a :: st) N f i j := fun H locs ls h1 h2 h3 => lv_lshr C.1.1 C.1.2.1 hd rfl (k H locs ls h1 h2 h3)
theorem g_lushr (C : xC x p s m c cc nL args own) {a : Int64} {b : Int32} (hd : decode cc pc = .ok (.lushr, 1)) (k : GW x p l e R s m args below meth c nL Q (pc + 1) lo (.long ((a.toUInt64 >>> (b.toInt64.toUInt64 &&& Int64.toUInt64 63)).toInt64) :: st) N f i j) : GW x p l e R s m args below meth c nL Q pc lo (.int b :: .long a :: st) N f i j := fun H locs ls h1 h2 h3 => lv_lushr C.1.1 C.1.2.1 hd rfl (k H locs ls h1 h2 h3)
theorem g_idiv (C : xC x p s m c cc nL args own) {a b : Int32} (hd : decode cc pc = .ok (.idiv, 1)) (hn : ¬ b = 0) (k : GW x p l e R s m args below meth c nL Q (pc + 1) lo (.int (a / b) :: st) N f i j) : GW x p l e R s m args below meth c nL Q pc lo (.int b :: .int a :: st) N f i j := fun H locs ls h1 h2 h3 => lv_idiv C.1.1 C.1.2.1 hd hn (k H locs ls h1 h2 h3)
theorem g_irem (C : xC x p s m c cc nL args own) {a b : Int32} (hd : decode cc pc = .ok (.irem, 1)) (hn : ¬ b = 0) (k : GW x p l e R s m args below meth c nL Q (pc + 1) lo (.int (a - a / b * b) :: st) N f i j) : GW x p l e R s m args below meth c nL Q pc lo (.int b :: .int a :: st) N f i j := fun H locs ls h1 h2 h3 => lv_irem C.1.1 C.1.2.1 hd hn (k H locs ls h1 h2 h3)
theorem g_ldiv (C : xC x p s m c cc nL args own) {a b : Int64} (hd : decode cc pc = .ok (.ldiv, 1)) (hn : ¬ b = 0) (k : GW x p l e R s m args below meth c nL Q (pc + 1) lo (.long (a / b) :: st) N f i j) : GW x p l e R s m args below meth c nL Q pc lo (.long b :: .long a :: st) N f i j := fun H locs ls h1 h2 h3 => lv_ldiv C.1.1 C.1.2.1 hd hn (k H locs ls h1 h2 h3)
theorem g_lrem (C : xC x p s m c cc nL args own) {a b : Int64} (hd : decode cc pc = .ok (.lrem, 1)) (hn : ¬ b = 0) (k : GW x p l e R s m args below meth c nL Q (pc + 1) lo (.long (a - a / b * b) :: st) N f i j) : GW x p l e R s m args below meth c nL Q pc lo (.long b :: .long a :: st) N f i j := fun H locs ls h1 h2 h3 => lv_lrem C.1.1 C.1.2.1 hd hn (k H locs ls h1 h2 h3)
theorem g_ineg (C : xC x p s m c cc nL args own) {a : Int32} (hd : decode cc pc = .ok (.ineg, 1)) (k : GW x p l e R s m args below meth c nL Q (pc + 1) lo (.int (-a) :: st) N f i j) : GW x p l e R s m args below meth c nL Q pc lo (.int a :: st) N f i j := fun H locs ls h1 h2 h3 => lv_ineg C.1.1 C.1.2.1 hd (k H locs ls h1 h2 h3)
theorem g_i2l (C : xC x p s m c cc nL args own) {a : Int32} (hd : decode cc pc = .ok (.i2l, 1)) (k : GW x p l e R s m args below meth c nL Q (pc + 1) lo (.long a.toInt64 :: st) N f i j) : GW x p l e R s m args below meth c nL Q pc lo (.int a :: st) N f i j := fun H locs ls h1 h2 h3 => lv_i2l C.1.1 C.1.2.1 hd rfl (k H locs ls h1 h2 h3)
theorem g_l2i (C : xC x p s m c cc nL args own) {a : Int64} (hd : decode cc pc = .ok (.l2i, 1)) (k : GW x p l e R s m args below meth c nL Q (pc + 1) lo (.int a.toInt32 :: st) N f i j) : GW x p l e R s m args below meth c nL Q pc lo (.long a :: st) N f i j := fun H locs ls h1 h2 h3 => lv_l2i C.1.1 C.1.2.1 hd rfl (k H locs ls h1 h2 h3)
theorem g_i2b (C : xC x p s m c cc nL args own) {a : Int32} (hd : decode cc pc = .ok (.i2b, 1)) (k : GW x p l e R s m args below meth c nL Q (pc + 1) lo (.int a.toInt8.toInt32 :: st) N f i j) : GW x p l e R s m args below meth c nL Q pc lo (.int a :: st) N f i j := fun H locs ls h1 h2 h3 => lv_i2b C.1.1 C.1.2.1 hd rfl (k H locs ls h1 h2 h3)
theorem g_i2s (C : xC x p s m c cc nL args own) {a : Int32} (hd : decode cc pc = .ok (.i2s, 1)) (k : GW x p l e R s m args below meth c nL Q (pc + 1) lo (.int a.toInt16.toInt32 :: st) N f i j) : GW x p l e R s m args below meth c nL Q pc lo (.int a :: st) N f i j := fun H locs ls h1 h2 h3 => lv_i2s C.1.1 C.1.2.1 hd rfl (k H locs ls h1 h2 h3)
theorem g_lcmp (C : xC x p s m c cc nL args own) {a b : Int64} (hd : decode cc pc = .ok (.lcmp, 1)) (k : GW x p l e R s m args below meth c nL Q (pc + 1) lo (.int (lg_cmp a b) :: st) N f i j) : GW x p l e R s m args below meth c nL Q pc lo (.long b :: .long a :: st) N f i j := fun H locs ls h1 h2 h3 => W.lcmp C.1.1 C.1.2.1 hd (k H locs ls h1 h2 h3)
theorem g_pop (C : xC x p s m c cc nL args own) {v : Value} (hd : decode cc pc = .ok (.pop, 1)) (hv : v.category = 1) (k : GW x p l e R s m args below meth c nL Q (pc + 1) lo (st) N f i j) : GW x p l e R s m args below meth c nL Q pc lo (v :: st) N f i j := fun H locs ls h1 h2 h3 => lv_pop C.1.1 C.1.2.1 hd hv (k H locs ls h1 h2 h3)
theorem g_dup (C : xC x p s m c cc nL args own) {v : Value} (hd : decode cc pc = .ok (.dup, 1)) (hv : v.category = 1) (k : GW x p l e R s m args below meth c nL Q (pc + 1) lo (v :: v :: st) N f i j) : GW x p l e R s m args below meth c nL Q pc lo (v :: st) N f i j := fun H locs ls h1 h2 h3 => lv_dup C.1.1 C.1.2.1 hd hv (k H locs ls h1 h2 h3)
theorem g_dup2 (C : xC x p s m c cc nL args own) {v w : Value} (hd : decode cc pc = .ok (.dup2, 1)) (hv : v.category = 1) (hw : w.category = 1) (k : GW x p l e R s m args below meth c nL Q (pc + 1) lo (v :: w :: v :: w :: st) N f i j) : GW x p l e R s m args below meth c nL Q pc lo (v :: w :: st) N f i j := fun H locs ls h1 h2 h3 => lv_dup2_11 C.1.1 C.1.2.1 hd hv hw (k H locs ls h1 h2 h3)
theorem g_dup2l (C : xC x p s m c cc nL args own) {v : Value} (hd : decode cc pc = .ok (.dup2, 1)) (hv : v.category = 2) (k : GW x p l e R s m args below meth c nL Q (pc + 1) lo (v :: v :: st) N f i j) : GW x p l e R s m args below meth c nL Q pc lo (v :: st) N f i j := fun H locs ls h1 h2 h3 => lv_dup2_2 C.1.1 C.1.2.1 hd hv (k H locs ls h1 h2 h3)
theorem g_iconst (C : xC x p s m c cc nL args own) {n : Int} {v : Int32} (hd : decode cc pc = .ok (.iconst n, 1)) (hv : Int32.ofInt n = v) (k : GW x p l e R s m args below meth c nL Q (pc + 1) lo (.int v :: st) N f i j) : GW x p l e R s m args below meth c nL Q pc lo (st) N f i j := fun H locs ls h1 h2 h3 => lv_iconst C.1.1 C.1.2.1 hd hv (k H locs ls h1 h2 h3)
theorem g_bipush (C : xC x p s m c cc nL args own) {n : Int} {v : Int32} (hd : decode cc pc = .ok (.bipush n, 2)) (hv : (Int8.ofInt n).toInt32 = v) (k : GW x p l e R s m args below meth c nL Q (pc + 2) lo (.int v :: st) N f i j) : GW x p l e R s m args below meth c nL Q pc lo (st) N f i j := fun H locs ls h1 h2 h3 => lv_bipush C.1.1 C.1.2.1 hd hv (k H locs ls h1 h2 h3)
theorem g_sipush (C : xC x p s m c cc nL args own) {n : Int} {v : Int32} (hd : decode cc pc = .ok (.sipush n, 3)) (hv : (Int16.ofInt n).toInt32 = v) (k : GW x p l e R s m args below meth c nL Q (pc + 3) lo (.int v :: st) N f i j) : GW x p l e R s m args below meth c nL Q pc lo (st) N f i j := fun H locs ls h1 h2 h3 => lv_sipush C.1.1 C.1.2.1 hd hv (k H locs ls h1 h2 h3)
theorem g_lconst (C : xC x p s m c cc nL args own) {n : Fin 2} {v : Int64} (hd : decode cc pc = .ok (.lconst n, 1)) (hv : Int64.ofNat (n : Nat) = v) (k : GW x p l e R s m args below meth c nL Q (pc + 1) lo (.long v :: st) N f i j) : GW x p l e R s m args below meth c nL Q pc lo (st) N f i j := fun H locs ls h1 h2 h3 => lv_lconst C.1.1 C.1.2.1 hd hv (k H locs ls h1 h2 h3)
theorem g_ldc (C : xC x p s m c cc nL args own) {index : Nat} {v : Int32} (hw : Cond.constant own index v ∈ gT) (hd : decode cc pc = .ok (.ldc index, 2)) (k : GW x p l e R s m args below meth c nL Q (pc + 2) lo (.int v :: st) N f i j) : GW x p l e R s m args below meth c nL Q pc lo st N f i j := fun H locs ls h1 h2 h3 => lv_ldc C.1.1 C.1.2.1 C.1.2.2.2.1 (C.1.2.2.2.2 _ hw) hd (k H locs ls h1 h2 h3)
theorem g_ldc2 (C : xC x p s m c cc nL args own) {index : Nat} {v : Int64} (hw : Cond.constantLong own index v ∈ gT) (hd : decode cc pc = .ok (.ldc2_w index, 3)) (k : GW x p l e R s m args below meth c nL Q (pc + 3) lo (.long v :: st) N f i j) : GW x p l e R s m args below meth c nL Q pc lo st N f i j := fun H locs ls h1 h2 h3 => lv_ldc2 C.1.1 C.1.2.1 C.1.2.2.2.1 (C.1.2.2.2.2 _ hw) hd (k H locs ls h1 h2 h3)
theorem g_iload_n (C : xC x p s m c cc nL args own) {k0 : Fin 4} {q : Nat} {v : Int32} (hd : decode cc pc = .ok (.iload_n k0, 1)) (hq : lo[q]? = some (k0.val, .int v)) (k : GW x p l e R s m args below meth c nL Q (pc + 1) lo (.int v :: st) N f i j) : GW x p l e R s m args below meth c nL Q pc lo st N f i j := fun H locs ls h1 h2 h3 => lv_iload_n C.1.1 C.1.2.1 hd rfl (lv_at h3 q hq) (k H locs ls h1 h2 h3)
theorem g_iload (C : xC x p s m c cc nL args own) {k0 : Nat} {q : Nat} {v : Int32} (hd : decode cc pc = .ok (.iload k0, 2)) (hq : lo[q]? = some (k0, .int v)) (k : GW x p l e R s m args below meth c nL Q (pc + 2) lo (.int v :: st) N f i j) : GW x p l e R s m args below meth c nL Q pc lo st N f i j := fun H locs ls h1 h2 h3 => lv_iload C.1.1 C.1.2.1 hd (lv_at h3 q hq) (k H locs ls h1 h2 h3)
theorem g_istore_n (C : xC x p s m c cc nL args own) {k0 : Fin 4} {v : Int32} (hd : decode cc pc = .ok (.istore_n k0, 1)) (hn : k0.val < nL) (hl : (k0.val, Value.int v) :: lo.filter (fun q => !(q.1 == k0.val) && !(q.1 + 1 == k0.val && q.2.category == 2)) = lo') (k : GW x p l e R s m args below meth c nL Q (pc + 1) lo' st N f i j) : GW x p l e R s m args below meth c nL Q pc lo (.int v :: st) N f i j := fun H locs ls h1 h2 h3 => lv_istore_n C.1.1 C.1.2.1 hd rfl h3 hn hl (fun ls' h4 => k H locs ls' h1 h2 h4)
theorem g_istore (C : xC x p s m c cc nL args own) {k0 : Nat} {v : Int32} (hd : decode cc pc = .ok (.istore k0, 2)) (hn : k0 < nL) (hl : (k0, Value.int v) :: lo.filter (fun q => !(q.1 == k0) && !(q.1 + 1 == k0 && q.2.category == 2)) = lo') (k : GW x p l e R s m args below meth c nL Q (pc + 2) lo' st N f i j) : GW x p l e R s m args below meth c nL Q pc lo (.int v :: st) N f i j := fun H locs ls h1 h2 h3 => lv_istore C.1.1 C.1.2.1 hd h3 hn hl (fun ls' h4 => k H locs ls' h1 h2 h4)
theorem g_lload_n (C : xC x p s m c cc nL args own) {k0 : Fin 4} {q : Nat} {v : Int64} (hd : decode cc pc = .ok (.lload_n k0, 1)) (hq : lo[q]? = some (k0.val, .long v)) (k : GW x p l e R s m args below meth c nL Q (pc + 1) lo (.long v :: st) N f i j) : GW x p l e R s m args below meth c nL Q pc lo st N f i j := fun H locs ls h1 h2 h3 => lv_lload_n C.1.1 C.1.2.1 hd rfl (lv_at h3 q hq) (k H locs ls h1 h2 h3)
theorem g_lload (C : xC x p s m c cc nL args own) {k0 : Nat} {q : Nat} {v : Int64} (hd : decode cc pc = .ok (.lload k0, 2)) (hq : lo[q]? = some (k0, .long v)) (k : GW x p l e R s m args below meth c nL Q (pc + 2) lo (.long v :: st) N f i j) : GW x p l e R s m args below meth c nL Q pc lo st N f i j := fun H locs ls h1 h2 h3 => lv_lload C.1.1 C.1.2.1 hd (lv_at h3 q hq) (k H locs ls h1 h2 h3)
theorem g_lstore_n (C : xC x p s m c cc nL args own) {k0 : Fin 4} {v : Int64} (hd : decode cc pc = .ok (.lstore_n k0, 1)) (hn : k0.val + 1 < nL) (hl : (k0.val, Value.long v) :: lo.filter (fun q => !(q.1 == k0.val) && (!(q.1 == k0.val + 1) && !(q.1 + 1 == k0.val && q.2.category == 2))) = lo') (k : GW x p l e R s m args below meth c nL Q (pc + 1) lo' st N f i j) : GW x p l e R s m args below meth c nL Q pc lo (.long v :: st) N f i j := fun H locs ls h1 h2 h3 => lv_lstore_n C.1.1 C.1.2.1 hd rfl h3 hn hl (fun ls' h4 => k H locs ls' h1 h2 h4)
theorem g_lstore (C : xC x p s m c cc nL args own) {k0 : Nat} {v : Int64} (hd : decode cc pc = .ok (.lstore k0, 2)) (hn : k0 + 1 < nL) (hl : (k0, Value.long v) :: lo.filter (fun q => !(q.1 == k0) && (!(q.1 == k0 + 1) && !(q.1 + 1 == k0 && q.2.category == 2))) = lo') (k : GW x p l e R s m args below meth c nL Q (pc + 2) lo' st N f i j) : GW x p l e R s m args below meth c nL Q pc lo (.long v :: st) N f i j := fun H locs ls h1 h2 h3 => lv_lstore C.1.1 C.1.2.1 hd h3 hn hl (fun ls' h4 => k H locs ls' h1 h2 h4)
theorem g_aload_n (C : xC x p s m c cc nL args own) {k0 : Fin 4} {q : Nat} {v : Nat} (hd : decode cc pc = .ok (.aload_n k0, 1)) (hq : lo[q]? = some (k0.val, .ref v)) (k : GW x p l e R s m args below meth c nL Q (pc + 1) lo (.ref v :: st) N f i j) : GW x p l e R s m args below meth c nL Q pc lo st N f i j := fun H locs ls h1 h2 h3 => lv_aload_n C.1.1 C.1.2.1 hd rfl (lv_at h3 q hq) (k H locs ls h1 h2 h3)
theorem g_aload (C : xC x p s m c cc nL args own) {k0 : Nat} {q : Nat} {v : Nat} (hd : decode cc pc = .ok (.aload k0, 2)) (hq : lo[q]? = some (k0, .ref v)) (k : GW x p l e R s m args below meth c nL Q (pc + 2) lo (.ref v :: st) N f i j) : GW x p l e R s m args below meth c nL Q pc lo st N f i j := fun H locs ls h1 h2 h3 => lv_aload C.1.1 C.1.2.1 hd (lv_at h3 q hq) (k H locs ls h1 h2 h3)
theorem g_astore_n (C : xC x p s m c cc nL args own) {k0 : Fin 4} {v : Nat} (hd : decode cc pc = .ok (.astore_n k0, 1)) (hn : k0.val < nL) (hl : (k0.val, Value.ref v) :: lo.filter (fun q => !(q.1 == k0.val) && !(q.1 + 1 == k0.val && q.2.category == 2)) = lo') (k : GW x p l e R s m args below meth c nL Q (pc + 1) lo' st N f i j) : GW x p l e R s m args below meth c nL Q pc lo (.ref v :: st) N f i j := fun H locs ls h1 h2 h3 => lv_astore_n C.1.1 C.1.2.1 hd rfl h3 hn hl (fun ls' h4 => k H locs ls' h1 h2 h4)
theorem g_astore (C : xC x p s m c cc nL args own) {k0 : Nat} {v : Nat} (hd : decode cc pc = .ok (.astore k0, 2)) (hn : k0 < nL) (hl : (k0, Value.ref v) :: lo.filter (fun q => !(q.1 == k0) && !(q.1 + 1 == k0 && q.2.category == 2)) = lo') (k : GW x p l e R s m args below meth c nL Q (pc + 2) lo' st N f i j) : GW x p l e R s m args below meth c nL Q pc lo (.ref v :: st) N f i j := fun H locs ls h1 h2 h3 => lv_astore C.1.1 C.1.2.1 hd h3 hn hl (fun ls' h4 => k H locs ls' h1 h2 h4)
theorem g_iinc (C : xC x p s m c cc nL args own) {k0 q : Nat} {n : Int} {v w : Int32} (hd : decode cc pc = .ok (.iinc k0 n, 3)) (hq : lo[q]? = some (k0, .int v)) (hv : v + Int32.ofInt n = w) (hn : k0 < nL) (hl : (k0, Value.int w) :: lo.filter (fun q => !(q.1 == k0) && !(q.1 + 1 == k0 && q.2.category == 2)) = lo') (k : GW x p l e R s m args below meth c nL Q (pc + 3) lo' st N f i j) : GW x p l e R s m args below meth c nL Q pc lo st N f i j := fun H locs ls h1 h2 h3 => lv_iinc C.1.1 C.1.2.1 hd h3 hq hv hn hl (fun ls' h4 => k H locs ls' h1 h2 h4)
theorem g_goto (C : xC x p s m c cc nL args own) {off : Int} {tgt : Nat} (hd : decode cc pc = .ok (.goto off, 3)) (ht : (pc : Int) + off = (tgt : Int)) (k : GW x p l e R s m args below meth c nL Q tgt lo st N f i j) : GW x p l e R s m args below meth c nL Q pc lo st N f i j := fun H locs ls h1 h2 h3 => lv_goto C.1.1 C.1.2.1 hd ht (k H locs ls h1 h2 h3)
theorem g_if_eq (C : xC x p s m c cc nL args own) {a : Int32} {off : Int} {tgt : Nat} (hd : decode cc pc = .ok (.ifCond .eq off, 3)) (ht : (pc : Int) + off = (tgt : Int)) (kt : a = 0 → GW x p l e R s m args below meth c nL Q tgt lo st N f i j) (kf : ¬ a = 0 → GW x p l e R s m args below meth c nL Q (pc + 3) lo st N f i j) : GW x p l e R s m args below meth c nL Q pc lo (.int a :: st) N f i j := fun H locs ls h1 h2 h3 => lv_if_eq C.1.1 C.1.2.1 hd ht (fun z => kt z H locs ls h1 h2 h3) (fun z => kf z H locs ls h1 h2 h3)
theorem g_if_ne (C : xC x p s m c cc nL args own) {a : Int32} {off : Int} {tgt : Nat} (hd : decode cc pc = .ok (.ifCond .ne off, 3)) (ht : (pc : Int) + off = (tgt : Int)) (kt : ¬ a = 0 → GW x p l e R s m args below meth c nL Q tgt lo st N f i j) (kf : a = 0 → GW x p l e R s m args below meth c nL Q (pc + 3) lo st N f i j) : GW x p l e R s m args below meth c nL Q pc lo (.int a :: st) N f i j := fun H locs ls h1 h2 h3 => lv_if_ne C.1.1 C.1.2.1 hd ht (fun z => kt z H locs ls h1 h2 h3) (fun z => kf z H locs ls h1 h2 h3)
theorem g_if_lt (C : xC x p s m c cc nL args own) {a : Int32} {off : Int} {tgt : Nat} (hd : decode cc pc = .ok (.ifCond .lt off, 3)) (ht : (pc : Int) + off = (tgt : Int)) (kt : a < 0 → GW x p l e R s m args below meth c nL Q tgt lo st N f i j) (kf : ¬ a < 0 → GW x p l e R s m args below meth c nL Q (pc + 3) lo st N f i j) : GW x p l e R s m args below meth c nL Q pc lo (.int a :: st) N f i j := fun H locs ls h1 h2 h3 => lv_if_lt C.1.1 C.1.2.1 hd ht (fun z => kt z H locs ls h1 h2 h3) (fun z => kf z H locs ls h1 h2 h3)
theorem g_if_ge (C : xC x p s m c cc nL args own) {a : Int32} {off : Int} {tgt : Nat} (hd : decode cc pc = .ok (.ifCond .ge off, 3)) (ht : (pc : Int) + off = (tgt : Int)) (kt : 0 ≤ a → GW x p l e R s m args below meth c nL Q tgt lo st N f i j) (kf : ¬ 0 ≤ a → GW x p l e R s m args below meth c nL Q (pc + 3) lo st N f i j) : GW x p l e R s m args below meth c nL Q pc lo (.int a :: st) N f i j := fun H locs ls h1 h2 h3 => lv_if_ge C.1.1 C.1.2.1 hd ht (fun z => kt z H locs ls h1 h2 h3) (fun z => kf z H locs ls h1 h2 h3)
theorem g_if_gt (C : xC x p s m c cc nL args own) {a : Int32} {off : Int} {tgt : Nat} (hd : decode cc pc = .ok (.ifCond .gt off, 3)) (ht : (pc : Int) + off = (tgt : Int)) (kt : 0 < a → GW x p l e R s m args below meth c nL Q tgt lo st N f i j) (kf : ¬ 0 < a → GW x p l e R s m args below meth c nL Q (pc + 3) lo st N f i j) : GW x p l e R s m args below meth c nL Q pc lo (.int a :: st) N f i j := fun H locs ls h1 h2 h3 => lv_if_gt C.1.1 C.1.2.1 hd ht (fun z => kt z H locs ls h1 h2 h3) (fun z => kf z H locs ls h1 h2 h3)
theorem g_if_le (C : xC x p s m c cc nL args own) {a : Int32} {off : Int} {tgt : Nat} (hd : decode cc pc = .ok (.ifCond .le off, 3)) (ht : (pc : Int) + off = (tgt : Int)) (kt : a ≤ 0 → GW x p l e R s m args below meth c nL Q tgt lo st N f i j) (kf : ¬ a ≤ 0 → GW x p l e R s m args below meth c nL Q (pc + 3) lo st N f i j) : GW x p l e R s m args below meth c nL Q pc lo (.int a :: st) N f i j := fun H locs ls h1 h2 h3 => lv_if_le C.1.1 C.1.2.1 hd ht (fun z => kt z H locs ls h1 h2 h3) (fun z => kf z H locs ls h1 h2 h3)
theorem g_icmp_eq (C : xC x p s m c cc nL args own) {a b : Int32} {off : Int} {tgt : Nat} (hd : decode cc pc = .ok (.if_icmp .eq off, 3)) (ht : (pc : Int) + off = (tgt : Int)) (kt : a = b → GW x p l e R s m args below meth c nL Q tgt lo st N f i j) (kf : ¬ a = b → GW x p l e R s m args below meth c nL Q (pc + 3) lo st N f i j) : GW x p l e R s m args below meth c nL Q pc lo (.int b :: .int a :: st) N f i j := fun H locs ls h1 h2 h3 => lv_icmp_eq C.1.1 C.1.2.1 hd ht (fun z => kt z H locs ls h1 h2 h3) (fun z => kf z H locs ls h1 h2 h3)
theorem g_icmp_ne (C : xC x p s m c cc nL args own) {a b : Int32} {off : Int} {tgt : Nat} (hd : decode cc pc = .ok (.if_icmp .ne off, 3)) (ht : (pc : Int) + off = (tgt : Int)) (kt : ¬ a = b → GW x p l e R s m args below meth c nL Q tgt lo st N f i j) (kf : a = b → GW x p l e R s m args below meth c nL Q (pc + 3) lo st N f i j) : GW x p l e R s m args below meth c nL Q pc lo (.int b :: .int a :: st) N f i j := fun H locs ls h1 h2 h3 => lv_icmp_ne C.1.1 C.1.2.1 hd ht (fun z => kt z H locs ls h1 h2 h3) (fun z => kf z H locs ls h1 h2 h3)
theorem g_icmp_lt (C : xC x p s m c cc nL args own) {a b : Int32} {off : Int} {tgt : Nat} (hd : decode cc pc = .ok (.if_icmp .lt off, 3)) (ht : (pc : Int) + off = (tgt : Int)) (kt : a < b → GW x p l e R s m args below meth c nL Q tgt lo st N f i j) (kf : ¬ a < b → GW x p l e R s m args below meth c nL Q (pc + 3) lo st N f i j) : GW x p l e R s m args below meth c nL Q pc lo (.int b :: .int a :: st) N f i j := fun H locs ls h1 h2 h3 => lv_icmp_lt C.1.1 C.1.2.1 hd ht (fun z => kt z H locs ls h1 h2 h3) (fun z => kf z H locs ls h1 h2 h3)
theorem g_icmp_ge (C : xC x p s m c cc nL args own) {a b : Int32} {off : Int} {tgt : Nat} (hd : decode cc pc = .ok (.if_icmp .ge off, 3)) (ht : (pc : Int) + off = (tgt : Int)) (kt : b ≤ a → GW x p l e R s m args below meth c nL Q tgt lo st N f i j) (kf : ¬ b ≤ a → GW x p l e R s m args below meth c nL Q (pc + 3) lo st N f i j) : GW x p l e R s m args below meth c nL Q pc lo (.int b :: .int a :: st) N f i j := fun H locs ls h1 h2 h3 => lv_icmp_ge C.1.1 C.1.2.1 hd ht (fun z => kt z H locs ls h1 h2 h3) (fun z => kf z H locs ls h1 h2 h3)
theorem g_icmp_gt (C : xC x p s m c cc nL args own) {a b : Int32} {off : Int} {tgt : Nat} (hd : decode cc pc = .ok (.if_icmp .gt off, 3)) (ht : (pc : Int) + off = (tgt : Int)) (kt : b < a → GW x p l e R s m args below meth c nL Q tgt lo st N f i j) (kf : ¬ b < a → GW x p l e R s m args below meth c nL Q (pc + 3) lo st N f i j) : GW x p l e R s m args below meth c nL Q pc lo (.int b :: .int a :: st) N f i j := fun H locs ls h1 h2 h3 => lv_icmp_gt C.1.1 C.1.2.1 hd ht (fun z => kt z H locs ls h1 h2 h3) (fun z => kf z H locs ls h1 h2 h3)
theorem g_icmp_le (C : xC x p s m c cc nL args own) {a b : Int32} {off : Int} {tgt : Nat} (hd : decode cc pc = .ok (.if_icmp .le off, 3)) (ht : (pc : Int) + off = (tgt : Int)) (kt : a ≤ b → GW x p l e R s m args below meth c nL Q tgt lo st N f i j) (kf : ¬ a ≤ b → GW x p l e R s m args below meth c nL Q (pc + 3) lo st N f i j) : GW x p l e R s m args below meth c nL Q pc lo (.int b :: .int a :: st) N f i j := fun H locs ls h1 h2 h3 => lv_icmp_le C.1.1 C.1.2.1 hd ht (fun z => kt z H locs ls h1 h2 h3) (fun z => kf z H locs ls h1 h2 h3)
theorem g_tabIn (C : xC x p s m c cc nL args own) {dflt a b : Int} {offs : Array Int} {len : Nat} {v : Int32} {off : Int} {tgt : Nat} (hd : decode cc pc = .ok (.tableswitch dflt a b offs, len)) (z1 : ¬ v.toInt < a) (z2 : ¬ b < v.toInt) (ho : offs[(v.toInt - a).toNat]? = some off) (ht : (pc : Int) + off = (tgt : Int)) (k : GW x p l e R s m args below meth c nL Q tgt lo st N f i j) : GW x p l e R s m args below meth c nL Q pc lo (.int v :: st) N f i j := fun H locs ls h1 h2 h3 => lv_tableIn C.1.1 C.1.2.1 hd z1 z2 ho ht (k H locs ls h1 h2 h3)
theorem g_tabOut (C : xC x p s m c cc nL args own) {dflt a b : Int} {offs : Array Int} {len : Nat} {v : Int32} {tgt : Nat} (hd : decode cc pc = .ok (.tableswitch dflt a b offs, len)) (z : v.toInt < a ∨ b < v.toInt) (ht : (pc : Int) + dflt = (tgt : Int)) (k : GW x p l e R s m args below meth c nL Q tgt lo st N f i j) : GW x p l e R s m args below meth c nL Q pc lo (.int v :: st) N f i j := fun H locs ls h1 h2 h3 => lv_tableOut C.1.1 C.1.2.1 hd z ht (k H locs ls h1 h2 h3)
theorem g_iret (C : xC x p s m c cc nL args own) {S : Type} {FN : S → Nat} {FF : S → Nat → va_E} {K : Int32 → S → Prop} {v : Int32} (hlk : meth.locks = false) (hr : meth.sig.returnType = some .int) (u : S) (hN : FN u = N) (hF : FF u = f) (hd : decode cc pc = .ok (.ireturn, 1)) (hK : K v u) : GW x p l e R s m args below meth c nL (MQ below (va_Qi K (fun u t => xh x.1 x.2.2.1 (FN u) (FF u) t.heap) (xA x)) args s i j (xA x)) pc lo [.int v] N f i j := fun H locs ls h1 h2 h3 => W.iret C.1.1 C.1.2.1 hr (fun t ht hw => ⟨⟨v, u, rfl, hK, by show xh _ _ (FN u) (FF u) t.heap; rw [ht, hN, hF]; exact h1⟩, h2.F ht⟩) h2.2.2 hd hlk
theorem g_zret (C : xC x p s m c cc nL args own) {S : Type} {FN : S → Nat} {FF : S → Nat → va_E} {K : Int32 → S → Prop} {v : Int32} (hlk : meth.locks = false) (hr : meth.sig.returnType = some .boolean) (u : S) (hN : FN u = N) (hF : FF u = f) (hd : decode cc pc = .ok (.ireturn, 1)) (hv : v = 0 ∨ v = 1) (hK : K v u) : GW x p l e R s m args below meth c nL (MQ below (va_Qi K (fun u t => xh x.1 x.2.2.1 (FN u) (FF u) t.heap) (xA x)) args s i j (xA x)) pc lo [.int v] N f i j := fun H locs ls h1 h2 h3 => W.zret C.1.1 C.1.2.1 hr (by rcases hv with rfl | rfl <;> rfl) (fun t ht hw => ⟨⟨v, u, rfl, hK, by show xh _ _ (FN u) (FF u) t.heap; rw [ht, hN, hF]; exact h1⟩, h2.F ht⟩) h2.2.2 hd hlk
theorem g_lret (C : xC x p s m c cc nL args own) {S : Type} {FN : S → Nat} {FF : S → Nat → va_E} {K : Int64 → S → Prop} {v : Int64} (hlk : meth.locks = false) (hr : meth.sig.returnType = some .long) (u : S) (hN : FN u = N) (hF : FF u = f) (hd : decode cc pc = .ok (.lreturn, 1)) (hK : K v u) : GW x p l e R s m args below meth c nL (MQ below (va_Ql K (fun u t => xh x.1 x.2.2.1 (FN u) (FF u) t.heap) (xA x)) args s i j (xA x)) pc lo [.long v] N f i j := fun H locs ls h1 h2 h3 => W.lret C.1.1 C.1.2.1 hr (fun t ht hw => ⟨⟨v, u, rfl, hK, by show xh _ _ (FN u) (FF u) t.heap; rw [ht, hN, hF]; exact h1⟩, h2.F ht⟩) h2.2.2 hd hlk
theorem g_vret (C : xC x p s m c cc nL args own) {S : Type} {FN : S → Nat} {FF : S → Nat → va_E} {K : S → Prop} (hlk : meth.locks = false) (hr : meth.sig.returnType = none) (u : S) (hN : FN u = N) (hF : FF u = f) (hd : decode cc pc = .ok (.return_, 1)) (hK : K u) : GW x p l e R s m args below meth c nL (MQ below (va_Qv K (fun u t => xh x.1 x.2.2.1 (FN u) (FF u) t.heap) (xA x)) args s i j (xA x)) pc lo [] N f i j := fun H locs ls h1 h2 h3 => W.vret C.1.1 C.1.2.1 hr (fun t ht hw => ⟨⟨u, rfl, hK, by show xh _ _ (FN u) (FF u) t.heap; rw [ht, hN, hF]; exact h1⟩, h2.F ht⟩) h2.2.2 hd hlk
/-- a contract: from the world (N, f) with the arguments As -/
def xPc (x : xG) (As : List Value) (N : Nat) (f : Nat → va_E) : Array Value → State → Prop := va_Pc As (fun U => xS x N f U)
theorem xPc.blind {As : List Value} : FrameBlind (xPc x As N f) := fun a U g mk h => ⟨h.1, h.2.1, va_K.moved (u := U) (U := U.calling g mk a) (Vm.Alike.refl U.vm) h.2.2.1, h.2.2.2.call⟩
theorem xPc.go {As : List Value} {H : Heap} {locs : List Loc} (C : xC x p s m c cc nL args own) (h1 : xh x.1 x.2.2.1 N f H) (h2 : va_S (xA x) s.heap H locs) (U : State) (hU : U.heap = H) (hW : s.WarmedH U.vm) : xPc x As N f As.toArray U := ⟨rfl, by rw [hU]; exact h1, va_K.moved hW.alike C.2.1, C.2.2.1.go hW (by rw [hU]; exact h2.2.1)⟩
theorem xMet {y : MethodName} {n d mc ms : Nat} {ret : Option FieldType} {As : List Value} {Qc : Array Value → State → Outcome → State → Prop} (hy : plainName y.cls = true) (hn : (lg_sl As).length ≤ n)
    (body : ∀ (p : Program) (e : Env) (s : State) (m : MethodId) (below : List Frame) (meth : Method) (c : Code), xC x p s m c cc n As.toArray y.cls → meth.locks = false → meth.sig.returnType = ret → meth.name = y.name → GW x p l e (rmd d mc ms) s m As.toArray below meth c n (MQ below Qc As.toArray s mc ms (xA x)) 0 (lv_args 0 As) [] N f 0 0) :
    Met l y (xws y cc n ret) (rmd d mc ms) (xPc x As N f) Qc mc ms (xA x) := by
  refine Met.ofW (cc := cc) (maxL := n) (ret := ret) hy rfl ?_
  intro p e s m args below meth c s₁ B hml hv
  obtain ⟨rfl, h1, h2, h3⟩ := hv
  have hts := atoms_spec (ws := xws y cc n ret) B.pre
  have hown : s.vm.findClass y.cls = some m.cls := findClass_of_methodNamed B.named
  have hl := lv_entry As (n := n) hn
  rw [lg_entry_eq]
  exact body p e s m below meth c ⟨⟨B.exec, B.bytes, hml, hown, fun w hw => hts w (List.mem_cons_of_mem _ hw)⟩, h2, h3, by rw [h1.1]; exact Nat.le_add_right _ _⟩ B.notSynchronized B.returns (name_of_methodNamed B.named B.method).1 s.heap [] _ h1 va_S.rf hl
theorem g_callVi (C : xC x p s m c cc nL args own) {C2 : String} {q0 ci : Nat} {fs : List Value} {T : u_T} {nf : Nat} {y : MethodName} {bytes : ByteArray} {maxL mc ms n d index : Nat} {ret : Option FieldType} {As rest : List Value} {S : Type} {FN : S → Nat} {FF : S → Nat → va_E} {K : Int32 → S → Prop} (hM : Met l y (xws y bytes maxL ret) (rmd d mc ms) (xPc x (.ref (x.2.2.1 + q0) :: As) N f) (va_Qi K (fun u t => xh x.1 x.2.2.1 (FN u) (FF u) t.heap) (xA x)) mc ms (xA x)) (cw : CallW R s args own C2 index y bytes maxL ret (xws y bytes maxL ret) (rmd d mc ms) mc ms n) (hc : classes[ci]? = some (C2, T, nf)) (hq : q0 < N) (hf : f q0 = .inr (ci, fs)) (hst : st = As.reverse ++ .ref (x.2.2.1 + q0) :: rest) (hn : As.length = n) (hW : (rest.map fun v => v.category).sum ≤ 8) (hd : decode cc pc = .ok (.invokevirtual index, 3)) (hr : i + mc ≤ R.cells ∧ j + ms ≤ R.slots)
    (k : ∀ (r : Int32) (u : S), K r u → GW x p l e R s m args below meth c nL Q (pc + 3) lo (.int r :: rest) (FN u) (FF u) (i + mc) (j + ms)) : GW x p l e R s m args below meth c nL Q pc lo st N f i j := by
  intro H locs ls h1 h2 h3
  subst hst
  exact va_calli (va_runV (As := As) (rest := rest) C.1 hM cw ⟨xPc.blind, va_recv C.2.1 (h1.one hq hf) hc (q0 := 0) rfl, fun U hU hW => xPc.go C h1 h2 U hU hW⟩ rfl hn h3.1 rfl (lv_room hW) hd hr) h2 (fun _ _ h => h) (fun _ h => h) (fun r u t H1 locs1 ht hvm hw hB hz1 hk1 hS1 => k r u hw H1 locs1 ls (by rw [← ht]; exact hB) hS1 h3)
theorem g_callSi (C : xC x p s m c cc nL args own) {y : MethodName} {bytes : ByteArray} {maxL mc ms n d index : Nat} {ret : Option FieldType} {As rest : List Value} {S : Type} {FN : S → Nat} {FF : S → Nat → va_E} {K : Int32 → S → Prop} (hM : Met l y (xws y bytes maxL ret) (rmd d mc ms) (xPc x As N f) (va_Qi K (fun u t => xh x.1 x.2.2.1 (FN u) (FF u) t.heap) (xA x)) mc ms (xA x)) (cw : (CallB R s args own index y bytes maxL ret (xws y bytes maxL ret) (rmd d mc ms) mc ms n ∧ (Cond.static y).before args s = true)) (hst : st = As.reverse ++ rest) (hn : As.length = n) (hW : (rest.map fun v => v.category).sum ≤ 8) (hd : decode cc pc = .ok (.invokestatic index, 3)) (hr : i + mc ≤ R.cells ∧ j + ms ≤ R.slots)
    (k : ∀ (r : Int32) (u : S), K r u → GW x p l e R s m args below meth c nL Q (pc + 3) lo (.int r :: rest) (FN u) (FF u) (i + mc) (j + ms)) : GW x p l e R s m args below meth c nL Q pc lo st N f i j := by
  intro H locs ls h1 h2 h3
  subst hst
  exact va_calli (va_runS (As := As) (rest := rest) C.1 hM cw ⟨xPc.blind, fun U hU hW => xPc.go C h1 h2 U hU hW⟩ rfl hn h3.1 rfl (lv_room hW) hd hr) h2 (fun _ _ h => h) (fun _ h => h) (fun r u t H1 locs1 ht hvm hw hB hz1 hk1 hS1 => k r u hw H1 locs1 ls (by rw [← ht]; exact hB) hS1 h3)
theorem g_callVl (C : xC x p s m c cc nL args own) {C2 : String} {q0 ci : Nat} {fs : List Value} {T : u_T} {nf : Nat} {y : MethodName} {bytes : ByteArray} {maxL mc ms n d index : Nat} {ret : Option FieldType} {As rest : List Value} {S : Type} {FN : S → Nat} {FF : S → Nat → va_E} {K : Int64 → S → Prop} (hM : Met l y (xws y bytes maxL ret) (rmd d mc ms) (xPc x (.ref (x.2.2.1 + q0) :: As) N f) (va_Ql K (fun u t => xh x.1 x.2.2.1 (FN u) (FF u) t.heap) (xA x)) mc ms (xA x)) (cw : CallW R s args own C2 index y bytes maxL ret (xws y bytes maxL ret) (rmd d mc ms) mc ms n) (hc : classes[ci]? = some (C2, T, nf)) (hq : q0 < N) (hf : f q0 = .inr (ci, fs)) (hst : st = As.reverse ++ .ref (x.2.2.1 + q0) :: rest) (hn : As.length = n) (hW : (rest.map fun v => v.category).sum ≤ 8) (hd : decode cc pc = .ok (.invokevirtual index, 3)) (hr : i + mc ≤ R.cells ∧ j + ms ≤ R.slots)
    (k : ∀ (r : Int64) (u : S), K r u → GW x p l e R s m args below meth c nL Q (pc + 3) lo (.long r :: rest) (FN u) (FF u) (i + mc) (j + ms)) : GW x p l e R s m args below meth c nL Q pc lo st N f i j := by
  intro H locs ls h1 h2 h3
  subst hst
  exact va_calll (va_runV (As := As) (rest := rest) C.1 hM cw ⟨xPc.blind, va_recv C.2.1 (h1.one hq hf) hc (q0 := 0) rfl, fun U hU hW => xPc.go C h1 h2 U hU hW⟩ rfl hn h3.1 rfl (lv_room hW) hd hr) h2 (fun _ _ h => h) (fun _ h => h) (fun r u t H1 locs1 ht hvm hw hB hz1 hk1 hS1 => k r u hw H1 locs1 ls (by rw [← ht]; exact hB) hS1 h3)
theorem g_callSl (C : xC x p s m c cc nL args own) {y : MethodName} {bytes : ByteArray} {maxL mc ms n d index : Nat} {ret : Option FieldType} {As rest : List Value} {S : Type} {FN : S → Nat} {FF : S → Nat → va_E} {K : Int64 → S → Prop} (hM : Met l y (xws y bytes maxL ret) (rmd d mc ms) (xPc x As N f) (va_Ql K (fun u t => xh x.1 x.2.2.1 (FN u) (FF u) t.heap) (xA x)) mc ms (xA x)) (cw : (CallB R s args own index y bytes maxL ret (xws y bytes maxL ret) (rmd d mc ms) mc ms n ∧ (Cond.static y).before args s = true)) (hst : st = As.reverse ++ rest) (hn : As.length = n) (hW : (rest.map fun v => v.category).sum ≤ 8) (hd : decode cc pc = .ok (.invokestatic index, 3)) (hr : i + mc ≤ R.cells ∧ j + ms ≤ R.slots)
    (k : ∀ (r : Int64) (u : S), K r u → GW x p l e R s m args below meth c nL Q (pc + 3) lo (.long r :: rest) (FN u) (FF u) (i + mc) (j + ms)) : GW x p l e R s m args below meth c nL Q pc lo st N f i j := by
  intro H locs ls h1 h2 h3
  subst hst
  exact va_calll (va_runS (As := As) (rest := rest) C.1 hM cw ⟨xPc.blind, fun U hU hW => xPc.go C h1 h2 U hU hW⟩ rfl hn h3.1 rfl (lv_room hW) hd hr) h2 (fun _ _ h => h) (fun _ h => h) (fun r u t H1 locs1 ht hvm hw hB hz1 hk1 hS1 => k r u hw H1 locs1 ls (by rw [← ht]; exact hB) hS1 h3)
theorem g_callVv (C : xC x p s m c cc nL args own) {C2 : String} {q0 ci : Nat} {fs : List Value} {T : u_T} {nf : Nat} {y : MethodName} {bytes : ByteArray} {maxL mc ms n d index : Nat} {ret : Option FieldType} {As rest : List Value} {S : Type} {FN : S → Nat} {FF : S → Nat → va_E} {K : S → Prop} (hM : Met l y (xws y bytes maxL ret) (rmd d mc ms) (xPc x (.ref (x.2.2.1 + q0) :: As) N f) (va_Qv K (fun u t => xh x.1 x.2.2.1 (FN u) (FF u) t.heap) (xA x)) mc ms (xA x)) (cw : CallW R s args own C2 index y bytes maxL ret (xws y bytes maxL ret) (rmd d mc ms) mc ms n) (hc : classes[ci]? = some (C2, T, nf)) (hq : q0 < N) (hf : f q0 = .inr (ci, fs)) (hst : st = As.reverse ++ .ref (x.2.2.1 + q0) :: rest) (hn : As.length = n) (hW : (rest.map fun v => v.category).sum ≤ 8) (hd : decode cc pc = .ok (.invokevirtual index, 3)) (hr : i + mc ≤ R.cells ∧ j + ms ≤ R.slots)
    (k : ∀ (u : S), K u → GW x p l e R s m args below meth c nL Q (pc + 3) lo rest (FN u) (FF u) (i + mc) (j + ms)) : GW x p l e R s m args below meth c nL Q pc lo st N f i j := by
  intro H locs ls h1 h2 h3
  subst hst
  exact va_callv (va_runV (As := As) (rest := rest) C.1 hM cw ⟨xPc.blind, va_recv C.2.1 (h1.one hq hf) hc (q0 := 0) rfl, fun U hU hW => xPc.go C h1 h2 U hU hW⟩ rfl hn h3.1 rfl (lv_room hW) hd hr) h2 (fun _ _ h => h) (fun _ h => h) (fun u t H1 locs1 ht hvm hw hB hz1 hk1 hS1 => k u hw H1 locs1 ls (by rw [← ht]; exact hB) hS1 h3)
theorem g_callSv (C : xC x p s m c cc nL args own) {y : MethodName} {bytes : ByteArray} {maxL mc ms n d index : Nat} {ret : Option FieldType} {As rest : List Value} {S : Type} {FN : S → Nat} {FF : S → Nat → va_E} {K : S → Prop} (hM : Met l y (xws y bytes maxL ret) (rmd d mc ms) (xPc x As N f) (va_Qv K (fun u t => xh x.1 x.2.2.1 (FN u) (FF u) t.heap) (xA x)) mc ms (xA x)) (cw : (CallB R s args own index y bytes maxL ret (xws y bytes maxL ret) (rmd d mc ms) mc ms n ∧ (Cond.static y).before args s = true)) (hst : st = As.reverse ++ rest) (hn : As.length = n) (hW : (rest.map fun v => v.category).sum ≤ 8) (hd : decode cc pc = .ok (.invokestatic index, 3)) (hr : i + mc ≤ R.cells ∧ j + ms ≤ R.slots)
    (k : ∀ (u : S), K u → GW x p l e R s m args below meth c nL Q (pc + 3) lo rest (FN u) (FF u) (i + mc) (j + ms)) : GW x p l e R s m args below meth c nL Q pc lo st N f i j := by
  intro H locs ls h1 h2 h3
  subst hst
  exact va_callv (va_runS (As := As) (rest := rest) C.1 hM cw ⟨xPc.blind, fun U hU hW => xPc.go C h1 h2 U hU hW⟩ rfl hn h3.1 rfl (lv_room hW) hd hr) h2 (fun _ _ h => h) (fun _ h => h) (fun u t H1 locs1 ht hvm hw hB hz1 hk1 hS1 => k u hw H1 locs1 ls (by rw [← ht]; exact hB) hS1 h3)
theorem x_cwV {C2 : String} {y : MethodName} {bytes : ByteArray} {maxL mc ms n d D index : Nat} {ret : Option FieldType} {MC MS : Nat} (C : xC x p s m c cc nL args own) (n : Nat) (hT : GoodIn gT (wsV own index C2 y (xws y bytes maxL ret))) (hd : y.cls = C2 ∧ y.cls ≠ "java/lang/invoke/MethodHandle" ∧ y.cls ≠ "java/lang/invoke/VarHandle" ∧ (parseMethodDescriptor y.desc).map (fun d => d.parameters.length) = some n) (h1 : d + 1 ≤ D) (h2 : maxL ≤ 45) : CallW (rmd D MC MS) s args own C2 index y bytes maxL ret (xws y bytes maxL ret) (rmd d mc ms) mc ms n :=
  cwV n C.1.2.2.2.2 hT rfl rfl rfl hd ⟨h1, by show 8 + (maxL + 11) + 64 * d ≤ 64 * D; omega⟩
theorem x_cwS {y : MethodName} {bytes : ByteArray} {maxL mc ms d D index : Nat} {ret : Option FieldType} {MC MS : Nat} (C : xC x p s m c cc nL args own) (n : Nat) (hT : GoodIn gT (va_wsS own index y (xws y bytes maxL ret))) (hd : y.cls ≠ "java/lang/invoke/MethodHandle" ∧ y.cls ≠ "java/lang/invoke/VarHandle" ∧ (parseMethodDescriptor y.desc).map (fun d => d.parameters.length) = some n) (h1 : d + 1 ≤ D) (h2 : maxL ≤ 45) : CallB (rmd D MC MS) s args own index y bytes maxL ret (xws y bytes maxL ret) (rmd d mc ms) mc ms n ∧ (Cond.static y).before args s = true :=
  va_cwS n C.1.2.2.2.2 hT rfl rfl rfl hd ⟨h1, by show 8 + (maxL + 11) + 64 * d ≤ 64 * D; omega⟩
theorem g_getf (C : xC x p s m c cc nL args own) {ref C2 : String} {T : u_T} {n ci index q0 k0 : Nat} {fs : List Value} {v : Value} (hin : ∀ w ∈ u_ws C2 T n, w ∈ gT) (hc : classes[ci]? = some (C2, T, n)) (hq : q0 < N) (hf : f q0 = .inr (ci, fs)) (hk : k0 < n) (hl : Cond.fieldLink own index ref (T k0).2.1 (T k0).2.2.1 ∈ gT) (hs : (T k0).1 = ref) (hv : fs[k0]? = some v) (hd : decode cc pc = .ok (.getfield index, 3)) (k : GW x p l e R s m args below meth c nL Q (pc + 3) lo (v :: st) N f i j) : GW x p l e R s m args below meth c nL Q pc lo (.ref (x.2.2.1 + q0) :: st) N f i j := fun H locs ls h1 h2 h3 => va_get C.1.1 C.1.2.1 C.1.2.2.2.2 hin C.1.2.2.2.1 C.2.1 (h1.one hq hf) 0 rfl hc k0 hk (C.1.2.2.2.2 _ hl) (fun z hz => by rw [← hs]; exact hz) hv hd (k H locs ls h1 h2 h3)
theorem g_putf (C : xC x p s m c cc nL args own) {ref C2 : String} {T : u_T} {n ci index q0 k0 : Nat} {fs : List Value} {v : Value} {ty : FieldType} (hin : ∀ w ∈ u_ws C2 T n, w ∈ gT) (ty0 : Nat → FieldType) (hty : ∀ k, k < n → parseFieldDescriptor (T k).2.2.1 = some (ty0 k)) (hnm : ∀ a, a < n → ∀ b, b < n → a ≠ b → (T a).2.1 ≠ (T b).2.1) (hc : classes[ci]? = some (C2, T, n)) (hq : q0 < N) (hf : f q0 = .inr (ci, fs)) (hk : k0 < n) (hl : Cond.fieldLink own index ref (T k0).2.1 (T k0).2.2.1 ∈ gT) (hs : (T k0).1 = ref) (hfin : (T k0).2.2.2 = false) (hpd : parseFieldDescriptor (T k0).2.2.1 = some ty) (hn : narrow ty v = v) (hfit : fits ty v = true) (hle : k0 < fs.length) (hd : decode cc pc = .ok (.putfield index, 3)) (k : GW x p l e R s m args below meth c nL Q (pc + 3) lo st N (va_up f q0 (.inr (ci, fs.set k0 v))) i j) : GW x p l e R s m args below meth c nL Q pc lo (v :: .ref (x.2.2.1 + q0) :: st) N f i j := by
  intro H locs ls h1 h2 h3
  have hts := C.1.2.2.2.2
  have hap := va_apart (own := own) hts hin ty0 hty hnm C.2.1 hc
  have hP := h1.one hq hf
  obtain ⟨r, z1, cell, q1, q2, q3, q4⟩ := hP 0 _ rfl
  have hr : r = (C2, T, n) := Option.some.inj (z1.symm.trans hc)
  subst hr
  obtain ⟨hS, hfc, kC, hkC, hkind⟩ := C.2.1.1 ci _ hc
  obtain ⟨cf, kf, fi, fd, hi, hsl⟩ := hS k0 hk
  have hlay := hts _ (hin _ (u_in_lay hk))
  unfold u_lay at hlay
  rw [if_neg (by rw [hfin]; decide)] at hlay
  have hst := (u_facts hfc hkC (u_lays hts hin hk) hi).1
  have h6 := u_store hfc hkC hkind hlay hi hpd hn hfit
  have hi' : s.fieldFound? ref (T k0).2.1 (T k0).2.2.1 = some (cf, kf, fi, fd) := by rw [← hs]; exact hi
  refine W.putK C.1.1 C.1.2.1 (f := fd) ⟨C.1.2.2.2.1, hts _ hl, ⟨_, _, _, hi'⟩, hst⟩ (by rw [q2]; exact h6) q1 q3 (by rw [hsl]; exact k2_hasslot (q4 k0 hk)) rfl rfl hd fun H' e1 e2 e3 => ?_
  rw [hsl] at e1 ⊢
  refine k H' _ ls (h1.put e2 ⟨_, hc, t_OB.to (V := updV (vp_V fs) k0 v) ⟨_, e1, q2, q3, t_set q4 hap hk v⟩ (fun j _ => vp_updV_set hle v j)⟩ e3) (h2.put e2 e3 (Nat.le_add_right _ _)) h3
theorem g_iald (C : xC x p s m c cc nL args own) {q0 n : Nat} {g : Nat → Int32} {a : Int32} (hq : q0 < N) (hf : f q0 = .inl (x.2.1 0, n, .inl g)) (ha : vp_in a n) (hd : decode cc pc = .ok (.iaload, 1)) (k : GW x p l e R s m args below meth c nL Q (pc + 1) lo (.int (g a.toNatClampNeg) :: st) N f i j) : GW x p l e R s m args below meth c nL Q pc lo (.int a :: .ref (x.2.2.1 + q0) :: st) N f i j := fun H locs ls h1 h2 h3 => va_iald C.1.1 C.1.2.1 C.2.1 (h1.one hq hf) 0 0 rfl rfl ha hd (k H locs ls h1 h2 h3)
theorem g_lald (C : xC x p s m c cc nL args own) {q0 n : Nat} {g : Nat → Int64} {a : Int32} (hq : q0 < N) (hf : f q0 = .inl (x.2.1 1, n, .inr (.inl g))) (ha : vp_in a n) (hd : decode cc pc = .ok (.laload, 1)) (k : GW x p l e R s m args below meth c nL Q (pc + 1) lo (.long (g a.toNatClampNeg) :: st) N f i j) : GW x p l e R s m args below meth c nL Q pc lo (.int a :: .ref (x.2.2.1 + q0) :: st) N f i j := fun H locs ls h1 h2 h3 => va_lald C.1.1 C.1.2.1 C.2.1 (h1.one hq hf) 0 1 rfl rfl ha hd (k H locs ls h1 h2 h3)
theorem g_bald (C : xC x p s m c cc nL args own) {q0 n : Nat} {g : Nat → Int32} {a : Int32} (hq : q0 < N) (hf : f q0 = .inl (x.2.1 2, n, .inl g)) (ha : vp_in a n) (hd : decode cc pc = .ok (.baload, 1)) (k : GW x p l e R s m args below meth c nL Q (pc + 1) lo (.int (g a.toNatClampNeg) :: st) N f i j) : GW x p l e R s m args below meth c nL Q pc lo (.int a :: .ref (x.2.2.1 + q0) :: st) N f i j := fun H locs ls h1 h2 h3 => va_bald C.1.1 C.1.2.1 C.2.1 (h1.one hq hf) 0 2 rfl rfl ha hd (k H locs ls h1 h2 h3)
theorem g_zald (C : xC x p s m c cc nL args own) {q0 n : Nat} {g : Nat → Int32} {a : Int32} (hq : q0 < N) (hf : f q0 = .inl (x.2.1 3, n, .inl g)) (ha : vp_in a n) (hd : decode cc pc = .ok (.baload, 1)) (k : GW x p l e R s m args below meth c nL Q (pc + 1) lo (.int (g a.toNatClampNeg) :: st) N f i j) : GW x p l e R s m args below meth c nL Q pc lo (.int a :: .ref (x.2.2.1 + q0) :: st) N f i j := fun H locs ls h1 h2 h3 => va_zald C.1.1 C.1.2.1 C.2.1 (h1.one hq hf) 0 3 rfl rfl ha hd (k H locs ls h1 h2 h3)
theorem g_iast (C : xC x p s m c cc nL args own) {q0 n : Nat} {g : Nat → Int32} {a : Int32} {v : Int32} (hq : q0 < N) (hf : f q0 = .inl (x.2.1 0, n, .inl g)) (ha : vp_in a n) (hd : decode cc pc = .ok (.iastore, 1)) (k : GW x p l e R s m args below meth c nL Q (pc + 1) lo st N (va_up f q0 (.inl (x.2.1 0, n, .inl (upd g a.toNatClampNeg v)))) i j) : GW x p l e R s m args below meth c nL Q pc lo (.int v :: .int a :: .ref (x.2.2.1 + q0) :: st) N f i j := by
  intro H locs ls h1 h2 h3
  have hP := h1.one hq hf
  refine W.iast C.1.1 C.1.2.1 (hP 0 _ rfl) ((C.2.1.2 0 _ rfl).1 n (fun j => .int (g j))) (fun q => by cases q) (by show ¬ (a < 0 ∨ (arrV _ _ _).slots.size ≤ _); rw [arrV_size]; exact ha) rfl rfl hd fun H1 e z oq => ?_
  refine k H1 _ ls (h1.put z ?_ oq) (h2.put z oq (Nat.le_add_right _ _)) h3
  show H1[x.2.2.1 + q0]? = some (vp_cell _ _)
  rw [e]
  rw [vp_cell_i, vp_cell_i, arrV_store]
  congr 2
  funext q
  by_cases hq : q = a.toNatClampNeg
  · subst hq
    simp [updV, upd]
  · simp [updV, upd, vp_updL, hq]
theorem g_last (C : xC x p s m c cc nL args own) {q0 n : Nat} {g : Nat → Int64} {a : Int32} {v : Int64} (hq : q0 < N) (hf : f q0 = .inl (x.2.1 1, n, .inr (.inl g))) (ha : vp_in a n) (hd : decode cc pc = .ok (.lastore, 1)) (k : GW x p l e R s m args below meth c nL Q (pc + 1) lo st N (va_up f q0 (.inl (x.2.1 1, n, .inr (.inl (vp_updL g a.toNatClampNeg v))))) i j) : GW x p l e R s m args below meth c nL Q pc lo (.long v :: .int a :: .ref (x.2.2.1 + q0) :: st) N f i j := by
  intro H locs ls h1 h2 h3
  have hP := h1.one hq hf
  refine W.last C.1.1 C.1.2.1 (hP 0 _ rfl) ((C.2.1.2 1 _ rfl).1 n (fun j => .long (g j))) (fun q => by cases q) (by show ¬ (a < 0 ∨ (arrV _ _ _).slots.size ≤ _); rw [arrV_size]; exact ha) rfl rfl hd fun H1 e z oq => ?_
  refine k H1 _ ls (h1.put z ?_ oq) (h2.put z oq (Nat.le_add_right _ _)) h3
  show H1[x.2.2.1 + q0]? = some (vp_cell _ _)
  rw [e]
  rw [vp_cell_l, vp_cell_l, arrV_store]
  congr 2
  funext q
  by_cases hq : q = a.toNatClampNeg
  · subst hq
    simp [updV, vp_updL]
  · simp [updV, upd, vp_updL, hq]
theorem g_bast (C : xC x p s m c cc nL args own) {q0 n : Nat} {g : Nat → Int32} {a : Int32} {v : Int32} (hq : q0 < N) (hf : f q0 = .inl (x.2.1 2, n, .inl g)) (ha : vp_in a n) (hd : decode cc pc = .ok (.bastore, 1)) (k : GW x p l e R s m args below meth c nL Q (pc + 1) lo st N (va_up f q0 (.inl (x.2.1 2, n, .inl (upd g a.toNatClampNeg (vp_nar .byte v))))) i j) : GW x p l e R s m args below meth c nL Q pc lo (.int v :: .int a :: .ref (x.2.2.1 + q0) :: st) N f i j := by
  intro H locs ls h1 h2 h3
  have hP := h1.one hq hf
  refine W.bast C.1.1 C.1.2.1 (hP 0 _ rfl) ((C.2.1.2 2 _ rfl).1 n (fun j => .int (g j))) (fun q => by cases q) (by show ¬ (a < 0 ∨ (arrV _ _ _).slots.size ≤ _); rw [arrV_size]; exact ha) rfl rfl hd fun H1 e z oq => ?_
  refine k H1 _ ls (h1.put z ?_ oq) (h2.put z oq (Nat.le_add_right _ _)) h3
  show H1[x.2.2.1 + q0]? = some (vp_cell _ _)
  rw [e]
  rw [vp_cell_i, vp_cell_i, arrV_store]
  congr 2
  funext q
  by_cases hq : q = a.toNatClampNeg
  · subst hq
    (simp [updV, upd, vp_nar]; try rfl)
  · simp [updV, upd, vp_updL, hq]
theorem g_zast (C : xC x p s m c cc nL args own) {q0 n : Nat} {g : Nat → Int32} {a : Int32} {v : Int32} (hq : q0 < N) (hf : f q0 = .inl (x.2.1 3, n, .inl g)) (ha : vp_in a n) (hd : decode cc pc = .ok (.bastore, 1)) (k : GW x p l e R s m args below meth c nL Q (pc + 1) lo st N (va_up f q0 (.inl (x.2.1 3, n, .inl (upd g a.toNatClampNeg (vp_nar .boolean v))))) i j) : GW x p l e R s m args below meth c nL Q pc lo (.int v :: .int a :: .ref (x.2.2.1 + q0) :: st) N f i j := by
  intro H locs ls h1 h2 h3
  have hP := h1.one hq hf
  refine W.zast C.1.1 C.1.2.1 (hP 0 _ rfl) ((C.2.1.2 3 _ rfl).1 n (fun j => .int (g j))) (fun q => by cases q) (by show ¬ (a < 0 ∨ (arrV _ _ _).slots.size ≤ _); rw [arrV_size]; exact ha) rfl rfl hd fun H1 e z oq => ?_
  refine k H1 _ ls (h1.put z ?_ oq) (h2.put z oq (Nat.le_add_right _ _)) h3
  show H1[x.2.2.1 + q0]? = some (vp_cell _ _)
  rw [e]
  rw [vp_cell_i, vp_cell_i, arrV_store]
  congr 2
  funext q
  by_cases hq : q = a.toNatClampNeg
  · subst hq
    (simp [updV, upd, vp_nar]; try rfl)
  · simp [updV, upd, vp_updL, hq]
end XL
end
